/-! rows for the JDK's lists and arrays -/
theorem je_anyF {l : Launch} {y : MethodName} {cc : ByteArray} {n : Nat} {rt : Option FieldType} {fr lo mc ms : Nat} {D : va_G} {cs : C4} {h : Hp} {av : List Value} {Qc : Array Value → State → Outcome → State → Prop} (hy : plainFor y = true) (hlen : (lg_sl av).length ≤ n)
    (body : ∀ (p : Program) (e : Env) (s : State) (m : MethodId) (args : Array Value) (below : List Frame) (meth : Method) (c : Code), Cx p s m args meth c cc n rt y.cls D cs (fA h) h.se → meth.name = y.name → Wo D cs (fA h) s h h s.heap [] 0 0 → ∀ ls : Array Slot, lv_has ls n (lv_args 0 av) →
      W p l e { frames := fr, cells := mc, slots := ms, locals := lo } s m args below meth c s.heap [] 0 0 (MQ below Qc args s mc ms (fA h)) (F0 m 0 ls [])) :
    Met l y (wG y cc n rt) { frames := fr, cells := mc, slots := ms, locals := lo } (va_Pc av (PreW D cs h)) Qc mc ms (fA h) := by
  refine va_MetF (cc := cc) (maxL := n) (ret := rt) hy rfl ?_
  intro p e s m args below meth c s₁ B hml hv
  obtain ⟨rfl, ⟨q1, q2, q3, q4⟩, hse, hN⟩ := hv
  have hl := lv_entry av (n := n) hlen
  rw [lg_entry_eq]
  exact body p e s m _ below meth c ⟨B.exec, B.bytes, hml, findClass_of_methodNamed B.named, fun w hw => atoms_spec (ws := wG y cc n rt) B.pre w (List.mem_cons_of_mem _ hw), q4, fun q h => Or.inr (q2 ▸ h), B.returns, B.notSynchronized, hse, hN⟩ (name_of_methodNamed B.named B.method).1 ⟨q1, fun a ha => Or.inl ha, va_S.rf, q2, q3, Nat.zero_add _, Nat.zero_add _, rfl⟩ _ hl
/-- an array's contents as a whole -/
def Hp.tai (h : Hp) (a : Nat) (f : Nat → Int32) : Hp := (h.nx, h.su, h.se, h.kd, h.fi, h.fl, h.fr, h.al, va_up h.ai a f, h.aw, h.ar, h.gi, h.gl, h.gr, h.bi, h.bw)
def Hp.tar (h : Hp) (a : Nat) (f : Nat → Option Nat) : Hp := (h.nx, h.su, h.se, h.kd, h.fi, h.fl, h.fr, h.al, h.ai, h.aw, va_up h.ar a f, h.gi, h.gl, h.gr, h.bi, h.bw)
theorem ag_tai (h : Hp) (a : Nat) (f : Nat → Int32) {b : Nat} (hb : b ≠ a) : AgA h (h.tai a f) b := ⟨fun _ => rfl, fun _ => rfl, fun _ => rfl, rfl, va_up_ne _ _ hb, rfl, rfl, fun _ => rfl, fun _ => rfl, fun _ => rfl, rfl, rfl⟩
theorem ag_tar (h : Hp) (a : Nat) (f : Nat → Option Nat) {b : Nat} (hb : b ≠ a) : AgA h (h.tar a f) b := ⟨fun _ => rfl, fun _ => rfl, fun _ => rfl, rfl, rfl, rfl, va_up_ne _ _ hb, fun _ => rfl, fun _ => rfl, fun _ => rfl, rfl, rfl⟩
/-- what may lie in a list: a call, a chain, a transaction -/
abbrev okE (h : Hp) (v : Nat) : Prop := h.kd v = 5 ∨ h.kd v = 6 ∨ h.kd v = 10
def okV (h : Hp) (x : Option Nat) : Bool := match x with
  | none => true
  | some v => decide (okE h v)
/-- an array of Object, or the static empty one: its length -/
def alO {β : Type} (h : Hp) (x : Option Nat) (f : Int32 → Option β) : Option β := match x with
  | none => none
  | some a => if a = h.se.1 then f 0 else if h.kd a = 23 then f (nI (h.al a)) else none
theorem alO_some {β : Type} {h : Hp} {x : Option Nat} {f : Int32 → Option β} {r : β} (e : alO h x f = some r) : ∃ (a : Nat) (n : Int32), x = some a ∧ ((a = h.se.1 ∧ n = 0) ∨ (h.kd a = 23 ∧ n = nI (h.al a))) ∧ f n = some r := by
  cases x with
  | none => cases e
  | some a =>
    have e : (if a = h.se.1 then f 0 else if h.kd a = 23 then f (nI (h.al a)) else none) = some r := e
    by_cases q : a = h.se.1
    · rw [if_pos q] at e; exact ⟨a, 0, rfl, Or.inl ⟨q, rfl⟩, e⟩
    · rw [if_neg q] at e
      by_cases q2 : h.kd a = 23
      · rw [if_pos q2] at e; exact ⟨a, _, rfl, Or.inr ⟨q2, rfl⟩, e⟩
      · rw [if_neg q2] at e; cases e
theorem mc_same {args : Array Value} {s : State} (hts : ∀ w ∈ TB, w.before args s = true) : ∀ x, s.fieldFound? "java/util/AbstractList" "modCount" "I" = some x → s.fieldFound? "java/util/ArrayList" "modCount" "I" = some x := by
  intro x hx
  have h : (Cond.sameField "java/util/ArrayList" "java/util/AbstractList" "modCount" "I").before args s = true := hts _ tw_1_67
  cases hj : s.fieldFound? "java/util/ArrayList" "modCount" "I" with
  | none => simp [Cond.before, Cond.holds, Cond.value, hj] at h
  | some y =>
    obtain ⟨c', k', i', f'⟩ := y
    have := Cond.sameField_spec hj h
    exact congrArg some (Option.some.inj (this.symm.trans hx))
section JK
variable {p : Program} {l : Launch} {e : Env} {R : Room} {s : State} {m : MethodId} {args : Array Value} {below : List Frame} {meth : Method} {c : Code} {H : Heap} {locs : List Loc} {cells slots : Nat} {Q : State → Prop}
variable {cc : ByteArray} {nL : Nat} {rt : Option FieldType} {own : String} {D : va_G} {cs : C4} {A : Nat → Prop} {h0 h hz : Hp} {se : Nat × Nat} {pc a index mc ms F LO : Nat} {ls : Array Slot} {rest : List Value} {i : Int32}
theorem Wo.putL {h' : Hp} {H' : Heap} {L : List Loc} (w : Wo D cs A s h0 h H locs cells slots) (ha : h.kd a ≠ 0)
    (he : va_at D vwCl (a, cellK cs h' (h.kd a) a) H') (hz : H'.size = H.size) (ho : ∀ q, q ≠ a → H'[q]? = H[q]?) (hag : ∀ b, b ≠ a → AgA h h' b) (hkd : h'.kd = h.kd) (hnx : h'.nx = h.nx) (hsu : h'.su = h.su) (hse : h'.se = h.se) (hL : ∀ z ∈ L, z.base = a) :
    Wo D cs A s h0 h' H' (locs ++ L) cells slots := by
  have w9 := w.put (k := 0) ha he hz ho hag hkd hnx hsu hse
  obtain ⟨w1, w2, w3, w4, w5, w6, w7, w8⟩ := w9
  refine ⟨w1, w2, ⟨w3.1, w3.2.1, fun z hz => ?_⟩, w4, w5, w6, w7, w8⟩
  rcases List.mem_append.mp hz with q | q
  · exact w.2.2.1.2.2 z q
  · rw [hL z q]; exact w.2.1 a ha
theorem jr_gets (C : Cx p s m args meth c cc nL rt own D cs A h0.se) (w : Wo D cs A s h0 h H locs cells slots) (hl : Cond.fieldLink own index "java/util/ArrayList" "DEFAULTCAPACITY_EMPTY_ELEMENTDATA" "[Ljava/lang/Object;" ∈ TB) (hdg : decode cc pc = .ok (.getstatic index, 3))
    (kk : W p l e R s m args below meth c H locs cells slots Q (F0 m (pc + 3) ls (.ref h.se.1 :: rest))) : W p l e R s m args below meth c H locs cells slots Q (F0 m pc ls rest) := by
  obtain ⟨hx, hb, hml, hown, hts, hK, hA, h8, h9, ⟨z1, z2, z3, z4⟩, h11⟩ := C
  rw [w.2.2.2.2.2.2.2] at kk
  exact va_gets hx hb z1 w.2.2.1 hown (hts _ hl) (fun _ h => h) hdg kk
theorem jr_ldcM (C : Cx p s m args meth c cc nL rt own D cs A h0.se) (w : Wo D cs A s h0 h H locs cells slots) (hl : Cond.classLink own index "[Ljava/lang/Object;" ∈ TB) (hdg : decode cc pc = .ok (.ldc index, 2))
    (kk : W p l e R s m args below meth c H locs cells slots Q (F0 m (pc + 2) ls (.ref h.se.2 :: rest))) : W p l e R s m args below meth c H locs cells slots Q (F0 m pc ls rest) := by
  rw [w.2.2.2.2.2.2.2] at kk
  exact va_ldcM C.1 C.2.1 C.2.2.2.1 (C.2.2.2.2.1 _ hl) (nw_all C).1 hdg kk
theorem jr_alO (C : Cx p s m args meth c cc nL rt own D cs A h0.se) (w : Wo D cs A s h0 h H locs cells slots) {n : Int32} (hn : (a = h.se.1 ∧ n = 0) ∨ (h.kd a = 23 ∧ n = nI (h.al a))) (hdg : decode cc pc = .ok (.arraylength, 1))
    (kk : W p l e R s m args below meth c H locs cells slots Q (F0 m (pc + 1) ls (.int n :: rest))) : W p l e R s m args below meth c H locs cells slots Q (F0 m pc ls (.ref a :: rest)) := by
  rcases hn with ⟨q1, q2⟩ | ⟨q1, q2⟩
  · obtain ⟨hx, hb, hml, hown, hts, hK, hA, h8, h9, ⟨z1, z2, z3, z4⟩, h11⟩ := C
    rw [q1, w.2.2.2.2.2.2.2]
    exact va_tlen hx hb z2 w.2.2.1 (by rw [q2]; rfl) hdg kk
  · rw [q2] at kk
    exact jr_alen C w q1 (by decide) hdg kk
theorem jr_getC (C : Cx p s m args meth c cc nL rt own D cs A h0.se) (w : Wo D cs A s h0 h H locs cells slots) (hl : Cond.methodLink own index ⟨"java/lang/Object", "getClass", "()Ljava/lang/Class;"⟩ ∈ TB) (hk : h.kd a = 23) (hls : ls.size = nL) (hframes : 1 ≤ R.frames) (hlocals : (rest.map fun v => v.category).sum + 14 ≤ R.locals) (hdg : decode cc pc = .ok (.invokevirtual index, 3))
    (kk : W p l e R s m args below meth c H locs cells slots Q (F0 m (pc + 3) ls (.ref h.se.2 :: rest))) : W p l e R s m args below meth c H locs cells slots Q (F0 m pc ls (.ref a :: rest)) := by
  rw [w.2.2.2.2.2.2.2] at kk
  have hat := at_k w hk (by decide)
  rw [cell_23] at hat
  exact va_getC (C := "[Ljava/lang/Object;") C.1 C.2.1 (C.2.2.1.trans hls.symm) C.2.2.2.1 (C.2.2.2.2.1 _ hl) (va_Dc.use (nw_all C).2.1) (C.2.2.2.2.1 _ tw_8_174) (C.2.2.2.2.1 _ tw_2_114) (C.2.2.2.2.1 _ tw_2_135) (nw_all C).1 ⟨_, hat, rfl, va_nmO (C.2.2.2.2.2.1.2 3 _ rfl).2 (by decide +kernel)⟩ hframes hlocals hdg kk
theorem cast_ok (C : Cx p s m args meth c cc nL rt own D cs A se) (w : Wo D cs A s h0 h H locs cells slots) {v : Nat} (hv : okE h v) : ∃ cell : Cell, H[v]? = some cell ∧ cell.vm = .none ∧ (∃ kC : Class, s.vm.classes[cell.cls]? = some kC) ∧ ∀ comp : ClassId, s.vm.findClass "java/lang/Object" = some comp → s.vm.assignable cell.cls comp = true := by
  have key : ∀ (ci : Nat) (r : vw_C) (fs : List Value), h.kd v = ci → ci ≠ 0 → vwCl[ci]? = some r → cellK cs h ci v = .inr (ci, fs) → va_Nw (.castable r.1 "java/lang/Object") s → ∃ cell : Cell, H[v]? = some cell ∧ cell.vm = .none ∧ (∃ kC : Class, s.vm.classes[cell.cls]? = some kC) ∧ ∀ comp : ClassId, s.vm.findClass "java/lang/Object" = some comp → s.vm.assignable cell.cls comp = true := by
    intro ci r fs hk h0c hc hf hca
    have hav := at_k w hk h0c
    rw [hf] at hav
    obtain ⟨r', hr', cellV, g1, g2, g3, -⟩ := hav
    have hcls := (C.2.2.2.2.2.1.1 ci r hc).2
    obtain ⟨c0, t1, f1, f2, f3⟩ := Cond.castable_spec (va_Nw.use (A := args) rfl hca)
    cases hcls.1.symm.trans f1
    obtain ⟨kC, hkC, -⟩ := hcls.2
    refine ⟨cellV, g1, g3, ⟨kC, by rw [g2]; exact hkC⟩, fun comp hcomp => ?_⟩
    cases hcomp.symm.trans f2
    rw [g2]; exact f3
  obtain ⟨h0', h00, h1, h2, h3, h4, h5, h6, h7, h8, h9⟩ := nw_all C
  rcases hv with q | q | q
  · exact key 5 _ (fs5 h v) q (by decide) rfl rfl h8
  · exact key 6 _ (fs6 h v) q (by decide) rfl rfl h7
  · exact key 10 _ (fs10 h v) q (by decide) rfl rfl h6
/-- into an array of Object -/
theorem jr_aastV (C : Cx p s m args meth c cc nL rt own D cs A se) (w : Wo D cs A s h0 h H locs cells slots) {x : Option Nat} (hk : h.kd a = 23) (hin : ¬ (i < 0 ∨ h.al a ≤ i.toNatClampNeg)) (hv : okV h x = true) (hdg : decode cc pc = .ok (.aastore, 1))
    (kk : ∀ (H1 : Heap) (locs1 : List Loc), Wo D cs A s h0 (h.sar a i.toNatClampNeg x) H1 locs1 cells slots → W p l e R s m args below meth c H1 locs1 cells slots Q (F0 m (pc + 1) ls rest)) : W p l e R s m args below meth c H locs cells slots Q (F0 m pc ls (va_rf x :: .int i :: .ref a :: rest)) := by
  have hat := at_k w hk (by decide)
  rw [cell_23] at hat
  have hK := C.2.2.2.2.2.1
  have fin : ∀ (v : Value), v = va_rf x → ∀ (H1 : Heap), H1[a]? = some ((vp_cell cs.2.2.2 (h.al a, .inr (.inr (.inr (.inr (h.ar a)))))).setSlot i.toNatClampNeg v) → H1.size = H.size → (∀ q, q ≠ a → H1[q]? = H[q]?) → W p l e R s m args below meth c H1 (locs ++ [⟨a, i.toNatClampNeg⟩]) cells slots Q (F0 m (pc + 1) ls rest) := by
    intro v ev H1 e1 z oq
    refine kk H1 _ (w.put (by rw [hk]; decide) ?_ z oq (fun b hb => ag_sar h a _ x hb) rfl rfl rfl rfl)
    rw [hk, cell_23]
    show H1[a]? = some (vp_cell _ _)
    rw [e1, vp_cell_q, vp_cell_q, arrV_store]
    congr 2
    funext j
    show updV _ _ _ j = va_rf (va_up h.ar a (va_up (h.ar a) i.toNatClampNeg x) a j)
    rw [va_up_self]
    by_cases hj : j = i.toNatClampNeg
    · subst hj; rw [ev]; simp [updV, va_up_self]
    · simp [updV, hj, va_up_ne _ _ hj]
  cases x with
  | none =>
    exact va_WaastN (C := "java/lang/Object") C.1 C.2.1 hat ((hK.2 3 _ rfl).1 (h.al a) (fun j => va_rf (h.ar a j))) (fun h => by cases h) (by show ¬ (i < 0 ∨ (arrV _ _ _).slots.size ≤ _); rw [arrV_size]; exact hin) rfl rfl hdg (fin _ rfl)
  | some v =>
    obtain ⟨cellV, g1, g3, ⟨kC, hkC⟩, hasg⟩ := cast_ok C w (of_decide_eq_true hv)
    obtain ⟨kA, comp, k1, k2, k3, -⟩ := (hK.2 3 _ rfl).2
    obtain ⟨kE, hkE, -⟩ := Vm.findClass_spec k3
    have hlt : i.toNatClampNeg < h.al a := Nat.not_le.mp fun q => hin (Or.inr q)
    have hnn : ¬ i < 0 := fun q => hin (Or.inl q)
    exact W.aast C.1 C.2.1 hat (fun q h => by cases h) (fun h => by cases h) k1 k2 rfl hkE ⟨hnn, by show _ < (arrV _ _ _).slots.size; rw [arrV_size]; exact hlt⟩ g1 (fun q h => by rw [g3] at h; cases h) hkC (hasg comp k3) rfl rfl hdg (fin _ rfl)
/-- new Object[n] -/
theorem fa_23 (C : Cx p s m args meth c cc nL rt own D cs A se) (w : Wo D cs A s h0 h H locs cells slots) {n : Int32} (hn : ¬ n < 0 ∧ n.toNatClampNeg ≤ 67108864) (hz1 : Mo (h.new 23 n.toNatClampNeg n.toNatClampNeg) hz) (hz2 : hz.nx ≤ h0.nx + mc ∧ hz.su ≤ h0.su + ms) (hl : Cond.classLink own index "java/lang/Object" ∈ TB) (hdg : decode cc pc = .ok (.anewarray index, 3))
    (kk : ∀ (H1 : Heap), Wo D cs A s h0 (h.new 23 n.toNatClampNeg n.toNatClampNeg) H1 locs (cells + 1) (slots + n.toNatClampNeg) → W p l e { frames := F, cells := mc, slots := ms, locals := LO } s m args below meth c H1 locs (cells + 1) (slots + n.toNatClampNeg) Q (F0 m (pc + 3) ls (va_rf (some h.nx) :: rest))) : W p l e { frames := F, cells := mc, slots := ms, locals := LO } s m args below meth c H locs cells slots Q (F0 m pc ls (.int n :: rest)) := by
  have hAO := (nw_all C).2.2.1
  obtain ⟨hx, hb, hml, hown, hts, hK, hA, -⟩ := C
  refine W.anew hx hb hown (hts _ hl) (va_AO.use hAO) rfl hdg rfl hn.1 (by omega) (rm_new w hz1 hz2).1 (rm_new w hz1 hz2).2 fun cA kA comp f1 f2 f3 f4 => ?_
  have e2 := arr_uniq hK 3 rfl f1
  dsimp only at e2
  subst e2
  have hsz := w.2.2.2.1
  generalize hH1 : H.push ({ cls := cs.2.2.2, slots := Array.replicate n.toNatClampNeg .null, vm := .none } : Cell) = H1
  have z1 : H1.size = H.size + 1 := by rw [← hH1, Array.size_push]
  have e1 : H1[H.size]? = some (arrV cs.2.2.2 n.toNatClampNeg (fun _ => .null)) := by rw [← hH1, Array.getElem?_push_size, ← arrV_new]
  have o1 : ∀ q : Nat, q < H.size → H1[q]? = H[q]? := fun q hq => by rw [← hH1, Array.getElem?_push, if_neg (Nat.ne_of_lt hq)]
  rw [hsz]
  refine kk H1 (w.new hA ?_ z1 o1)
  rw [cell_23]
  show H1[h.nx]? = some (vp_cell cs.2.2.2 (va_up h.al h.nx _ h.nx, .inr (.inr (.inr (.inr (va_up h.ar h.nx _ h.nx))))))
  rw [va_up_self, va_up_self, vp_cell_q, ← hsz]
  exact e1
theorem nn_i (z : Int32) (hz : ¬ z < 0) : z.toInt = (z.toNatClampNeg : Int) := by
  have hz0 : (0 : Int) ≤ z.toInt := by
    have := Int32.not_lt.mp hz
    simpa using Int32.le_iff_toInt_le.mp this
  show z.toInt = ((z.toInt.toNat : Nat) : Int)
  omega
/-- System.arraycopy between int[] -/
theorem jr_cpi (C : Cx p s m args meth c cc nL rt own D cs A se) (w : Wo D cs A s h0 h H locs cells slots) {a0 : Nat} {sp dp n : Int32} (hml2 : ls.size = nL) (hl : Cond.methodLink own index arraycopyName ∈ TB) (hk0 : h.kd a0 = 20) (hk : h.kd a = 20)
    (hc : ¬ sp < 0 ∧ ¬ dp < 0 ∧ ¬ n < 0 ∧ sp.toNatClampNeg + n.toNatClampNeg ≤ h.al a0 ∧ dp.toNatClampNeg + n.toNatClampNeg ≤ h.al a)
    (hframes : 1 ≤ R.frames) (hlocals : (rest.map fun v => v.category).sum + (nativeFrameWords "java/lang/System" "arraycopy" 5 + 11) ≤ R.locals) (hdg : decode cc pc = .ok (.invokestatic index, 3))
    (kk : ∀ (H1 : Heap) (locs1 : List Loc), Wo D cs A s h0 (h.tai a (va_cpy (h.ai a0) (h.ai a) sp.toNatClampNeg dp.toNatClampNeg n.toNatClampNeg)) H1 locs1 cells slots → W p l e R s m args below meth c H1 locs1 cells slots Q (F0 m (pc + 3) ls rest)) : W p l e R s m args below meth c H locs cells slots Q (F0 m pc ls (.int n :: .int dp :: .ref a :: .int sp :: .ref a0 :: rest)) := by
  obtain ⟨h1, h2, h3, h4, h5⟩ := hc
  have hat0 := at_k w hk0 (by decide)
  rw [cell_20] at hat0
  have hat := at_k w hk (by decide)
  rw [cell_20] at hat
  obtain ⟨hx, hb, hml, hown, hts, hK, hA, -⟩ := C
  intro T hT X
  obtain ⟨-, k0, hkk0, cm0, hkc0⟩ := (hK.2 0 _ rfl).1 (h.al a0) (fun j => .int (h.ai a0 j))
  obtain ⟨-, k1, hkk1, cm1, hkc1⟩ := (hK.2 0 _ rfl).1 (h.al a) (fun j => .int (h.ai a j))
  obtain ⟨vm', X', step⟩ := X.arraycopy hx hown (hts _ hl) (hts _ tw_2_147) (hts _ tw_2_146) (hts _ tw_1_16) (src := a0) (dst := a) (cs := vp_cell cs.1 (h.al a0, .inl (h.ai a0))) (cd := vp_cell cs.1 (h.al a, .inl (h.ai a))) (srcPos := sp) (destPos := dp) (n := n) (by rw [hT]; exact hat0) (by rw [hT]; exact hat)
    (fun _ h => by cases h) (fun _ h => by cases h) (fun h => by cases h) (fun h => by cases h) hkk0 hkk1 hkc0 hkc1 (by rfl) h1 h2 h3
    (by rw [nn_i sp h1, nn_i n h3]; show ¬ _ > ((arrV cs.1 (h.al a0) (fun j => .int (h.ai a0 j))).slots.size : Int); rw [arrV_size]; omega)
    (by rw [nn_i dp h2, nn_i n h3]; show ¬ _ > ((arrV cs.1 (h.al a) (fun j => .int (h.ai a j))).slots.size : Int); rw [arrV_size]; omega)
    (fun vm₁ _ i hi => by
      have e : (vp_cell cs.1 (h.al a0, .inl (h.ai a0))).slots.getD (sp.toNatClampNeg + i) .null = .int (h.ai a0 (sp.toNatClampNeg + i)) := by
        show (arrV cs.1 (h.al a0) (fun j => .int (h.ai a0 j))).slots.getD _ _ = _
        rw [Array.getD_eq_getD_getElem?, arrV_read _ _ (by omega)]
        rfl
      exact ⟨by rw [e]; rfl, by rw [e]; exact trivial⟩)
    (g := F0 m pc ls (.int n :: .int dp :: .ref a :: .int sp :: .ref a0 :: rest)) rfl (by rw [hml]; exact hml2) (rest := rest) rfl (by rw [hb]; exact hdg) hframes (by show 2 * 0 + _ + _ ≤ _; omega)
  have e1 : copied (vp_cell cs.1 (h.al a0, .inl (h.ai a0))) (vp_cell cs.1 (h.al a, .inl (h.ai a))) sp dp n = vp_cell cs.1 (h.al a, .inl (va_cpy (h.ai a0) (h.ai a) sp.toNatClampNeg dp.toNatClampNeg n.toNatClampNeg)) := va_copied (fun z => .int z) cs.1 cs.1 (h.ai a0) (h.ai a) h4
  rw [e1] at X' step
  have hlt : a < H.size := (Array.getElem?_eq_some_iff.mp hat).1
  have hheap : ((T.setVm vm').setCell a (vp_cell cs.1 (h.al a, .inl (va_cpy (h.ai a0) (h.ai a) sp.toNatClampNeg dp.toNatClampNeg n.toNatClampNeg)))).heap = H.setIfInBounds a (vp_cell cs.1 (h.al a, .inl (va_cpy (h.ai a0) (h.ai a) sp.toNatClampNeg dp.toNatClampNeg n.toNatClampNeg))) := by rw [← hT]; rfl
  have oq : ∀ q : Nat, q ≠ a → (H.setIfInBounds a (vp_cell cs.1 (h.al a, .inl (va_cpy (h.ai a0) (h.ai a) sp.toNatClampNeg dp.toNatClampNeg n.toNatClampNeg))))[q]? = H[q]? := fun q hq => by simp [Array.getElem?_setIfInBounds, Ne.symm hq]
  obtain ⟨t, a1, b1⟩ := kk _ _ (w.putL (by rw [hk]; decide) (by
      rw [hk, cell_20]
      show (H.setIfInBounds a _)[a]? = some (vp_cell cs.1 (h.al a, .inl (va_up h.ai a _ a)))
      rw [va_up_self]
      simp [Array.getElem?_setIfInBounds, hlt]) (by simp) oq (fun b hb => ag_tai h a _ hb) rfl rfl rfl rfl (fun z hz => by
      obtain ⟨z', -, hz'⟩ := List.mem_map.mp hz
      rw [← hz'])) _ hheap X'
  exact ⟨t, step t a1, b1⟩
/-- System.arraycopy between Object[] -/
theorem jr_cpr (C : Cx p s m args meth c cc nL rt own D cs A se) (w : Wo D cs A s h0 h H locs cells slots) {a0 : Nat} {sp dp n : Int32} (hml2 : ls.size = nL) (hl : Cond.methodLink own index arraycopyName ∈ TB) (hk0 : h.kd a0 = 23) (hk : h.kd a = 23)
    (hc : ¬ sp < 0 ∧ ¬ dp < 0 ∧ ¬ n < 0 ∧ sp.toNatClampNeg + n.toNatClampNeg ≤ h.al a0 ∧ dp.toNatClampNeg + n.toNatClampNeg ≤ h.al a) (hel : ∀ i, i < n.toNatClampNeg → okV h (h.ar a0 (sp.toNatClampNeg + i)) = true)
    (hframes : 1 ≤ R.frames) (hlocals : (rest.map fun v => v.category).sum + (nativeFrameWords "java/lang/System" "arraycopy" 5 + 11) ≤ R.locals) (hdg : decode cc pc = .ok (.invokestatic index, 3))
    (kk : ∀ (H1 : Heap) (locs1 : List Loc), Wo D cs A s h0 (h.tar a (va_cpy (h.ar a0) (h.ar a) sp.toNatClampNeg dp.toNatClampNeg n.toNatClampNeg)) H1 locs1 cells slots → W p l e R s m args below meth c H1 locs1 cells slots Q (F0 m (pc + 3) ls rest)) : W p l e R s m args below meth c H locs cells slots Q (F0 m pc ls (.int n :: .int dp :: .ref a :: .int sp :: .ref a0 :: rest)) := by
  obtain ⟨h1, h2, h3, h4, h5⟩ := hc
  have hat0 := at_k w hk0 (by decide)
  rw [cell_23] at hat0
  have hat := at_k w hk (by decide)
  rw [cell_23] at hat
  have hok : ∀ i, i < n.toNatClampNeg → ∀ y, h.ar a0 (sp.toNatClampNeg + i) = some y → okE h y := fun i hi y hy => by
    have := hel i hi
    rw [hy] at this
    exact of_decide_eq_true this
  have hcast := fun v hv => cast_ok C w (v := v) hv
  obtain ⟨hx, hb, hml, hown, hts, hK, hA, -⟩ := C
  intro T hT X
  obtain ⟨-, k0, hkk0, cm0, hkc0⟩ := (hK.2 3 _ rfl).1 (h.al a0) (fun j => va_rf (h.ar a0 j))
  obtain ⟨-, k1, hkk1, cm1, hkc1⟩ := (hK.2 3 _ rfl).1 (h.al a) (fun j => va_rf (h.ar a j))
  obtain ⟨vm', X', step⟩ := X.arraycopy hx hown (hts _ hl) (hts _ tw_2_147) (hts _ tw_2_146) (hts _ tw_1_16) (src := a0) (dst := a) (cs := vp_cell cs.2.2.2 (h.al a0, .inr (.inr (.inr (.inr (h.ar a0)))))) (cd := vp_cell cs.2.2.2 (h.al a, .inr (.inr (.inr (.inr (h.ar a)))))) (srcPos := sp) (destPos := dp) (n := n) (by rw [hT]; exact hat0) (by rw [hT]; exact hat)
    (fun _ h => by cases h) (fun _ h => by cases h) (fun h => by cases h) (fun h => by cases h) hkk0 hkk1 hkc0 hkc1 rfl h1 h2 h3
    (by rw [nn_i sp h1, nn_i n h3]; show ¬ _ > ((arrV cs.2.2.2 (h.al a0) (fun j => va_rf (h.ar a0 j))).slots.size : Int); rw [arrV_size]; omega)
    (by rw [nn_i dp h2, nn_i n h3]; show ¬ _ > ((arrV cs.2.2.2 (h.al a) (fun j => va_rf (h.ar a j))).slots.size : Int); rw [arrV_size]; omega)
    (fun vm₁ hal i hi => by
      have e : (vp_cell cs.2.2.2 (h.al a0, .inr (.inr (.inr (.inr (h.ar a0)))))).slots.getD (sp.toNatClampNeg + i) .null = va_rf (h.ar a0 (sp.toNatClampNeg + i)) := by
        show (arrV cs.2.2.2 (h.al a0) (fun j => va_rf (h.ar a0 j))).slots.getD _ _ = _
        rw [Array.getD_eq_getD_getElem?, arrV_read _ _ (by omega)]
        rfl
      rw [e]
      cases hy : h.ar a0 (sp.toNatClampNeg + i) with
      | none => exact ⟨rfl, trivial⟩
      | some y =>
        obtain ⟨cellV, g1, g2, ⟨kC, hkC⟩, hasg⟩ := hcast y (hok i hi y hy)
        obtain ⟨kA, comp, r1, r2, r3, -⟩ := (hK.2 3 _ rfl).2
        cases hkk1.symm.trans r1
        cases hkc1.symm.trans r2
        obtain ⟨kE, hkE, -⟩ := Vm.findClass_spec r3
        obtain ⟨kC', hkC', -⟩ := hal.2.2 _ _ hkC
        obtain ⟨kE', hkE', -⟩ := hal.2.2 _ _ hkE
        refine ⟨rfl, cellV, (show T.heap[y]? = some cellV by rw [hT]; exact g1), (fun q h => by rw [g2] at h; cases h), ⟨kC', hkC'⟩, ?_, ?_⟩
        · exact ⟨kE', hkE'⟩
        · show vm₁.assignable _ _ = true
          rw [hal.assignable]
          exact hasg _ r3)
    (g := F0 m pc ls (.int n :: .int dp :: .ref a :: .int sp :: .ref a0 :: rest)) rfl (by rw [hml]; exact hml2) (rest := rest) rfl (by rw [hb]; exact hdg) hframes (by show 2 * 0 + _ + _ ≤ _; omega)
  have e1 : copied (vp_cell cs.2.2.2 (h.al a0, .inr (.inr (.inr (.inr (h.ar a0)))))) (vp_cell cs.2.2.2 (h.al a, .inr (.inr (.inr (.inr (h.ar a)))))) sp dp n = vp_cell cs.2.2.2 (h.al a, .inr (.inr (.inr (.inr (va_cpy (h.ar a0) (h.ar a) sp.toNatClampNeg dp.toNatClampNeg n.toNatClampNeg))))) := by
    rw [vp_cell_q, vp_cell_q, vp_cell_q]
    exact va_copied (fun z => va_rf z) cs.2.2.2 cs.2.2.2 (h.ar a0) (h.ar a) h4
  rw [e1] at X' step
  have hlt : a < H.size := (Array.getElem?_eq_some_iff.mp hat).1
  have hheap : ((T.setVm vm').setCell a (vp_cell cs.2.2.2 (h.al a, .inr (.inr (.inr (.inr (va_cpy (h.ar a0) (h.ar a) sp.toNatClampNeg dp.toNatClampNeg n.toNatClampNeg))))))).heap = H.setIfInBounds a (vp_cell cs.2.2.2 (h.al a, .inr (.inr (.inr (.inr (va_cpy (h.ar a0) (h.ar a) sp.toNatClampNeg dp.toNatClampNeg n.toNatClampNeg)))))) := by rw [← hT]; rfl
  have oq : ∀ q : Nat, q ≠ a → (H.setIfInBounds a (vp_cell cs.2.2.2 (h.al a, .inr (.inr (.inr (.inr (va_cpy (h.ar a0) (h.ar a) sp.toNatClampNeg dp.toNatClampNeg n.toNatClampNeg)))))))[q]? = H[q]? := fun q hq => by simp [Array.getElem?_setIfInBounds, Ne.symm hq]
  obtain ⟨t, a1, b1⟩ := kk _ _ (w.putL (by rw [hk]; decide) (by
      rw [hk, cell_23]
      show (H.setIfInBounds a _)[a]? = some (vp_cell cs.2.2.2 (h.al a, .inr (.inr (.inr (.inr (va_up h.ar a _ a))))))
      rw [va_up_self]
      simp [Array.getElem?_setIfInBounds, hlt]) (by simp) oq (fun b hb => ag_tar h a _ hb) rfl rfl rfl rfl (fun z hz => by
      obtain ⟨z', -, hz'⟩ := List.mem_map.mp hz
      rw [← hz'])) _ hheap X'
  exact ⟨t, step t a1, b1⟩
end JK
