/-! contracts over the abstract heap, and their calls -/
def fA (h : Hp) : Nat → Prop := fun q => h.kd q ≠ 0 ∨ h.nx ≤ q
def PW (D : va_G) (cs : C4) (h : Hp) (t : State) : Prop := (∀ a, h.kd a ≠ 0 → va_at D vwCl (a, cellK cs h (h.kd a) a) t.heap) ∧ t.heap.size = h.nx ∧ (∀ a, h.nx ≤ a → h.kd a = 0) ∧ va_K D vwCl (tyl cs) t
def PreW (D : va_G) (cs : C4) (h : Hp) (U : State) : Prop := PW D cs h U ∧ stE h.se.1 (fA h) U U.heap ∧ Nw h.se.2 U
abbrev wG (y : MethodName) (cc : ByteArray) (n : Nat) (rt : Option FieldType) : List Cond := Cond.code y cc n rt :: TB
def Ci (l : Launch) (y : MethodName) (cc : ByteArray) (n : Nat) (rt : Option FieldType) (fr lo : Nat) (D : va_G) (cs : C4) (h h' : Hp) (av : List Value) (r : Int32) : Prop := ∀ mc ms, h'.nx ≤ h.nx + mc → h'.su ≤ h.su + ms → Met l y (wG y cc n rt) { frames := fr, cells := mc, slots := ms, locals := lo } (va_Pc av (PreW D cs h)) (va_Qi (fun (x : Int32) (_ : Unit) => x = r) (fun _ t => PW D cs h' t) (fA h)) mc ms (fA h)
def Cl (l : Launch) (y : MethodName) (cc : ByteArray) (n : Nat) (rt : Option FieldType) (fr lo : Nat) (D : va_G) (cs : C4) (h h' : Hp) (av : List Value) (r : Int64) : Prop := ∀ mc ms, h'.nx ≤ h.nx + mc → h'.su ≤ h.su + ms → Met l y (wG y cc n rt) { frames := fr, cells := mc, slots := ms, locals := lo } (va_Pc av (PreW D cs h)) (va_Ql (fun (x : Int64) (_ : Unit) => x = r) (fun _ t => PW D cs h' t) (fA h)) mc ms (fA h)
def Cq (l : Launch) (y : MethodName) (cc : ByteArray) (n : Nat) (rt : Option FieldType) (fr lo : Nat) (D : va_G) (cs : C4) (h h' : Hp) (av : List Value) (r : Option Nat) : Prop := ∀ mc ms, h'.nx ≤ h.nx + mc → h'.su ≤ h.su + ms → Met l y (wG y cc n rt) { frames := fr, cells := mc, slots := ms, locals := lo } (va_Pc av (PreW D cs h)) (va_Qq (fun (x : Option Nat) (_ : Unit) => x = r) (fun _ t => PW D cs h' t) (fA h)) mc ms (fA h)
def Cv (l : Launch) (y : MethodName) (cc : ByteArray) (n : Nat) (rt : Option FieldType) (fr lo : Nat) (D : va_G) (cs : C4) (h h' : Hp) (av : List Value) : Prop := ∀ mc ms, h'.nx ≤ h.nx + mc → h'.su ≤ h.su + ms → Met l y (wG y cc n rt) { frames := fr, cells := mc, slots := ms, locals := lo } (va_Pc av (PreW D cs h)) (va_Qv (fun (_ : Unit) => True) (fun _ t => PW D cs h' t) (fA h)) mc ms (fA h)
theorem wG_in {y y' : MethodName} {cc cc' : ByteArray} {n n' : Nat} {rt rt' : Option FieldType} (h : Cond.code y' cc' n' rt' ∈ TB) : GoodIn (wG y cc n rt) (wG y' cc' n' rt') := fun w hw => by
  rcases List.mem_cons.mp hw with e | e
  · subst e; exact ⟨List.mem_cons_of_mem _ h, good_of_word (tb_good h)⟩
  · exact ⟨List.mem_cons_of_mem _ e, good_of_word (tb_good e)⟩
theorem tb_in2 {y' : MethodName} {cc' : ByteArray} {n' : Nat} {rt' : Option FieldType} (h : Cond.code y' cc' n' rt' ∈ TB) : GoodIn TB (wG y' cc' n' rt') := fun w hw => by
  rcases List.mem_cons.mp hw with e | e
  · subst e; exact ⟨h, good_of_word (tb_good h)⟩
  · exact ⟨e, good_of_word (tb_good e)⟩
theorem fb_pre {D : va_G} {cs : C4} {h : Hp} {av : List Value} : FrameBlind (va_Pc av (PreW D cs h)) := by
  intro a U g mk q
  obtain ⟨q0, ⟨q1, q2, q3, q4⟩, ⟨q5, q6, q8, q9⟩, q7⟩ := q
  exact ⟨q0, ⟨q1, q2, q3, va_K.moved (u := U) (U := U.calling g mk a) (Vm.Alike.refl U.vm) q4⟩, ⟨q5.moved (U := U.calling g mk a) (Vm.Alike.refl U.vm), q6.moved (U := U.calling g mk a) (Vm.Alike.refl U.vm), q8.moved (U := U.calling g mk a) (Vm.Alike.refl U.vm), q9.moved (U := U.calling g mk a) (Vm.Alike.refl U.vm)⟩, Nw.same rfl q7⟩
section JC
variable {p : Program} {l : Launch} {e : Env} {R : Room} {s : State} {m : MethodId} {args : Array Value} {below : List Frame} {meth : Method} {c : Code} {H : Heap} {locs : List Loc} {cells slots : Nat} {Q : State → Prop}
variable {cc : ByteArray} {nL : Nat} {rt : Option FieldType} {own : String} {D : va_G} {cs : C4} {A : Nat → Prop} {h0 h h' hz : Hp} {se : Nat × Nat} {pc : Nat} {ls : Array Slot} {rest : List Value}
/-- what a callee starts with -/
theorem pre_call (C : Cx p s m args meth c cc nL rt own D cs A h0.se) (w : Wo D cs A s h0 h H locs cells slots) {av : List Value} : ∀ U : State, U.heap = H → s.WarmedH U.vm → va_Pc av (PreW D cs h) av.toArray U := by
  intro U hU hW
  obtain ⟨hx, hb, hml, hown, hts, hK, hA, -, -, ⟨z1, z2, z3, z4⟩, hN⟩ := C
  obtain ⟨w1, w2, w3, w4, w5, w6, w7, w8⟩ := w
  have hn : ∀ q, fA h q → A q := fun q hq => hq.elim (w2 q) (fun g => hA q (by have := w3.1; omega))
  have hq : ∀ a : Nat, a < s.heap.size → ¬ A a → U.heap[a]? = s.heap[a]? := fun a h1 h2 => by rw [hU]; exact w3.2.1 a h1 h2
  refine ⟨rfl, ⟨by rw [hU]; exact w1, by rw [hU]; exact w4, w5, va_K.moved hW.alike hK⟩, ⟨?_, ?_, ?_, ?_⟩, by rw [w8]; exact hN.warm hW⟩
  · rw [w8]; exact ((z1.kept hq).narrow hn).moved hW.alike
  · rw [w8]; exact ((z2.kept hq).narrow hn).moved hW.alike
  · exact ((z3.kept hq).narrow hn).moved hW.alike
  · exact ((z4.kept hq).narrow hn).moved hW.alike
/-- behind a call -/
theorem Wo.call (w : Wo D cs A s h0 h H locs cells slots) (hA : ∀ q, s.heap.size ≤ q → A q) {t : State} {H1 : Heap} {locs1 : List Loc} (ht : t.heap = H1) (hm : Mo h h') (hP : PW D cs h' t) (hS : va_S A s.heap H1 locs1) : Wo D cs A s h0 h' H1 locs1 (cells + (h'.nx - h.nx)) (slots + (h'.su - h.su)) := by
  obtain ⟨w1, w2, w3, w4, w5, w6, w7, w8⟩ := w
  obtain ⟨p1, p2, p3, p4⟩ := hP
  refine ⟨by rw [← ht]; exact p1, fun a ha => ?_, hS, by rw [← ht]; exact p2, p3, by have := hm.2.1; omega, by have := hm.2.2.1; omega, hm.2.2.2.1.trans w8⟩
  by_cases q : a < h.nx
  · exact w2 a (by rw [← hm.1 a q]; exact ha)
  · exact hA a (by have := w3.1; omega)
theorem hA_call (C : Cx p s m args meth c cc nL rt own D cs A h0.se) (w : Wo D cs A s h0 h H locs cells slots) : ∀ q, fA h q → A q := by
  obtain ⟨hx, hb, hml, hown, hts, hK, hA, -⟩ := C
  obtain ⟨w1, w2, w3, w4, w5, w6, w7, w8⟩ := w
  exact fun q hq => hq.elim (w2 q) (fun g => hA q (by have := w3.1; omega))
theorem rm_call {mc ms : Nat} (w : Wo D cs A s h0 h H locs cells slots) (hm : Mo h h') (hz1 : Mo h' hz) (hz2 : hz.nx ≤ h0.nx + mc ∧ hz.su ≤ h0.su + ms) : cells + (h'.nx - h.nx) ≤ mc ∧ slots + (h'.su - h.su) ≤ ms := by
  obtain ⟨w1, w2, w3, w4, w5, w6, w7, w8⟩ := w
  have a1 := hm.2.1
  have a2 := hm.2.2.1
  have a3 := hz1.2.1
  have a4 := hz1.2.2.1
  have a5 := hz2.1
  have a6 := hz2.2
  constructor <;> omega
/-- the cell of an object of a known class -/
theorem recv_at (C : Cx p s m args meth c cc nL rt own D cs A h0.se) (w : Wo D cs A s h0 h H locs cells slots) {b ci : Nat} {q : vw_C} {fs : List Value} (hk : h.kd b = ci) (h0c : ci ≠ 0) (hc : vwCl[ci]? = some q) (hf : cellK cs h ci b = .inr (ci, fs)) : ∃ cell : Cell, H[b]? = some cell ∧ cell.vm.isStatics = false ∧ s.vm.findClass q.1 = some cell.cls := by
  have hat := w.1 b (by rw [hk]; exact h0c)
  rw [hk, hf] at hat
  exact va_recv C.2.2.2.2.2.1 (sg_P hat) hc (q0 := 0) rfl
variable {y : MethodName} {bytes : ByteArray} {maxL n index mc ms fr lo F LO : Nat} {ret : Option FieldType} {b ci : Nat} {q : vw_C} {fs As : List Value}
/-- the run of a virtual call -/
theorem jc_runV {Qc : Array Value → State → Outcome → State → Prop} (C : Cx p s m args meth c cc nL rt own D cs A h0.se) (w : Wo D cs A s h0 h H locs cells slots)
    (hM : Met l y (wG y bytes maxL ret) { frames := fr, cells := h'.nx - h.nx, slots := h'.su - h.su, locals := lo } (va_Pc (.ref b :: As) (PreW D cs h)) Qc (h'.nx - h.nx) (h'.su - h.su) (fA h))
    (hk : h.kd b = ci) (h0c : ci ≠ 0) (hc : vwCl[ci]? = some q) (hf : cellK cs h ci b = .inr (ci, fs)) (hcode : Cond.code y bytes maxL ret ∈ TB) (hl : Cond.methodLink own index y ∈ TB) (hi : Cond.instanceMethod y ∈ TB) (hs : Cond.selects q.1 y y ∈ TB) (hini : Cond.initialized q.1 ∈ TB)
    (hd : y.cls = q.1 ∧ y.cls ≠ "java/lang/invoke/MethodHandle" ∧ y.cls ≠ "java/lang/invoke/VarHandle" ∧ (parseMethodDescriptor y.desc).map (fun d => d.parameters.length) = some As.length) (hR : fr + 1 ≤ F ∧ 8 + (maxL + 11) + lo ≤ LO)
    (hls : ls.size = nL) (hst : (rest.map fun v => v.category).sum ≤ 8) (hdg : decode cc pc = .ok (.invokevirtual index, 3)) (hroom : cells + (h'.nx - h.nx) ≤ mc ∧ slots + (h'.su - h.su) ≤ ms) :
    va_Run p l e { frames := F, cells := mc, slots := ms, locals := LO } s m args below meth c H locs cells slots (h'.nx - h.nx) (h'.su - h.su) (F0 m pc ls (As.reverse ++ .ref b :: rest)) rest (Qc (Value.ref b :: As).toArray) (fA h) := by
  obtain ⟨hx, hb, hml, hown, hts, hK, hA, h8, h9, h10, h11⟩ := id C
  refine va_runV (As := As) (rest := rest) (C := q.1) (bytes := bytes) (maxL := maxL) (ret := ret) (n := As.length) (index := index) ⟨hx, hb, hml, hown, hts⟩ hM (cwV As.length hts ?_ rfl rfl rfl hd hR) ⟨fb_pre, recv_at C w hk h0c hc hf, pre_call C w⟩ rfl rfl hls rfl (lv_room hst) hdg hroom
  intro w1 hw1
  rcases List.mem_append.mp hw1 with g | g
  · rcases List.mem_cons.mp g with e1 | g
    · subst e1; exact ⟨hl, good_of_word (tb_good hl)⟩
    · rcases List.mem_cons.mp g with e1 | g
      · subst e1; exact ⟨hi, good_of_word (tb_good hi)⟩
      · rcases List.mem_cons.mp g with e1 | g
        · subst e1; exact ⟨hs, good_of_word (tb_good hs)⟩
        · rw [List.mem_singleton.mp g]; exact ⟨hini, good_of_word (tb_good hini)⟩
  · exact tb_in2 hcode w1 g
end JC
section NW
variable {p : Program} {s : State} {m : MethodId} {args : Array Value} {meth : Method} {c : Code} {cc : ByteArray} {nL : Nat} {rt : Option FieldType} {own : String} {D : va_G} {cs : C4} {A : Nat → Prop} {se : Nat × Nat}
theorem nw_all (C : Cx p s m args meth c cc nL rt own D cs A se) : Nw se.2 s := by
  obtain ⟨hx, hb, hml, hown, hts, hK, hA, h8, h9, h10, h11⟩ := C
  exact h11
theorem nw_1 (C : Cx p s m args meth c cc nL rt own D cs A se) : va_Nw (.methodLinkNest "RingKeeper" 11 ⟨"RingKeeper$Shelf", "<init>", "()V"⟩ "RingKeeper") s := (nw_all C).2.2.2.1
theorem nw_2 (C : Cx p s m args meth c cc nL rt own D cs A se) : va_Nw (.methodLinkNest "RingKeeper$View" 11 ⟨"RingKeeper$Shelf", "<init>", "()V"⟩ "RingKeeper") s := (nw_all C).2.2.2.2.1
theorem nw_3 (C : Cx p s m args meth c cc nL rt own D cs A se) : va_Nw (.methodLinkNest "RingKeeper$Transaction" 11 ⟨"RingKeeper$Spans", "<init>", "()V"⟩ "RingKeeper") s := (nw_all C).2.2.2.2.2.1
theorem nw_4 (C : Cx p s m args meth c cc nL rt own D cs A se) : va_Nw (.methodLinkNest "RingKeeper$Audit" 121 ⟨"RingKeeper$Shelf", "<init>", "()V"⟩ "RingKeeper") s := (nw_all C).2.2.2.2.2.2.1
end NW
