/-! the law's helpers: a call of the class, what it throws caught -/
def Nc3 (U : State) : Prop := va_Nc "java/lang/IllegalArgumentException" "java/lang/IllegalStateException" U ∧ va_Nc "java/lang/UnsupportedOperationException" "java/lang/IllegalStateException" U ∧ va_Nc "java/lang/IndexOutOfBoundsException" "java/lang/IllegalStateException" U
theorem Nc3.moved {u U : State} (h : u.vm.Alike U.vm) (q : Nc3 u) : Nc3 U := ⟨q.1.moved h, q.2.1.moved h, q.2.2.moved h⟩
def PreN (D : va_G) (cs : C4) (h : Hp) (U : State) : Prop := PreW D cs h U ∧ Nc3 U
theorem fb_preN {D : va_G} {cs : C4} {h : Hp} {av : List Value} : FrameBlind (va_Pc av (PreN D cs h)) := by
  intro a U g mk q
  obtain ⟨q0, q1, q2⟩ := q
  have z := fb_pre (D := D) (cs := cs) (h := h) (av := av) a U g mk ⟨q0, q1⟩
  exact ⟨z.1, z.2, q2.moved (U := U.calling g mk a) (Vm.Alike.refl U.vm)⟩
abbrev wH (y : MethodName) (cc : ByteArray) (n : Nat) (rt : Option FieldType) (hh : List (Nat × Nat × Nat × Nat)) : List Cond := Cond.codeWith y cc n rt hh :: TB
/-- behind a throw: the heap is n cells long -/
def Hp.thr (h : Hp) (n : Nat) : Hp := (n, h.su + 6, h.se, h.kd, h.fi, h.fl, h.fr, h.al, h.ai, h.aw, h.ar, h.gi, h.gl, h.gr, h.bi, h.bw)
theorem cell_thr (cs : C4) (h : Hp) (n k a : Nat) : cellK cs (h.thr n) k a = cellK cs h k a := cell_ag cs k ⟨fun _ => rfl, fun _ => rfl, fun _ => rfl, rfl, rfl, rfl, rfl, fun _ => rfl, fun _ => rfl, fun _ => rfl, rfl, rfl⟩
/-- a helper whose call returns -/
def Hn (l : Launch) (y : MethodName) (cc : ByteArray) (n : Nat) (rt : Option FieldType) (hh : List (Nat × Nat × Nat × Nat)) (fr lo : Nat) (D : va_G) (cs : C4) (h h' : Hp) (av : List Value) (r : Int32) : Prop := ∀ mc ms, h'.nx ≤ h.nx + mc → h'.su ≤ h.su + ms → Met l y (wH y cc n rt hh) { frames := fr, cells := mc, slots := ms, locals := lo } (va_Pc av (PreN D cs h)) (Zi D cs (fA h) h' r) mc ms (fA h)
abbrev Zt (D : va_G) (cs : C4) (A : Nat → Prop) (hz : Hp) (rz : Int32) : Array Value → State → Outcome → State → Prop := va_Qi (fun (x : Int32) (_ : Unit) => x = rz) (fun _ t => hz.nx ≤ t.heap.size ∧ PW D cs (hz.thr t.heap.size) t) A
/-- a helper whose call throws -/
def Ht (l : Launch) (y : MethodName) (cc : ByteArray) (n : Nat) (rt : Option FieldType) (hh : List (Nat × Nat × Nat × Nat)) (fr lo : Nat) (D : va_G) (cs : C4) (h hz : Hp) (av : List Value) (r : Int32) : Prop := ∀ mc ms, hz.nx + 1 ≤ h.nx + mc → hz.su + 6 ≤ h.su + ms → Met l y (wH y cc n rt hh) { frames := fr, cells := mc, slots := ms, locals := lo } (va_Pc av (PreN D cs h)) (Zt D cs (fA h) hz r) mc ms (fA h)
theorem je_anyH {l : Launch} {y : MethodName} {cc : ByteArray} {n : Nat} {rt : Option FieldType} {hh : List (Nat × Nat × Nat × Nat)} {fr lo mc ms : Nat} {D : va_G} {cs : C4} {h : Hp} {av : List Value} {Qc : Array Value → State → Outcome → State → Prop} (hy : plainName y.cls = true) (hlen : (lg_sl av).length ≤ n)
    (body : ∀ (p : Program) (e : Env) (s : State) (m : MethodId) (args : Array Value) (below : List Frame) (meth : Method) (c : Code), Cx p s m args meth c cc n rt y.cls D cs (fA h) h.se → Nc3 s → c.exceptionTable.toList = tableOf hh → Wo D cs (fA h) s h h s.heap [] 0 0 → ∀ ls : Array Slot, lv_has ls n (lv_args 0 av) →
      W p l e { frames := fr, cells := mc, slots := ms, locals := lo } s m args below meth c s.heap [] 0 0 (MQ below Qc args s mc ms (fA h)) (F0 m 0 ls [])) :
    Met l y (wH y cc n rt hh) { frames := fr, cells := mc, slots := ms, locals := lo } (va_Pc av (PreN D cs h)) Qc mc ms (fA h) := by
  refine va_MetW (cc := cc) (maxL := n) (ret := rt) (hh := hh) hy rfl ?_
  intro p e s m args below meth c s₁ B hml hv
  obtain ⟨rfl, ⟨⟨q1, q2, q3, q4⟩, hse, hN⟩, hc⟩ := hv
  have hl := lv_entry av (n := n) hlen
  rw [lg_entry_eq]
  exact body p e s m _ below meth c ⟨B.exec, B.bytes, hml, findClass_of_methodNamed B.named, fun w hw => atoms_spec (ws := wH y cc n rt hh) B.pre w (List.mem_cons_of_mem _ hw), q4, fun q h => Or.inr (q2 ▸ h), B.returns, B.notSynchronized, hse, hN⟩ hc (vx_table (x := y) B (atoms_spec (ws := wH y cc n rt hh) B.pre _ List.mem_cons_self)) ⟨q1, fun a ha => Or.inl ha, va_S.rf, q2, q3, Nat.zero_add _, Nat.zero_add _, rfl⟩ _ hl
section JH
variable {p : Program} {l : Launch} {e : Env} {R : Room} {s : State} {m : MethodId} {args : Array Value} {below : List Frame} {meth : Method} {c : Code} {H : Heap} {locs : List Loc} {cells slots : Nat} {Q : State → Prop}
variable {cc : ByteArray} {nL : Nat} {rt : Option FieldType} {own : String} {D : va_G} {cs : C4} {A : Nat → Prop} {h0 h hz : Hp} {se : Nat × Nat} {pc index mc ms fr lo F LO : Nat} {ls : Array Slot} {rest : List Value}
variable {y : MethodName} {bytes : ByteArray} {maxL n : Nat} {ret : Option FieldType} {b ci : Nat} {q : vw_C} {fs As : List Value} {ez : String}
/-- a call whose callee throws, caught here -/
theorem jx_H (C : Cx p s m args meth c cc nL rt own D cs A h0.se) (w : Wo D cs A s h0 h H locs cells slots) (hM : Xc l y bytes maxL ret fr lo D cs h hz ez (.ref b :: As)) (hm : Mo h hz) (hz3 : hz.nx + 1 ≤ h0.nx + mc ∧ hz.su + 6 ≤ h0.su + ms)
    (hk : h.kd b = ci) (h0c : ci ≠ 0) (hc : vwCl[ci]? = some q) (hf : cellK cs h ci b = .inr (ci, fs)) (hq : y.cls = q.1) (hw : Cw own index y bytes maxL ret) (hd : Cd y As.length) (hR : fr + 1 ≤ F ∧ 8 + (maxL + 11) + lo ≤ LO) (hls : ls.size = nL) (hst : (rest.map fun v => v.category).sum ≤ 8) {st : List Value} (hst2 : st = As.reverse ++ .ref b :: rest) (hdg : decode cc pc = .ok (.invokevirtual index, 3))
    (pre : List ExceptionTableEntry) (x : ExceptionTableEntry) (suf : List ExceptionTableEntry) (hsplit : c.exceptionTable.toList = pre ++ x :: suf)
    (hpass : ∀ z ∈ pre, covers z pc = false ∨ (z.catchType ≠ 0 ∧ ∃ nm : String, (Cond.classLink own z.catchType nm).before args s = true ∧ va_Nc ez nm s)) (hcov : covers x pc = true) (hct : x.catchType ≠ 0) (hlk : Cond.classLink own x.catchType ez ∈ TB) (hcast : va_Nw (.castable ez ez) s)
    (kk : ∀ (H1 : Heap) (locs1 : List Loc) (q9 : Nat), va_S A s.heap H1 locs1 → (∀ a, hz.kd a ≠ 0 → va_at D vwCl (a, cellK cs hz (hz.kd a) a) H1) → hz.nx ≤ H1.size → (∀ a, hz.nx ≤ a → hz.kd a = 0) → W p l e { frames := F, cells := mc, slots := ms, locals := LO } s m args below meth c H1 locs1 mc ms Q (F0 m x.handlerPc ls [.ref q9])) :
    W p l e { frames := F, cells := mc, slots := ms, locals := LO } s m args below meth c H locs cells slots Q (F0 m pc ls st) := by
  subst hst2
  obtain ⟨c1, c2, c3, c4, c5⟩ := hw
  rw [hq] at c4 c5
  obtain ⟨hx, hb, hml, hown, hts, hK, hA, h8, h9, h10, h11⟩ := id C
  have a1 := hm.2.1
  have a2 := hm.2.2.1
  have w6 := w.2.2.2.2.2.1
  have w7 := w.2.2.2.2.2.2.1
  have hrun := vx_runV (As := As) (rest := rest) (g := F0 m pc ls (As.reverse ++ .ref b :: rest)) (C := q.1) (bytes := bytes) (maxL := maxL) (ret := ret) (n := As.length) (index := index) (R := { frames := F, cells := mc, slots := ms, locals := LO }) (p := p) (e := e) (below := below) (meth := meth) (H := H) (locs := locs) (cells := cells) (slots := slots) ⟨hx, hb, hml, hown, hts⟩ (hM (hz.nx + 1 - h.nx) (hz.su + 6 - h.su) (by omega) (by omega)) (cwV As.length hts (fun w1 hw1 => by
    rcases List.mem_append.mp hw1 with g | g
    · rcases List.mem_cons.mp g with e1 | g
      · subst e1; exact ⟨c2, good_of_word (tb_good c2)⟩
      · rcases List.mem_cons.mp g with e1 | g
        · subst e1; exact ⟨c3, good_of_word (tb_good c3)⟩
        · rcases List.mem_cons.mp g with e1 | g
          · subst e1; exact ⟨c4, good_of_word (tb_good c4)⟩
          · rw [List.mem_singleton.mp g]; exact ⟨c5, good_of_word (tb_good c5)⟩
    · exact tb_in2 c1 w1 g) rfl rfl rfl ⟨hq, hd⟩ hR) ⟨fb_pre, recv_at C w hk h0c hc hf, pre_call C w⟩ rfl rfl hls rfl (lv_room hst) hdg (by obtain ⟨b1, b2⟩ := hz3; show _ ≤ mc ∧ _ ≤ ms; constructor <;> omega)
  refine vx_thr hrun w.2.2.1 (hA_call C w) (fun q _ g => hA_call C w q g) (fun E ce q9 u t H1 locs1 ht hal _ hB hS hce hcv hcl => ?_)
  obtain ⟨rfl, p1, p2, p3, p4⟩ := hB
  refine vx_widen (k := mc) (n := ms) (by obtain ⟨b1, b2⟩ := hz3; omega) (by obtain ⟨b1, b2⟩ := hz3; omega) ?_
  refine vx_catch hown pre x suf hsplit hpass hcov hct (hts _ hlk) (va_Nw.use rfl hcast) hce hcv hcl ?_
  exact kk H1 locs1 q9 hS (by rw [← ht]; exact p1) (by rw [← ht]; exact p2) p3
theorem hx_ret (C : Cx p s m args meth c cc nL (some .int) own D cs A se) {H1 : Heap} {locs1 : List Loc} (hS : va_S A s.heap H1 locs1) (p1 : ∀ a, hz.kd a ≠ 0 → va_at D vwCl (a, cellK cs hz (hz.kd a) a) H1) (p2 : hz.nx ≤ H1.size) (p3 : ∀ a, hz.nx ≤ a → hz.kd a = 0) {k : Int32} (hdg : decode cc pc = .ok (.ireturn, 1)) :
    W p l e R s m args below meth c H1 locs1 mc ms (MQ below (Zt D cs A hz k) args s mc ms A) (F0 m pc ls [.int k]) :=
  W.iret C.1 C.2.1 C.2.2.2.2.2.2.2.1 (fun t ht hW => ⟨⟨k, (), rfl, rfl, by rw [ht]; exact p2, fun a ha => by rw [cell_thr, ht]; exact p1 a ha, rfl, fun a ha => p3 a (Nat.le_trans p2 (by rw [← ht]; exact ha)), va_K.moved hW.alike C.2.2.2.2.2.1⟩, hS.F ht⟩) hS.2.2 hdg C.2.2.2.2.2.2.2.2.1
end JH
