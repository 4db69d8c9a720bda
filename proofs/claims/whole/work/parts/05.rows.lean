/-! the walk over the abstract heap: what stands fixed in a method (Cx), what moves (Wo), a row an instruction -/
abbrev eN : String := "java/util/ArrayList"
/-- the JDK's static empty array -/
def stE (se : Nat) (A : Nat → Prop) (U : State) (H : Heap) : Prop := va_Z "java/util/ArrayList" "DEFAULTCAPACITY_EMPTY_ELEMENTDATA" "[Ljava/lang/Object;" (.ref se) A U H ∧ va_T (.object "java/lang/Object") se 0 (fun _ => .null) A U H ∧ vx_Zq Bundle.tN "UNASSIGNED_STACK" Bundle.steD A U H ∧ vx_Zq Bundle.tN "SUPPRESSED_SENTINEL" Bundle.listD A U H
/-- what a throw needs beside good words: constructors declared, classes castable to themselves, the texts -/
def Xw (U : State) : Prop := va_Nw (.declares ⟨"java/lang/RuntimeException", "<init>", "(Ljava/lang/String;)V"⟩) U ∧ va_Nw (.declares ⟨"java/lang/Exception", "<init>", "(Ljava/lang/String;)V"⟩) U ∧ va_Nw (.declares ⟨"java/lang/Throwable", "<init>", "(Ljava/lang/String;)V"⟩) U ∧ va_Nw (.castable "java/lang/IllegalStateException" "java/lang/IllegalStateException") U ∧ va_Nw (.castable "java/lang/IllegalArgumentException" "java/lang/IllegalArgumentException") U ∧ va_Nw (.castable "java/util/NoSuchElementException" "java/util/NoSuchElementException") U ∧ va_Nw (.castable "java/lang/UnsupportedOperationException" "java/lang/UnsupportedOperationException") U ∧ va_Nw (.castable "java/lang/IndexOutOfBoundsException" "java/lang/IndexOutOfBoundsException") U ∧ (∃ a, vk_R "RingKeeper" 275 "the transaction is not active" a U) ∧ (∃ a, vk_R "RingKeeper" 280 "the transaction is read-only" a U) ∧ (∃ a, vk_R "RingKeeper" 120 "from is above to" a U) ∧ (∃ a, vk_R "RingKeeper" 125 "most is not 1 .. 100" a U) ∧ (∃ a, vk_R "RingKeeper" 137 "there is no such row" a U) ∧ (∃ a, vk_R "RingKeeper" 162 "there is no such place" a U)
theorem Xw.warm {s U : State} (hW : s.WarmedH U.vm) (h : Xw s) : Xw U := by
  obtain ⟨g0, g1, g2, g3, g4, g5, g6, g7, g8, g9, g10, g11, g12, g13⟩ := h
  exact ⟨va_Nw.warmD hW g0, va_Nw.warmD hW g1, va_Nw.warmD hW g2, va_Nw.warmC hW g3, va_Nw.warmC hW g4, va_Nw.warmC hW g5, va_Nw.warmC hW g6, va_Nw.warmC hW g7, g8.imp fun _ z => z.warm hW, g9.imp fun _ z => z.warm hW, g10.imp fun _ z => z.warm hW, g11.imp fun _ z => z.warm hW, g12.imp fun _ z => z.warm hW, g13.imp fun _ z => z.warm hW⟩
theorem Xw.same {s U : State} (hv : s.vm = U.vm) (h : Xw s) : Xw U := by
  obtain ⟨g0, g1, g2, g3, g4, g5, g6, g7, g8, g9, g10, g11, g12, g13⟩ := h
  exact ⟨va_Nw.same rfl hv g0, va_Nw.same rfl hv g1, va_Nw.same rfl hv g2, va_Nw.same rfl hv g3, va_Nw.same rfl hv g4, va_Nw.same rfl hv g5, va_Nw.same rfl hv g6, va_Nw.same rfl hv g7, g8.imp fun _ z => z.same hv.symm, g9.imp fun _ z => z.same hv.symm, g10.imp fun _ z => z.same hv.symm, g11.imp fun _ z => z.same hv.symm, g12.imp fun _ z => z.same hv.symm, g13.imp fun _ z => z.same hv.symm⟩
/-- words of the tables that aren't kept of themselves: nest mates' constructors, casts, the array of Object -/
def Nw (mi : Nat) (U : State) : Prop := va_Mi "[Ljava/lang/Object;" mi U ∧ va_Dc U ∧ va_AO "java/lang/Object" U ∧ va_Nw (.methodLinkNest "RingKeeper" 11 ⟨"RingKeeper$Shelf", "<init>", "()V"⟩ "RingKeeper") U ∧ va_Nw (.methodLinkNest "RingKeeper$View" 11 ⟨"RingKeeper$Shelf", "<init>", "()V"⟩ "RingKeeper") U ∧ va_Nw (.methodLinkNest "RingKeeper$Transaction" 11 ⟨"RingKeeper$Spans", "<init>", "()V"⟩ "RingKeeper") U ∧ va_Nw (.methodLinkNest "RingKeeper$Audit" 121 ⟨"RingKeeper$Shelf", "<init>", "()V"⟩ "RingKeeper") U ∧
  va_Nw (.castable "RingKeeper$Transaction" "java/lang/Object") U ∧ va_Nw (.castable "RingKeeper$Chain" "java/lang/Object") U ∧ va_Nw (.castable "RingKeeper$Call" "java/lang/Object") U ∧ Xw U
theorem Nw.warm {mi : Nat} {s U : State} (hW : s.WarmedH U.vm) (h : Nw mi s) : Nw mi U := by
  obtain ⟨h0, h00, h1, h2, h3, h4, h5, h6, h7, h8, h9⟩ := h
  exact ⟨h0.moved hW.alike, h00.moved hW.alike, h1.moved hW.alike, va_Nw.warmM hW h2, va_Nw.warmM hW h3, va_Nw.warmM hW h4, va_Nw.warmM hW h5, va_Nw.warmC hW h6, va_Nw.warmC hW h7, va_Nw.warmC hW h8, h9.warm hW⟩
theorem Nw.same {mi : Nat} {s U : State} (hv : s.vm = U.vm) (h : Nw mi s) : Nw mi U := by
  obtain ⟨h0, h00, h1, h2, h3, h4, h5, h6, h7, h8, h9⟩ := h
  have ha : s.vm.Alike U.vm := hv ▸ Vm.Alike.refl s.vm
  exact ⟨h0.moved ha, h00.moved ha, h1.moved ha, va_Nw.same rfl hv h2, va_Nw.same rfl hv h3, va_Nw.same rfl hv h4, va_Nw.same rfl hv h5, va_Nw.same rfl hv h6, va_Nw.same rfl hv h7, va_Nw.same rfl hv h8, h9.same hv⟩
def Cx (p : Program) (s : State) (m : MethodId) (args : Array Value) (meth : Method) (c : Code) (cc : ByteArray) (nL : Nat) (rt : Option FieldType) (own : String) (D : va_G) (cs : C4) (A : Nat → Prop) (se : Nat × Nat) : Prop :=
  p.tables.exec = Jvm.exec ∧ c.code = cc ∧ c.maxLocals = nL ∧ s.vm.findClass own = some m.cls ∧ (∀ w ∈ TB, w.before args s = true) ∧ va_K D vwCl (tyl cs) s ∧ (∀ q, s.heap.size ≤ q → A q) ∧ meth.sig.returnType = rt ∧ meth.locks = false ∧ stE se.1 A s s.heap ∧ Nw se.2 s
def Wo (D : va_G) (cs : C4) (A : Nat → Prop) (s : State) (h0 h : Hp) (H : Heap) (locs : List Loc) (cells slots : Nat) : Prop :=
  (∀ a, h.kd a ≠ 0 → va_at D vwCl (a, cellK cs h (h.kd a) a) H) ∧ (∀ a, h.kd a ≠ 0 → A a) ∧ va_S A s.heap H locs ∧ H.size = h.nx ∧ (∀ a, h.nx ≤ a → h.kd a = 0) ∧ cells + h0.nx = h.nx ∧ slots + h0.su = h.su ∧ h.se = h0.se
theorem sg_P {D : va_G} {cl : List vw_C} {q : Nat × va_E} {H : Heap} (h : va_at D cl q H) : va_P D cl [q] H := fun k x hk => by
  cases k with
  | zero => cases hk; exact h
  | succ k => cases hk
/-- one cell is written -/
theorem Wo.put {D : va_G} {cs : C4} {A : Nat → Prop} {s : State} {h0 h h' : Hp} {H H' : Heap} {locs : List Loc} {cells slots a k : Nat} (w : Wo D cs A s h0 h H locs cells slots) (ha : h.kd a ≠ 0)
    (he : va_at D vwCl (a, cellK cs h' (h.kd a) a) H') (hz : H'.size = H.size) (ho : ∀ q, q ≠ a → H'[q]? = H[q]?) (hag : ∀ b, b ≠ a → AgA h h' b) (hkd : h'.kd = h.kd) (hnx : h'.nx = h.nx) (hsu : h'.su = h.su) (hse : h'.se = h.se) :
    Wo D cs A s h0 h' H' (locs ++ [⟨a, k⟩]) cells slots := by
  obtain ⟨w1, w2, w3, w4, w5, w6, w7, w8⟩ := w
  refine ⟨fun b hb => ?_, fun b hb => w2 b (by rw [hkd] at hb; exact hb), w3.put hz ho (w2 a ha), by rw [hz, hnx]; exact w4, fun b hb => by rw [hkd]; exact w5 b (by rw [hnx] at hb; exact hb), by rw [hnx]; exact w6, by rw [hsu]; exact w7, by rw [hse]; exact w8⟩
  rw [hkd] at hb ⊢
  by_cases e : b = a
  · subst e; exact he
  · rw [cell_ag cs _ (hag b e)]
    exact (w1 b hb).kept (ho b e)
/-- one cell is made -/
theorem Wo.new {D : va_G} {cs : C4} {A : Nat → Prop} {s : State} {h0 h : Hp} {H H' : Heap} {locs : List Loc} {cells slots k n sl : Nat} (w : Wo D cs A s h0 h H locs cells slots) (hA : ∀ q, s.heap.size ≤ q → A q)
    (he : va_at D vwCl (h.nx, cellK cs (h.new k n sl) k h.nx) H') (hz : H'.size = H.size + 1) (ho : ∀ q, q < H.size → H'[q]? = H[q]?) :
    Wo D cs A s h0 (h.new k n sl) H' locs (cells + 1) (slots + sl) := by
  obtain ⟨w1, w2, w3, w4, w5, w6, w7, w8⟩ := w
  refine ⟨fun b hb => ?_, fun b hb => ?_, ⟨Nat.le_trans w3.1 (by omega), fun q h1 h2 => (ho q (Nat.lt_of_lt_of_le h1 w3.1)).trans (w3.2.1 q h1 h2), w3.2.2⟩, by rw [hz, w4]; rfl, fun b hb => ?_, ?_, ?_, w8⟩
  · by_cases e : b = h.nx
    · subst e
      show va_at D vwCl (h.nx, cellK cs (h.new k n sl) (va_up h.kd h.nx k h.nx) h.nx) H'
      rw [va_up_self]
      exact he
    · have hb' : h.kd b ≠ 0 := by
        have : (h.new k n sl).kd b = h.kd b := va_up_ne _ _ e
        rw [this] at hb; exact hb
      have e2 : (h.new k n sl).kd b = h.kd b := va_up_ne _ _ e
      rw [e2, cell_ag cs _ (ag_new h k n sl e)]
      have hlt : b < h.nx := Nat.lt_of_not_le fun q => hb' (w5 b q)
      exact (w1 b hb').kept (ho b (by rw [w4]; exact hlt))
  · by_cases e : b = h.nx
    · subst e; exact hA _ (by have := w3.1; omega)
    · exact w2 b (by have e2 : (h.new k n sl).kd b = h.kd b := va_up_ne _ _ e
                     rw [e2] at hb; exact hb)
  · have hb1 : h.nx + 1 ≤ b := hb
    have e2 : (h.new k n sl).kd b = h.kd b := va_up_ne _ _ (by omega)
    rw [e2]; exact w5 b (by omega)
  · show cells + 1 + h0.nx = h.nx + 1
    omega
  · show slots + sl + h0.su = h.su + sl
    omega
section JR
variable {p : Program} {l : Launch} {e : Env} {R : Room} {s : State} {m : MethodId} {args : Array Value} {below : List Frame} {meth : Method} {c : Code} {H : Heap} {locs : List Loc} {cells slots : Nat} {Q : State → Prop}
variable {cc : ByteArray} {nL : Nat} {rt : Option FieldType} {own : String} {D : va_G} {cs : C4} {A : Nat → Prop} {h0 h : Hp} {se : Nat × Nat} {pc : Nat} {ls : Array Slot} {rest : List Value}
theorem jr_get (C : Cx p s m args meth c cc nL rt own D cs A se) (w : Wo D cs A s h0 h H locs cells slots) {a ci N index : Nat} {Cn : String} {T : u_T} (hk : h.kd a = ci) (h0c : ci ≠ 0) (hc : vwCl[ci]? = some (Cn, T, N)) (hin : ∀ w ∈ u_ws Cn T N, w ∈ TB) (j : Nat) (hj : j < N) (hl : Cond.fieldLink own index (T j).1 (T j).2.1 (T j).2.2.1 ∈ TB)
    {fs : List Value} (hf : cellK cs h ci a = .inr (ci, fs)) {v : Value} (hv : fs[j]? = some v) (hdg : decode cc pc = .ok (.getfield index, 3)) (kk : W p l e R s m args below meth c H locs cells slots Q (F0 m (pc + 3) ls (v :: rest))) : W p l e R s m args below meth c H locs cells slots Q (F0 m pc ls (.ref a :: rest)) := by
  obtain ⟨hx, hb, hml, hown, hts, hK, hA, -, -, -, -⟩ := C
  have hat := w.1 a (by rw [hk]; exact h0c)
  rw [hk, hf] at hat
  exact va_get hx hb hts hin hown hK (sg_P hat) 0 rfl hc j hj (hts _ hl) (fun _ h9 => h9) hv hdg kk
theorem jr_put (C : Cx p s m args meth c cc nL rt own D cs A se) (w : Wo D cs A s h0 h H locs cells slots) {h' : Hp} {a ci N index : Nat} {Cn : String} {T : u_T} (hk : h.kd a = ci) (h0c : ci ≠ 0) (hc : vwCl[ci]? = some (Cn, T, N)) (hin : ∀ w ∈ u_ws Cn T N, w ∈ TB) (ty0 : Nat → FieldType) (hty : ∀ k, k < N → parseFieldDescriptor (T k).2.2.1 = some (ty0 k)) (hnm : ∀ a, a < N → ∀ b, b < N → a ≠ b → (T a).2.1 ≠ (T b).2.1)
    (j : Nat) (hj : j < N) (hl : Cond.fieldLink own index (T j).1 (T j).2.1 (T j).2.2.1 ∈ TB) (hfin : (T j).2.2.2 = false) {fs : List Value} (hf : cellK cs h ci a = .inr (ci, fs)) {ty : FieldType} {v : Value} (hd : parseFieldDescriptor (T j).2.2.1 = some ty) (hn : narrow ty v = v) (hfit : fits ty v = true) (hlen : j < fs.length)
    (hs : cellK cs h' ci a = .inr (ci, fs.set j v)) (hag : ∀ b, b ≠ a → AgA h h' b) (hkd : h'.kd = h.kd) (hnx : h'.nx = h.nx) (hsu : h'.su = h.su) (hse : h'.se = h.se) (hdg : decode cc pc = .ok (.putfield index, 3))
    (kk : ∀ (H1 : Heap) (locs1 : List Loc), Wo D cs A s h0 h' H1 locs1 cells slots → W p l e R s m args below meth c H1 locs1 cells slots Q (F0 m (pc + 3) ls rest)) : W p l e R s m args below meth c H locs cells slots Q (F0 m pc ls (v :: .ref a :: rest)) := by
  obtain ⟨hx, hb, hml, hown, hts, hK, hA, -, -, -, -⟩ := C
  have hne : h.kd a ≠ 0 := by rw [hk]; exact h0c
  have hat := w.1 a hne
  rw [hk, hf] at hat
  have hap := va_apart (own := own) hts hin ty0 hty hnm hK hc
  obtain ⟨r, h1, cell, q1, q2, q3, q4⟩ := hat
  have hr : r = (Cn, T, N) := Option.some.inj (h1.symm.trans hc)
  subst hr
  obtain ⟨hS, hfc, kC, hkC, hkind⟩ := hK.1 ci _ hc
  obtain ⟨cf, kf, fi, f, hi, hsl⟩ := hS j hj
  have hlay := hts _ (hin _ (u_in_lay hj))
  unfold u_lay at hlay
  rw [if_neg (by rw [hfin]; decide)] at hlay
  have hst := (u_facts hfc hkC (u_lays hts hin hj) hi).1
  have h6 := u_store hfc hkC hkind hlay hi hd hn hfit
  refine W.putK hx hb (f := f) ⟨hown, hts _ hl, ⟨_, _, _, hi⟩, hst⟩ (by rw [q2]; exact h6) q1 q3 (by rw [hsl]; exact k2_hasslot (q4 j hj)) rfl rfl hdg fun H' e1 e2 e3 => ?_
  rw [hsl] at e1 ⊢
  refine kk H' _ (w.put hne ?_ e2 e3 hag hkd hnx hsu hse)
  rw [hk, hs]
  exact ⟨_, hc, t_OB.to (V := updV (vp_V fs) j v) ⟨_, e1, q2, q3, t_set q4 hap hj v⟩ (fun i _ => vp_updV_set hlen v i)⟩
theorem jr_putF (C : Cx p s m args meth c cc nL rt own D cs A se) (w : Wo D cs A s h0 h H locs cells slots) {h' : Hp} {a ci N index : Nat} {Cn : String} {T : u_T} (hk : h.kd a = ci) (h0c : ci ≠ 0) (hc : vwCl[ci]? = some (Cn, T, N)) (hin : ∀ w ∈ u_ws Cn T N, w ∈ TB) (ty0 : Nat → FieldType) (hty : ∀ k, k < N → parseFieldDescriptor (T k).2.2.1 = some (ty0 k)) (hnm : ∀ a, a < N → ∀ b, b < N → a ≠ b → (T a).2.1 ≠ (T b).2.1)
    (j : Nat) (hj : j < N) (hl : Cond.fieldLink own index (T j).1 (T j).2.1 (T j).2.2.1 ∈ TB) (hfin : (T j).2.2.2 = true) (hin2 : meth.name = "<init>") (hdecl : (T j).1 = own) {fs : List Value} (hf : cellK cs h ci a = .inr (ci, fs)) {ty : FieldType} {v : Value} (hd : parseFieldDescriptor (T j).2.2.1 = some ty) (hn : narrow ty v = v) (hfit : fits ty v = true) (hlen : j < fs.length)
    (hs : cellK cs h' ci a = .inr (ci, fs.set j v)) (hag : ∀ b, b ≠ a → AgA h h' b) (hkd : h'.kd = h.kd) (hnx : h'.nx = h.nx) (hsu : h'.su = h.su) (hse : h'.se = h.se) (hdg : decode cc pc = .ok (.putfield index, 3))
    (kk : ∀ (H1 : Heap) (locs1 : List Loc), Wo D cs A s h0 h' H1 locs1 cells slots → W p l e R s m args below meth c H1 locs1 cells slots Q (F0 m (pc + 3) ls rest)) : W p l e R s m args below meth c H locs cells slots Q (F0 m pc ls (v :: .ref a :: rest)) := by
  obtain ⟨hx, hb, hml, hown, hts, hK, hA, -, -, -, -⟩ := C
  have hne : h.kd a ≠ 0 := by rw [hk]; exact h0c
  have hat := w.1 a hne
  rw [hk, hf] at hat
  have hap := va_apart (own := own) hts hin ty0 hty hnm hK hc
  obtain ⟨r, h1, cell, q1, q2, q3, q4⟩ := hat
  have hr : r = (Cn, T, N) := Option.some.inj (h1.symm.trans hc)
  subst hr
  obtain ⟨hS, hfc, kC, hkC, hkind⟩ := hK.1 ci _ hc
  obtain ⟨cf, kf, fi, f, hi, hsl⟩ := hS j hj
  have hlay := hts _ (hin _ (u_in_lay hj))
  unfold u_lay at hlay
  rw [if_pos hfin] at hlay
  have hst := (u_facts hfc hkC (u_lays hts hin hj) hi).1
  have hcf : m.cls = cf := by
    obtain ⟨_, _, c', _, _, _, -, -, hf', -, -, -, hown2, -⟩ := Cond.laysFinal_spec hlay
    have e1 : c' = cf := by have := hi.symm.trans hf'; simp at this; exact this.1.symm
    rw [hdecl] at hown2
    rw [← e1]; exact Option.some.inj (hown.symm.trans hown2)
  have h6 := u_fits hfc hkC hkind (Or.inr hlay) hi hd hn hfit
  refine W.putFinK hx hb hown (hts _ hl) hi hst hcf hin2 (by rw [q2]; exact h6) q1 q3 (by rw [hsl]; exact k2_hasslot (q4 j hj)) rfl rfl hdg fun H' e1 e2 e3 => ?_
  rw [hsl] at e1 ⊢
  refine kk H' _ (w.put hne ?_ e2 e3 hag hkd hnx hsu hse)
  rw [hk, hs]
  exact ⟨_, hc, t_OB.to (V := updV (vp_V fs) j v) ⟨_, e1, q2, q3, t_set q4 hap hj v⟩ (fun i _ => vp_updV_set hlen v i)⟩
theorem jr_new (C : Cx p s m args meth c cc nL rt own D cs A se) (w : Wo D cs A s h0 h H locs cells slots) {ci N index : Nat} {Cn : String} {T : u_T} (hc : vwCl[ci]? = some (Cn, T, N)) (hin : ∀ w ∈ u_ws Cn T N, w ∈ TB) (ty : Nat → FieldType) (hty : ∀ k, k < N → parseFieldDescriptor (T k).2.2.1 = some (ty k)) (hcl : Cond.classLink own index Cn ∈ TB) (hinst : Cond.instantiable Cn N ∈ TB) (hini : Cond.initialized Cn ∈ TB)
    {fs : List Value} (hf : cellK cs (h.new ci 0 N) ci h.nx = .inr (ci, fs)) (hfs : ∀ j, j < N → defaultValue (ty j) = vp_V fs j) (hcells : cells + 1 ≤ R.cells) (hslots : slots + N ≤ R.slots) (hdg : decode cc pc = .ok (.new index, 3))
    (kk : ∀ (H1 : Heap), Wo D cs A s h0 (h.new ci 0 N) H1 locs (cells + 1) (slots + N) → W p l e R s m args below meth c H1 locs (cells + 1) (slots + N) Q (F0 m (pc + 3) ls (.ref h.nx :: rest))) : W p l e R s m args below meth c H locs cells slots Q (F0 m pc ls rest) := by
  obtain ⟨hx, hb, hml, hown, hts, hK, hA, -, -, -, -⟩ := C
  have hKn := hK.1 ci _ hc
  refine W.newcK hx hb hown (hts _ hcl) (hts _ hinst) (hts _ hini) rfl hdg hcells hslots hKn.2.1 w.2.2.2.1 fun H1 kC hkC e1 z1 o1 => ?_
  refine kk H1 (w.new hA ?_ (by rw [w.2.2.2.1]; exact z1) (by rw [w.2.2.2.1]; exact o1))
  rw [hf]
  exact ⟨_, hc, (u_born ty hts hin hKn hkC e1 hty).to hfs⟩
end JR
