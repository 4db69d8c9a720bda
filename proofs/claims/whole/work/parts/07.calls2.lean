section JD
variable {p : Program} {l : Launch} {e : Env} {R : Room} {s : State} {m : MethodId} {args : Array Value} {below : List Frame} {meth : Method} {c : Code} {H : Heap} {locs : List Loc} {cells slots : Nat} {Q : State → Prop}
variable {cc : ByteArray} {nL : Nat} {rt : Option FieldType} {own : String} {D : va_G} {cs : C4} {A : Nat → Prop} {h0 h h' hz : Hp} {se : Nat × Nat} {pc : Nat} {ls : Array Slot} {rest : List Value}
variable {y : MethodName} {bytes : ByteArray} {maxL n index mc ms fr lo F LO : Nat} {ret : Option FieldType} {b ci : Nat} {q : vw_C} {fs As : List Value}
/-- the words of a callee, all of the tables -/
def Cw (own : String) (index : Nat) (y : MethodName) (bytes : ByteArray) (maxL : Nat) (ret : Option FieldType) : Prop := Cond.code y bytes maxL ret ∈ TB ∧ Cond.methodLink own index y ∈ TB ∧ Cond.instanceMethod y ∈ TB ∧ Cond.selects y.cls y y ∈ TB ∧ Cond.initialized y.cls ∈ TB
def Cd (y : MethodName) (k : Nat) : Prop := y.cls ≠ "java/lang/invoke/MethodHandle" ∧ y.cls ≠ "java/lang/invoke/VarHandle" ∧ (parseMethodDescriptor y.desc).map (fun d => d.parameters.length) = some k
theorem jc_Vi (C : Cx p s m args meth c cc nL rt own D cs A h0.se) (w : Wo D cs A s h0 h H locs cells slots) {r : Int32} (hM : Ci l y bytes maxL ret fr lo D cs h h' (.ref b :: As) r) (hm : Mo h h') (hz1 : Mo h' hz) (hz2 : hz.nx ≤ h0.nx + mc ∧ hz.su ≤ h0.su + ms)
    (hk : h.kd b = ci) (h0c : ci ≠ 0) (hc : vwCl[ci]? = some q) (hf : cellK cs h ci b = .inr (ci, fs)) (hq : y.cls = q.1) (hw : Cw own index y bytes maxL ret) (hd : Cd y As.length) (hR : fr + 1 ≤ F ∧ 8 + (maxL + 11) + lo ≤ LO) (hls : ls.size = nL) (hst : (rest.map fun v => v.category).sum ≤ 8) {st : List Value} (hst2 : st = As.reverse ++ .ref b :: rest) (hdg : decode cc pc = .ok (.invokevirtual index, 3))
    (kk : ∀ (H1 : Heap) (locs1 : List Loc), Wo D cs A s h0 h' H1 locs1 (cells + (h'.nx - h.nx)) (slots + (h'.su - h.su)) → W p l e { frames := F, cells := mc, slots := ms, locals := LO } s m args below meth c H1 locs1 (cells + (h'.nx - h.nx)) (slots + (h'.su - h.su)) Q (F0 m (pc + 3) ls (.int r :: rest))) :
    W p l e { frames := F, cells := mc, slots := ms, locals := LO } s m args below meth c H locs cells slots Q (F0 m pc ls st) := by
  subst hst2
  obtain ⟨c1, c2, c3, c4, c5⟩ := hw
  rw [hq] at c4 c5
  refine va_calli (jc_runV C w (hM _ _ (by have := hm.2.1; omega) (by have := hm.2.2.1; omega)) hk h0c hc hf c1 c2 c3 c4 c5 ⟨hq, hd⟩ hR hls hst hdg (rm_call w hm hz1 hz2)) w.2.2.1 (fun q _ g => hA_call C w q g) (hA_call C w) (fun x u t H1 locs1 ht _ hx hB _ _ hS => ?_)
  subst hx
  exact kk H1 locs1 (w.call C.2.2.2.2.2.2.1 ht hm hB hS)
theorem jc_Vl (C : Cx p s m args meth c cc nL rt own D cs A h0.se) (w : Wo D cs A s h0 h H locs cells slots) {r : Int64} (hM : Cl l y bytes maxL ret fr lo D cs h h' (.ref b :: As) r) (hm : Mo h h') (hz1 : Mo h' hz) (hz2 : hz.nx ≤ h0.nx + mc ∧ hz.su ≤ h0.su + ms)
    (hk : h.kd b = ci) (h0c : ci ≠ 0) (hc : vwCl[ci]? = some q) (hf : cellK cs h ci b = .inr (ci, fs)) (hq : y.cls = q.1) (hw : Cw own index y bytes maxL ret) (hd : Cd y As.length) (hR : fr + 1 ≤ F ∧ 8 + (maxL + 11) + lo ≤ LO) (hls : ls.size = nL) (hst : (rest.map fun v => v.category).sum ≤ 8) {st : List Value} (hst2 : st = As.reverse ++ .ref b :: rest) (hdg : decode cc pc = .ok (.invokevirtual index, 3))
    (kk : ∀ (H1 : Heap) (locs1 : List Loc), Wo D cs A s h0 h' H1 locs1 (cells + (h'.nx - h.nx)) (slots + (h'.su - h.su)) → W p l e { frames := F, cells := mc, slots := ms, locals := LO } s m args below meth c H1 locs1 (cells + (h'.nx - h.nx)) (slots + (h'.su - h.su)) Q (F0 m (pc + 3) ls (.long r :: rest))) :
    W p l e { frames := F, cells := mc, slots := ms, locals := LO } s m args below meth c H locs cells slots Q (F0 m pc ls st) := by
  subst hst2
  obtain ⟨c1, c2, c3, c4, c5⟩ := hw
  rw [hq] at c4 c5
  refine va_calll (jc_runV C w (hM _ _ (by have := hm.2.1; omega) (by have := hm.2.2.1; omega)) hk h0c hc hf c1 c2 c3 c4 c5 ⟨hq, hd⟩ hR hls hst hdg (rm_call w hm hz1 hz2)) w.2.2.1 (fun q _ g => hA_call C w q g) (hA_call C w) (fun x u t H1 locs1 ht _ hx hB _ _ hS => ?_)
  subst hx
  exact kk H1 locs1 (w.call C.2.2.2.2.2.2.1 ht hm hB hS)
theorem jc_Vq (C : Cx p s m args meth c cc nL rt own D cs A h0.se) (w : Wo D cs A s h0 h H locs cells slots) {r : Option Nat} (hM : Cq l y bytes maxL ret fr lo D cs h h' (.ref b :: As) r) (hm : Mo h h') (hz1 : Mo h' hz) (hz2 : hz.nx ≤ h0.nx + mc ∧ hz.su ≤ h0.su + ms)
    (hk : h.kd b = ci) (h0c : ci ≠ 0) (hc : vwCl[ci]? = some q) (hf : cellK cs h ci b = .inr (ci, fs)) (hq : y.cls = q.1) (hw : Cw own index y bytes maxL ret) (hd : Cd y As.length) (hR : fr + 1 ≤ F ∧ 8 + (maxL + 11) + lo ≤ LO) (hls : ls.size = nL) (hst : (rest.map fun v => v.category).sum ≤ 8) {st : List Value} (hst2 : st = As.reverse ++ .ref b :: rest) (hdg : decode cc pc = .ok (.invokevirtual index, 3))
    (kk : ∀ (H1 : Heap) (locs1 : List Loc), Wo D cs A s h0 h' H1 locs1 (cells + (h'.nx - h.nx)) (slots + (h'.su - h.su)) → W p l e { frames := F, cells := mc, slots := ms, locals := LO } s m args below meth c H1 locs1 (cells + (h'.nx - h.nx)) (slots + (h'.su - h.su)) Q (F0 m (pc + 3) ls (va_rf r :: rest))) :
    W p l e { frames := F, cells := mc, slots := ms, locals := LO } s m args below meth c H locs cells slots Q (F0 m pc ls st) := by
  subst hst2
  obtain ⟨c1, c2, c3, c4, c5⟩ := hw
  rw [hq] at c4 c5
  refine va_callq (jc_runV C w (hM _ _ (by have := hm.2.1; omega) (by have := hm.2.2.1; omega)) hk h0c hc hf c1 c2 c3 c4 c5 ⟨hq, hd⟩ hR hls hst hdg (rm_call w hm hz1 hz2)) w.2.2.1 (fun q _ g => hA_call C w q g) (hA_call C w) (fun x u t H1 locs1 ht _ hx hB _ _ hS => ?_)
  subst hx
  exact kk H1 locs1 (w.call C.2.2.2.2.2.2.1 ht hm hB hS)
theorem jc_Vv (C : Cx p s m args meth c cc nL rt own D cs A h0.se) (w : Wo D cs A s h0 h H locs cells slots) (hM : Cv l y bytes maxL ret fr lo D cs h h' (.ref b :: As)) (hm : Mo h h') (hz1 : Mo h' hz) (hz2 : hz.nx ≤ h0.nx + mc ∧ hz.su ≤ h0.su + ms)
    (hk : h.kd b = ci) (h0c : ci ≠ 0) (hc : vwCl[ci]? = some q) (hf : cellK cs h ci b = .inr (ci, fs)) (hq : y.cls = q.1) (hw : Cw own index y bytes maxL ret) (hd : Cd y As.length) (hR : fr + 1 ≤ F ∧ 8 + (maxL + 11) + lo ≤ LO) (hls : ls.size = nL) (hst : (rest.map fun v => v.category).sum ≤ 8) {st : List Value} (hst2 : st = As.reverse ++ .ref b :: rest) (hdg : decode cc pc = .ok (.invokevirtual index, 3))
    (kk : ∀ (H1 : Heap) (locs1 : List Loc), Wo D cs A s h0 h' H1 locs1 (cells + (h'.nx - h.nx)) (slots + (h'.su - h.su)) → W p l e { frames := F, cells := mc, slots := ms, locals := LO } s m args below meth c H1 locs1 (cells + (h'.nx - h.nx)) (slots + (h'.su - h.su)) Q (F0 m (pc + 3) ls rest)) :
    W p l e { frames := F, cells := mc, slots := ms, locals := LO } s m args below meth c H locs cells slots Q (F0 m pc ls st) := by
  subst hst2
  obtain ⟨c1, c2, c3, c4, c5⟩ := hw
  rw [hq] at c4 c5
  refine va_callv (jc_runV C w (hM _ _ (by have := hm.2.1; omega) (by have := hm.2.2.1; omega)) hk h0c hc hf c1 c2 c3 c4 c5 ⟨hq, hd⟩ hR hls hst hdg (rm_call w hm hz1 hz2)) w.2.2.1 (fun q _ g => hA_call C w q g) (hA_call C w) (fun u t H1 locs1 ht _ _ hB _ _ hS => ?_)
  exact kk H1 locs1 (w.call C.2.2.2.2.2.2.1 ht hm hB hS)
/-- a constructor -/
theorem jc_I (C : Cx p s m args meth c cc nL rt own D cs A h0.se) (w : Wo D cs A s h0 h H locs cells slots) (hM : Cv l y bytes maxL none fr lo D cs h h' (.ref b :: As)) (hm : Mo h h') (hz1 : Mo h' hz) (hz2 : hz.nx ≤ h0.nx + mc ∧ hz.su ≤ h0.su + ms)
    (hcode : Cond.code y bytes maxL none ∈ TB) (hl : Cond.methodLink own index y ∈ TB) (hi : Cond.instanceMethod y ∈ TB) (hini : Cond.initialized y.cls ∈ TB) (hy : y.name = "<init>") (hd : Cd y As.length) (hR : fr + 1 ≤ F ∧ 8 + (maxL + 11) + lo ≤ LO) (hls : ls.size = nL) (hst : (rest.map fun v => v.category).sum ≤ 8) {st : List Value} (hst2 : st = As.reverse ++ .ref b :: rest) (hdg : decode cc pc = .ok (.invokespecial index, 3))
    (kk : ∀ (H1 : Heap) (locs1 : List Loc), Wo D cs A s h0 h' H1 locs1 (cells + (h'.nx - h.nx)) (slots + (h'.su - h.su)) → W p l e { frames := F, cells := mc, slots := ms, locals := LO } s m args below meth c H1 locs1 (cells + (h'.nx - h.nx)) (slots + (h'.su - h.su)) Q (F0 m (pc + 3) ls rest)) :
    W p l e { frames := F, cells := mc, slots := ms, locals := LO } s m args below meth c H locs cells slots Q (F0 m pc ls st) := by
  subst hst2
  obtain ⟨hx, hb, hml, hown, hts, hK, hA, h8, h9, h10, h11⟩ := id C
  refine va_callv (va_runI (As := As) (rest := rest) ⟨hx, hb, hml, hown, hts⟩ (hM _ _ (by have := hm.2.1; omega) (by have := hm.2.2.1; omega)) (cwI As.length hts (tb_in2 hcode) rfl rfl rfl (hts _ hini) (hts _ hl) (hts _ hi) hy hd hR) ⟨fb_pre, pre_call C w⟩ rfl rfl hls rfl (lv_room hst) hdg (rm_call w hm hz1 hz2)) w.2.2.1 (fun q _ g => hA_call C w q g) (hA_call C w) (fun u t H1 locs1 ht _ _ hB _ _ hS => ?_)
  exact kk H1 locs1 (w.call C.2.2.2.2.2.2.1 ht hm hB hS)
/-- a nest mate's private constructor -/
theorem jc_IN (C : Cx p s m args meth c cc nL rt own D cs A h0.se) (w : Wo D cs A s h0 h H locs cells slots) {host : String} (hM : Cv l y bytes maxL none fr lo D cs h h' (.ref b :: As)) (hm : Mo h h') (hz1 : Mo h' hz) (hz2 : hz.nx ≤ h0.nx + mc ∧ hz.su ≤ h0.su + ms)
    (hcode : Cond.code y bytes maxL none ∈ TB) (hl : va_Nw (.methodLinkNest own index y host) s) (hi : Cond.instanceMethod y ∈ TB) (hini : Cond.initialized y.cls ∈ TB) (hy : y.name = "<init>") (hd : Cd y As.length) (hR : fr + 1 ≤ F ∧ 8 + (maxL + 11) + lo ≤ LO) (hls : ls.size = nL) (hst : (rest.map fun v => v.category).sum ≤ 8) {st : List Value} (hst2 : st = As.reverse ++ .ref b :: rest) (hdg : decode cc pc = .ok (.invokespecial index, 3))
    (kk : ∀ (H1 : Heap) (locs1 : List Loc), Wo D cs A s h0 h' H1 locs1 (cells + (h'.nx - h.nx)) (slots + (h'.su - h.su)) → W p l e { frames := F, cells := mc, slots := ms, locals := LO } s m args below meth c H1 locs1 (cells + (h'.nx - h.nx)) (slots + (h'.su - h.su)) Q (F0 m (pc + 3) ls rest)) :
    W p l e { frames := F, cells := mc, slots := ms, locals := LO } s m args below meth c H locs cells slots Q (F0 m pc ls st) := by
  subst hst2
  obtain ⟨hx, hb, hml, hown, hts, hK, hA, h8, h9, h10, h11⟩ := id C
  refine va_callv (va_runIN (As := As) (rest := rest) ⟨hx, hb, hml, hown, hts⟩ (hM _ _ (by have := hm.2.1; omega) (by have := hm.2.2.1; omega)) ⟨va_cnB As.length hts (tb_in2 hcode) rfl rfl rfl hl (hts _ hini) hd hR, hy, hts _ hi⟩ ⟨fb_pre, pre_call C w⟩ rfl rfl hls rfl (lv_room hst) hdg (rm_call w hm hz1 hz2)) w.2.2.1 (fun q _ g => hA_call C w q g) (hA_call C w) (fun u t H1 locs1 ht _ _ hB _ _ hS => ?_)
  exact kk H1 locs1 (w.call C.2.2.2.2.2.2.1 ht hm hB hS)
/-- the constructor of Object -/
theorem jc_O (C : Cx p s m args meth c cc nL rt own D cs A se) {a : Nat} (hl : Cond.methodLink own index Lib.objectInit ∈ TB) (hi : Cond.instanceMethod Lib.objectInit ∈ TB) (hc : Cond.code Lib.objectInit ⟨#[0xb1]⟩ 1 none ∈ TB) (hls : ls.size = nL) (hst : (rest.map fun v => v.category).sum + 12 ≤ LO) (hF : 1 ≤ F) (hdg : decode cc pc = .ok (.invokespecial index, 3))
    (kk : W p l e { frames := F, cells := mc, slots := ms, locals := LO } s m args below meth c H locs cells slots Q (F0 m (pc + 3) ls rest)) : W p l e { frames := F, cells := mc, slots := ms, locals := LO } s m args below meth c H locs cells slots Q (F0 m pc ls (.ref a :: rest)) := by
  obtain ⟨hx, hb, hml, hown, hts, -⟩ := C
  refine W.objInit hx hb hown (hts _ hl) (hts _ hi) (hts _ hc) rfl (by rw [hml]; exact hls) rfl hdg hF ?_ kk
  show 2 * 0 + _ + 12 ≤ LO
  omega
end JD
