section JS
variable {p : Program} {l : Launch} {e : Env} {R : Room} {s : State} {m : MethodId} {args : Array Value} {below : List Frame} {meth : Method} {c : Code} {H : Heap} {locs : List Loc} {cells slots : Nat} {Q : State → Prop}
variable {cc : ByteArray} {nL : Nat} {rt : Option FieldType} {own : String} {D : va_G} {cs : C4} {A : Nat → Prop} {h0 h h' hz : Hp} {se : Nat × Nat} {pc : Nat} {ls : Array Slot} {rest : List Value}
variable {y : MethodName} {bytes : ByteArray} {maxL n index mc ms fr lo F LO : Nat} {ret : Option FieldType} {As : List Value}
def Cws (own : String) (index : Nat) (y : MethodName) (bytes : ByteArray) (maxL : Nat) (ret : Option FieldType) : Prop := Cond.code y bytes maxL ret ∈ TB ∧ Cond.methodLink own index y ∈ TB ∧ Cond.static y ∈ TB ∧ Cond.initialized y.cls ∈ TB

theorem jc_Si (C : Cx p s m args meth c cc nL rt own D cs A h0.se) (w : Wo D cs A s h0 h H locs cells slots) {r : Int32} (hM : Ci l y bytes maxL ret fr lo D cs h h' As r) (hm : Mo h h') (hz1 : Mo h' hz) (hz2 : hz.nx ≤ h0.nx + mc ∧ hz.su ≤ h0.su + ms)
    (hw : Cws own index y bytes maxL ret) (hd : Cd y As.length) (hR : fr + 1 ≤ F ∧ 8 + (maxL + 11) + lo ≤ LO) (hls : ls.size = nL) (hst : (rest.map fun v => v.category).sum ≤ 8) {st : List Value} (hst2 : st = As.reverse ++ rest) (hdg : decode cc pc = .ok (.invokestatic index, 3))
    (kk : ∀ (H1 : Heap) (locs1 : List Loc), Wo D cs A s h0 h' H1 locs1 (cells + (h'.nx - h.nx)) (slots + (h'.su - h.su)) → W p l e { frames := F, cells := mc, slots := ms, locals := LO } s m args below meth c H1 locs1 (cells + (h'.nx - h.nx)) (slots + (h'.su - h.su)) Q (F0 m (pc + 3) ls (.int r :: rest))) :
    W p l e { frames := F, cells := mc, slots := ms, locals := LO } s m args below meth c H locs cells slots Q (F0 m pc ls st) := by
  subst hst2
  obtain ⟨c1, c2, c3, c4⟩ := hw
  obtain ⟨hx, hb, hml, hown, hts, hK, hA, h8, h9, h10, h11⟩ := id C
  refine va_calli (va_runS (As := As) (rest := rest) ⟨hx, hb, hml, hown, hts⟩ (hM _ _ (by have := hm.2.1; omega) (by have := hm.2.2.1; omega)) ⟨callB_of As.length hts (tb_in2 c1) rfl rfl rfl (hts _ c4) (hts _ c2) hd hR, hts _ c3⟩ ⟨fb_pre, pre_call C w⟩ rfl rfl hls rfl (lv_room hst) hdg (rm_call w hm hz1 hz2)) w.2.2.1 (fun q _ g => hA_call C w q g) (hA_call C w) (fun x u t H1 locs1 ht _ hx1 hB _ _ hS => ?_)
  subst hx1
  exact kk H1 locs1 (w.call C.2.2.2.2.2.2.1 ht hm hB hS)
theorem jc_Sl (C : Cx p s m args meth c cc nL rt own D cs A h0.se) (w : Wo D cs A s h0 h H locs cells slots) {r : Int64} (hM : Cl l y bytes maxL ret fr lo D cs h h' As r) (hm : Mo h h') (hz1 : Mo h' hz) (hz2 : hz.nx ≤ h0.nx + mc ∧ hz.su ≤ h0.su + ms)
    (hw : Cws own index y bytes maxL ret) (hd : Cd y As.length) (hR : fr + 1 ≤ F ∧ 8 + (maxL + 11) + lo ≤ LO) (hls : ls.size = nL) (hst : (rest.map fun v => v.category).sum ≤ 8) {st : List Value} (hst2 : st = As.reverse ++ rest) (hdg : decode cc pc = .ok (.invokestatic index, 3))
    (kk : ∀ (H1 : Heap) (locs1 : List Loc), Wo D cs A s h0 h' H1 locs1 (cells + (h'.nx - h.nx)) (slots + (h'.su - h.su)) → W p l e { frames := F, cells := mc, slots := ms, locals := LO } s m args below meth c H1 locs1 (cells + (h'.nx - h.nx)) (slots + (h'.su - h.su)) Q (F0 m (pc + 3) ls (.long r :: rest))) :
    W p l e { frames := F, cells := mc, slots := ms, locals := LO } s m args below meth c H locs cells slots Q (F0 m pc ls st) := by
  subst hst2
  obtain ⟨c1, c2, c3, c4⟩ := hw
  obtain ⟨hx, hb, hml, hown, hts, hK, hA, h8, h9, h10, h11⟩ := id C
  refine va_calll (va_runS (As := As) (rest := rest) ⟨hx, hb, hml, hown, hts⟩ (hM _ _ (by have := hm.2.1; omega) (by have := hm.2.2.1; omega)) ⟨callB_of As.length hts (tb_in2 c1) rfl rfl rfl (hts _ c4) (hts _ c2) hd hR, hts _ c3⟩ ⟨fb_pre, pre_call C w⟩ rfl rfl hls rfl (lv_room hst) hdg (rm_call w hm hz1 hz2)) w.2.2.1 (fun q _ g => hA_call C w q g) (hA_call C w) (fun x u t H1 locs1 ht _ hx1 hB _ _ hS => ?_)
  subst hx1
  exact kk H1 locs1 (w.call C.2.2.2.2.2.2.1 ht hm hB hS)
theorem jc_Sq (C : Cx p s m args meth c cc nL rt own D cs A h0.se) (w : Wo D cs A s h0 h H locs cells slots) {r : Option Nat} (hM : Cq l y bytes maxL ret fr lo D cs h h' As r) (hm : Mo h h') (hz1 : Mo h' hz) (hz2 : hz.nx ≤ h0.nx + mc ∧ hz.su ≤ h0.su + ms)
    (hw : Cws own index y bytes maxL ret) (hd : Cd y As.length) (hR : fr + 1 ≤ F ∧ 8 + (maxL + 11) + lo ≤ LO) (hls : ls.size = nL) (hst : (rest.map fun v => v.category).sum ≤ 8) {st : List Value} (hst2 : st = As.reverse ++ rest) (hdg : decode cc pc = .ok (.invokestatic index, 3))
    (kk : ∀ (H1 : Heap) (locs1 : List Loc), Wo D cs A s h0 h' H1 locs1 (cells + (h'.nx - h.nx)) (slots + (h'.su - h.su)) → W p l e { frames := F, cells := mc, slots := ms, locals := LO } s m args below meth c H1 locs1 (cells + (h'.nx - h.nx)) (slots + (h'.su - h.su)) Q (F0 m (pc + 3) ls (va_rf r :: rest))) :
    W p l e { frames := F, cells := mc, slots := ms, locals := LO } s m args below meth c H locs cells slots Q (F0 m pc ls st) := by
  subst hst2
  obtain ⟨c1, c2, c3, c4⟩ := hw
  obtain ⟨hx, hb, hml, hown, hts, hK, hA, h8, h9, h10, h11⟩ := id C
  refine va_callq (va_runS (As := As) (rest := rest) ⟨hx, hb, hml, hown, hts⟩ (hM _ _ (by have := hm.2.1; omega) (by have := hm.2.2.1; omega)) ⟨callB_of As.length hts (tb_in2 c1) rfl rfl rfl (hts _ c4) (hts _ c2) hd hR, hts _ c3⟩ ⟨fb_pre, pre_call C w⟩ rfl rfl hls rfl (lv_room hst) hdg (rm_call w hm hz1 hz2)) w.2.2.1 (fun q _ g => hA_call C w q g) (hA_call C w) (fun x u t H1 locs1 ht _ hx1 hB _ _ hS => ?_)
  subst hx1
  exact kk H1 locs1 (w.call C.2.2.2.2.2.2.1 ht hm hB hS)
theorem jc_Sv (C : Cx p s m args meth c cc nL rt own D cs A h0.se) (w : Wo D cs A s h0 h H locs cells slots) (hM : Cv l y bytes maxL ret fr lo D cs h h' As) (hm : Mo h h') (hz1 : Mo h' hz) (hz2 : hz.nx ≤ h0.nx + mc ∧ hz.su ≤ h0.su + ms)
    (hw : Cws own index y bytes maxL ret) (hd : Cd y As.length) (hR : fr + 1 ≤ F ∧ 8 + (maxL + 11) + lo ≤ LO) (hls : ls.size = nL) (hst : (rest.map fun v => v.category).sum ≤ 8) {st : List Value} (hst2 : st = As.reverse ++ rest) (hdg : decode cc pc = .ok (.invokestatic index, 3))
    (kk : ∀ (H1 : Heap) (locs1 : List Loc), Wo D cs A s h0 h' H1 locs1 (cells + (h'.nx - h.nx)) (slots + (h'.su - h.su)) → W p l e { frames := F, cells := mc, slots := ms, locals := LO } s m args below meth c H1 locs1 (cells + (h'.nx - h.nx)) (slots + (h'.su - h.su)) Q (F0 m (pc + 3) ls (rest))) :
    W p l e { frames := F, cells := mc, slots := ms, locals := LO } s m args below meth c H locs cells slots Q (F0 m pc ls st) := by
  subst hst2
  obtain ⟨c1, c2, c3, c4⟩ := hw
  obtain ⟨hx, hb, hml, hown, hts, hK, hA, h8, h9, h10, h11⟩ := id C
  refine va_callv (va_runS (As := As) (rest := rest) ⟨hx, hb, hml, hown, hts⟩ (hM _ _ (by have := hm.2.1; omega) (by have := hm.2.2.1; omega)) ⟨callB_of As.length hts (tb_in2 c1) rfl rfl rfl (hts _ c4) (hts _ c2) hd hR, hts _ c3⟩ ⟨fb_pre, pre_call C w⟩ rfl rfl hls rfl (lv_room hst) hdg (rm_call w hm hz1 hz2)) w.2.2.1 (fun q _ g => hA_call C w q g) (hA_call C w) (fun u t H1 locs1 ht _ hx1 hB _ _ hS => ?_)
  exact kk H1 locs1 (w.call C.2.2.2.2.2.2.1 ht hm hB hS)
end JS
