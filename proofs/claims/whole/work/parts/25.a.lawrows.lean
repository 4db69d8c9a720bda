/-! the law's own rows: cells and slots are counted beside the world, for a throw leaves their number open -/
abbrev Wz (D : va_G) (cs : C4) (A : Nat → Prop) (s : State) (h : Hp) (H : Heap) (locs : List Loc) : Prop := Wo D cs A s h h H locs 0 0
theorem lg_self (x : Int64) : lg_cmp x x = 0 := by
  unfold lg_cmp
  simp
section LZ
variable {p : Program} {l : Launch} {e : Env} {R : Room} {s : State} {m : MethodId} {args : Array Value} {below : List Frame} {meth : Method} {c : Code} {H : Heap} {locs : List Loc} {cells slots : Nat} {Q : State → Prop}
variable {cc : ByteArray} {nL : Nat} {rt : Option FieldType} {own : String} {D : va_G} {cs : C4} {A : Nat → Prop} {h h' hz : Hp} {se : Nat × Nat} {pc index mc ms fr lo F LO : Nat} {ls : Array Slot} {rest : List Value}
variable {y : MethodName} {bytes : ByteArray} {maxL n : Nat} {ret : Option FieldType} {b ci : Nat} {q : vw_C} {fs As : List Value}
theorem Wz.call (w : Wz D cs A s h H locs) (hA : ∀ q, s.heap.size ≤ q → A q) {t : State} {H1 : Heap} {locs1 : List Loc} (ht : t.heap = H1) (hm : ∀ a, a < h.nx → h'.kd a = h.kd a) (hP : PW D cs h' t) (hS : va_S A s.heap H1 locs1) : Wz D cs A s h' H1 locs1 := by
  obtain ⟨w1, w2, w3, w4, w5, w6, w7, w8⟩ := w
  obtain ⟨p1, p2, p3, p4⟩ := hP
  refine ⟨by rw [← ht]; exact p1, fun a ha => ?_, hS, by rw [← ht]; exact p2, p3, Nat.zero_add _, Nat.zero_add _, rfl⟩
  by_cases q : a < h.nx
  · exact w2 a (by rw [← hm a q]; exact ha)
  · exact hA a (by have := w3.1; omega)
theorem jz_runV {Qc : Array Value → State → Outcome → State → Prop} {mc0 ms0 : Nat} (C : Cx p s m args meth c cc nL rt own D cs A h.se) (w : Wz D cs A s h H locs)
    (hM : Met l y (wG y bytes maxL ret) { frames := fr, cells := mc0, slots := ms0, locals := lo } (va_Pc (.ref b :: As) (PreW D cs h)) Qc mc0 ms0 (fA h))
    (hk : h.kd b = ci) (h0c : ci ≠ 0) (hc : vwCl[ci]? = some q) (hf : cellK cs h ci b = .inr (ci, fs)) (hq : y.cls = q.1) (hw : Cw own index y bytes maxL ret) (hd : Cd y As.length) (hR : fr + 1 ≤ F ∧ 8 + (maxL + 11) + lo ≤ LO)
    (hls : ls.size = nL) (hst : (rest.map fun v => v.category).sum ≤ 8) (hdg : decode cc pc = .ok (.invokevirtual index, 3)) (hroom : cells + mc0 ≤ mc ∧ slots + ms0 ≤ ms) :
    va_Run p l e { frames := F, cells := mc, slots := ms, locals := LO } s m args below meth c H locs cells slots mc0 ms0 (F0 m pc ls (As.reverse ++ .ref b :: rest)) rest (Qc (Value.ref b :: As).toArray) (fA h) := by
  obtain ⟨hx, hb, hml, hown, hts, hK, hA, h8, h9, h10, h11⟩ := id C
  obtain ⟨c1, c2, c3, c4, c5⟩ := hw
  rw [hq] at c4 c5
  refine va_runV (As := As) (rest := rest) (C := q.1) (bytes := bytes) (maxL := maxL) (ret := ret) (n := As.length) (index := index) ⟨hx, hb, hml, hown, hts⟩ hM (cwV As.length hts ?_ rfl rfl rfl ⟨hq, hd⟩ hR) ⟨fb_pre, recv_at C w hk h0c hc hf, pre_call C w⟩ rfl rfl hls rfl (lv_room hst) hdg hroom
  intro w1 hw1
  rcases List.mem_append.mp hw1 with g | g
  · rcases List.mem_cons.mp g with e1 | g
    · subst e1; exact ⟨c2, good_of_word (tb_good c2)⟩
    · rcases List.mem_cons.mp g with e1 | g
      · subst e1; exact ⟨c3, good_of_word (tb_good c3)⟩
      · rcases List.mem_cons.mp g with e1 | g
        · subst e1; exact ⟨c4, good_of_word (tb_good c4)⟩
        · rw [List.mem_singleton.mp g]; exact ⟨c5, good_of_word (tb_good c5)⟩
  · exact tb_in2 c1 w1 g
theorem jz_Vi (C : Cx p s m args meth c cc nL rt own D cs A se) (hse : h.se = se) (w : Wz D cs A s h H locs) {r : Int32} (hM : Ci l y bytes maxL ret fr lo D cs h h' (.ref b :: As) r) (hm : Mo h h') (hroom : cells + (h'.nx - h.nx) ≤ mc ∧ slots + (h'.su - h.su) ≤ ms)
    (hk : h.kd b = ci) (h0c : ci ≠ 0) (hc : vwCl[ci]? = some q) (hf : cellK cs h ci b = .inr (ci, fs)) (hq : y.cls = q.1) (hw : Cw own index y bytes maxL ret) (hd : Cd y As.length) (hR : fr + 1 ≤ F ∧ 8 + (maxL + 11) + lo ≤ LO) (hls : ls.size = nL) (hst : (rest.map fun v => v.category).sum ≤ 8) {st : List Value} (hst2 : st = As.reverse ++ .ref b :: rest) (hdg : decode cc pc = .ok (.invokevirtual index, 3))
    (kk : ∀ (H1 : Heap) (locs1 : List Loc), Wz D cs A s h' H1 locs1 → W p l e { frames := F, cells := mc, slots := ms, locals := LO } s m args below meth c H1 locs1 (cells + (h'.nx - h.nx)) (slots + (h'.su - h.su)) Q (F0 m (pc + 3) ls (.int r :: rest))) :
    W p l e { frames := F, cells := mc, slots := ms, locals := LO } s m args below meth c H locs cells slots Q (F0 m pc ls st) := by
  subst hst2
  subst hse
  refine va_calli (jz_runV C w (hM _ _ (by have := hm.2.1; omega) (by have := hm.2.2.1; omega)) hk h0c hc hf hq hw hd hR hls hst hdg hroom) w.2.2.1 (fun q _ g => hA_call C w q g) (hA_call C w) (fun x u t H1 locs1 ht _ hx hB _ _ hS => ?_)
  subst hx
  exact kk H1 locs1 (Wz.call w C.2.2.2.2.2.2.1 ht hm.1 hB hS)
theorem jz_Vl (C : Cx p s m args meth c cc nL rt own D cs A se) (hse : h.se = se) (w : Wz D cs A s h H locs) {r : Int64} (hM : Cl l y bytes maxL ret fr lo D cs h h' (.ref b :: As) r) (hm : Mo h h') (hroom : cells + (h'.nx - h.nx) ≤ mc ∧ slots + (h'.su - h.su) ≤ ms)
    (hk : h.kd b = ci) (h0c : ci ≠ 0) (hc : vwCl[ci]? = some q) (hf : cellK cs h ci b = .inr (ci, fs)) (hq : y.cls = q.1) (hw : Cw own index y bytes maxL ret) (hd : Cd y As.length) (hR : fr + 1 ≤ F ∧ 8 + (maxL + 11) + lo ≤ LO) (hls : ls.size = nL) (hst : (rest.map fun v => v.category).sum ≤ 8) {st : List Value} (hst2 : st = As.reverse ++ .ref b :: rest) (hdg : decode cc pc = .ok (.invokevirtual index, 3))
    (kk : ∀ (H1 : Heap) (locs1 : List Loc), Wz D cs A s h' H1 locs1 → W p l e { frames := F, cells := mc, slots := ms, locals := LO } s m args below meth c H1 locs1 (cells + (h'.nx - h.nx)) (slots + (h'.su - h.su)) Q (F0 m (pc + 3) ls (.long r :: rest))) :
    W p l e { frames := F, cells := mc, slots := ms, locals := LO } s m args below meth c H locs cells slots Q (F0 m pc ls st) := by
  subst hst2
  subst hse
  refine va_calll (jz_runV C w (hM _ _ (by have := hm.2.1; omega) (by have := hm.2.2.1; omega)) hk h0c hc hf hq hw hd hR hls hst hdg hroom) w.2.2.1 (fun q _ g => hA_call C w q g) (hA_call C w) (fun x u t H1 locs1 ht _ hx hB _ _ hS => ?_)
  subst hx
  exact kk H1 locs1 (Wz.call w C.2.2.2.2.2.2.1 ht hm.1 hB hS)
theorem jz_Vv (C : Cx p s m args meth c cc nL rt own D cs A se) (hse : h.se = se) (w : Wz D cs A s h H locs) (hM : Cv l y bytes maxL ret fr lo D cs h h' (.ref b :: As)) (hm : Mo h h') (hroom : cells + (h'.nx - h.nx) ≤ mc ∧ slots + (h'.su - h.su) ≤ ms)
    (hk : h.kd b = ci) (h0c : ci ≠ 0) (hc : vwCl[ci]? = some q) (hf : cellK cs h ci b = .inr (ci, fs)) (hq : y.cls = q.1) (hw : Cw own index y bytes maxL ret) (hd : Cd y As.length) (hR : fr + 1 ≤ F ∧ 8 + (maxL + 11) + lo ≤ LO) (hls : ls.size = nL) (hst : (rest.map fun v => v.category).sum ≤ 8) {st : List Value} (hst2 : st = As.reverse ++ .ref b :: rest) (hdg : decode cc pc = .ok (.invokevirtual index, 3))
    (kk : ∀ (H1 : Heap) (locs1 : List Loc), Wz D cs A s h' H1 locs1 → W p l e { frames := F, cells := mc, slots := ms, locals := LO } s m args below meth c H1 locs1 (cells + (h'.nx - h.nx)) (slots + (h'.su - h.su)) Q (F0 m (pc + 3) ls rest)) :
    W p l e { frames := F, cells := mc, slots := ms, locals := LO } s m args below meth c H locs cells slots Q (F0 m pc ls st) := by
  subst hst2
  subst hse
  refine va_callv (jz_runV C w (hM _ _ (by have := hm.2.1; omega) (by have := hm.2.2.1; omega)) hk h0c hc hf hq hw hd hR hls hst hdg hroom) w.2.2.1 (fun q _ g => hA_call C w q g) (hA_call C w) (fun u t H1 locs1 ht _ _ hB _ _ hS => ?_)
  exact kk H1 locs1 (Wz.call w C.2.2.2.2.2.2.1 ht hm.1 hB hS)
/-- a call of a helper -/
def Ch (own : String) (index : Nat) (y : MethodName) (bytes : ByteArray) (maxL : Nat) (ret : Option FieldType) (hh : List (Nat × Nat × Nat × Nat)) : Prop := Cond.codeWith y bytes maxL ret hh ∈ TB ∧ Cond.methodLink own index y ∈ TB ∧ Cond.static y ∈ TB ∧ Cond.initialized y.cls ∈ TB
theorem jz_runH {hh : List (Nat × Nat × Nat × Nat)} {Qc : Array Value → State → Outcome → State → Prop} {mc0 ms0 : Nat} (C : Cx p s m args meth c cc nL rt own D cs A h.se) (w : Wz D cs A s h H locs) (hc3 : Nc3 s)
    (hM : Met l y (wH y bytes maxL ret hh) { frames := fr, cells := mc0, slots := ms0, locals := lo } (va_Pc As (PreN D cs h)) Qc mc0 ms0 (fA h))
    (hw : Ch own index y bytes maxL ret hh) (hd : Cd y As.length) (hR : fr + 1 ≤ F ∧ 8 + (maxL + 11) + lo ≤ LO)
    (hls : ls.size = nL) (hst : (rest.map fun v => v.category).sum ≤ 8) (hdg : decode cc pc = .ok (.invokestatic index, 3)) (hroom : cells + mc0 ≤ mc ∧ slots + ms0 ≤ ms) :
    va_Run p l e { frames := F, cells := mc, slots := ms, locals := LO } s m args below meth c H locs cells slots mc0 ms0 (F0 m pc ls (As.reverse ++ rest)) rest (Qc As.toArray) (fA h) := by
  obtain ⟨hx, hb, hml, hown, hts, hK, hA, h8, h9, h10, h11⟩ := id C
  obtain ⟨c1, c2, c3, c4⟩ := hw
  refine vx_runSW (As := As) (rest := rest) (bytes := bytes) (maxL := maxL) (ret := ret) (hh := hh) (n := As.length) (index := index) ⟨hx, hb, hml, hown, hts⟩ hM (vx_cwSW As.length hts ?_ rfl rfl rfl hd hR) ⟨fb_preN, fun U hU hW => ?_⟩ rfl rfl hls rfl (lv_room hst) hdg hroom
  · intro w1 hw1
    rcases List.mem_append.mp hw1 with g | g
    · rcases List.mem_cons.mp g with e1 | g
      · subst e1; exact ⟨c2, good_of_word (tb_good c2)⟩
      · rcases List.mem_cons.mp g with e1 | g
        · subst e1; exact ⟨c3, good_of_word (tb_good c3)⟩
        · rw [List.mem_singleton.mp g]; exact ⟨c4, good_of_word (tb_good c4)⟩
    · rcases List.mem_cons.mp g with e1 | g
      · subst e1; exact ⟨c1, good_of_word (tb_good c1)⟩
      · exact ⟨g, good_of_word (tb_good g)⟩
  · have z := pre_call (av := As) C w U hU hW
    exact ⟨z.1, z.2, hc3.moved hW.alike⟩
theorem jz_Hn {hh : List (Nat × Nat × Nat × Nat)} (C : Cx p s m args meth c cc nL rt own D cs A se) (hse : h.se = se) (w : Wz D cs A s h H locs) (hc3 : Nc3 s) {r : Int32} (hM : Hn l y bytes maxL ret hh fr lo D cs h h' As r) (hm : Mo h h') (hroom : cells + (h'.nx - h.nx) ≤ mc ∧ slots + (h'.su - h.su) ≤ ms)
    (hw : Ch own index y bytes maxL ret hh) (hd : Cd y As.length) (hR : fr + 1 ≤ F ∧ 8 + (maxL + 11) + lo ≤ LO) (hls : ls.size = nL) (hst : (rest.map fun v => v.category).sum ≤ 8) {st : List Value} (hst2 : st = As.reverse ++ rest) (hdg : decode cc pc = .ok (.invokestatic index, 3))
    (kk : ∀ (H1 : Heap) (locs1 : List Loc), Wz D cs A s h' H1 locs1 → W p l e { frames := F, cells := mc, slots := ms, locals := LO } s m args below meth c H1 locs1 (cells + (h'.nx - h.nx)) (slots + (h'.su - h.su)) Q (F0 m (pc + 3) ls (.int r :: rest))) :
    W p l e { frames := F, cells := mc, slots := ms, locals := LO } s m args below meth c H locs cells slots Q (F0 m pc ls st) := by
  subst hst2
  subst hse
  refine va_calli (jz_runH C w hc3 (hM _ _ (by have := hm.2.1; omega) (by have := hm.2.2.1; omega)) hw hd hR hls hst hdg hroom) w.2.2.1 (fun q _ g => hA_call C w q g) (hA_call C w) (fun x u t H1 locs1 ht _ hx hB _ _ hS => ?_)
  subst hx
  exact kk H1 locs1 (Wz.call w C.2.2.2.2.2.2.1 ht hm.1 hB hS)
theorem jz_Ht {hh : List (Nat × Nat × Nat × Nat)} (C : Cx p s m args meth c cc nL rt own D cs A se) (hse : h.se = se) (w : Wz D cs A s h H locs) (hc3 : Nc3 s) {r : Int32} (hM : Ht l y bytes maxL ret hh fr lo D cs h hz As r) (hm : Mo h hz) (hroom : cells + (hz.nx + 1 - h.nx) ≤ mc ∧ slots + (hz.su + 6 - h.su) ≤ ms)
    (hw : Ch own index y bytes maxL ret hh) (hd : Cd y As.length) (hR : fr + 1 ≤ F ∧ 8 + (maxL + 11) + lo ≤ LO) (hls : ls.size = nL) (hst : (rest.map fun v => v.category).sum ≤ 8) {st : List Value} (hst2 : st = As.reverse ++ rest) (hdg : decode cc pc = .ok (.invokestatic index, 3))
    (kk : ∀ (H1 : Heap) (locs1 : List Loc) (n1 : Nat), hz.nx ≤ n1 → Wz D cs A s (hz.thr n1) H1 locs1 → W p l e { frames := F, cells := mc, slots := ms, locals := LO } s m args below meth c H1 locs1 (cells + (hz.nx + 1 - h.nx)) (slots + (hz.su + 6 - h.su)) Q (F0 m (pc + 3) ls (.int r :: rest))) :
    W p l e { frames := F, cells := mc, slots := ms, locals := LO } s m args below meth c H locs cells slots Q (F0 m pc ls st) := by
  subst hst2
  subst hse
  refine va_calli (jz_runH C w hc3 (hM _ _ (by have := hm.2.1; omega) (by have := hm.2.2.1; omega)) hw hd hR hls hst hdg hroom) w.2.2.1 (fun q _ g => hA_call C w q g) (hA_call C w) (fun x u t H1 locs1 ht _ hx hB _ _ hS => ?_)
  subst hx
  exact kk H1 locs1 t.heap.size hB.1 (Wz.call (h' := hz.thr t.heap.size) w C.2.2.2.2.2.2.1 ht hm.1 hB.2 hS)
theorem jz_lald (C : Cx p s m args meth c cc nL rt own D cs A se) (w : Wz D cs A s h H locs) {a : Nat} {i : Int32} (hk : h.kd a = 21) (hin : ¬ (i < 0 ∨ h.al a ≤ i.toNatClampNeg)) (hdg : decode cc pc = .ok (.laload, 1))
    (kk : W p l e R s m args below meth c H locs cells slots Q (F0 m (pc + 1) ls (.long (h.aw a i.toNatClampNeg) :: rest))) : W p l e R s m args below meth c H locs cells slots Q (F0 m pc ls (.int i :: .ref a :: rest)) := by
  have hat := at_k w hk (by decide)
  rw [cell_21] at hat
  exact va_lald C.1 C.2.1 C.2.2.2.2.2.1 (sg_P hat) 0 1 rfl rfl hin hdg kk
end LZ
/-- an int of the script -/
theorem ix_in {i L kn : Nat} (hi : i + 5 ≤ L) (hL : L ≤ 2560) (hk : kn < 5) {kv : Int32} (hkv : kv = nI kn) : (nI i + kv).toNatClampNeg = i + kn ∧ vp_in (nI i + kv) L := by
  subst hkv
  have e : nI i + nI kn = nI (i + kn) := nI_add i kn
  rw [e]
  have h1 : (nI (i + kn)).toNatClampNeg = i + kn := nI_clamp (by omega)
  have h2 := nI_toInt (n := i + kn) (by omega)
  refine ⟨h1, fun q => q.elim (fun q => ?_) (fun q => by rw [h1] at q; omega)⟩
  rw [Int32.lt_iff_toInt_lt, h2] at q
  have : (0 : Int32).toInt = 0 := rfl
  omega
section LA
variable {p : Program} {l : Launch} {e : Env} {R : Room} {s : State} {m : MethodId} {args : Array Value} {below : List Frame} {meth : Method} {c : Code} {H : Heap} {locs : List Loc} {cells slots : Nat} {Q : State → Prop}
variable {cc : ByteArray} {A : Nat → Prop} {pc : Nat} {ls : Array Slot} {rest : List Value} {b L i : Nat} {xs : Nat → Int32}
theorem lw_arg (hx : p.tables.exec = Jvm.exec) (hb : c.code = cc) (hX : va_X b L xs s s.heap) (hbl : b < s.heap.size) (hbA : ¬ A b) (hS : va_S A s.heap H locs) (hi : i + 5 ≤ L) (hL : L ≤ 2560) {kn : Nat} {z : Int} (hz : Int32.ofInt z = nI kn) (hk : kn < 5) (h0 : ls[0]? = some (.val (.ref b))) (h4 : ls[4]? = some (.val (.int (nI i))))
    (d0 : decode cc pc = .ok (.aload_n 0, 1)) (d1 : decode cc (pc + 1) = .ok (.iload 4, 2)) (d2 : decode cc (pc + 3) = .ok (.iconst z, 1)) (d3 : decode cc (pc + 4) = .ok (.iadd, 1)) (d4 : decode cc (pc + 5) = .ok (.iaload, 1))
    (kk : W p l e R s m args below meth c H locs cells slots Q (F0 m (pc + 6) ls (.int (xs (i + kn)) :: rest))) : W p l e R s m args below meth c H locs cells slots Q (F0 m pc ls rest) := by
  refine lv_aload_n hx hb d0 rfl h0 ?_
  refine lv_iload hx hb d1 h4 ?_
  refine lv_iconst hx hb d2 hz ?_
  refine lv_iadd hx hb d3 ?_
  have q := ix_in hi hL hk rfl
  refine va_sld hx hb hX hbl hbA hS q.2 d4 ?_
  rw [q.1]
  exact kk
abbrev bz (x : Int32) : Int32 := if x = 0 then 0 else 1
/-- .. and whether it isn't 0 -/
theorem lw_argB (hx : p.tables.exec = Jvm.exec) (hb : c.code = cc) (hX : va_X b L xs s s.heap) (hbl : b < s.heap.size) (hbA : ¬ A b) (hS : va_S A s.heap H locs) (hi : i + 5 ≤ L) (hL : L ≤ 2560) {kn : Nat} {z : Int} (hz : Int32.ofInt z = nI kn) (hk : kn < 5) (h0 : ls[0]? = some (.val (.ref b))) (h4 : ls[4]? = some (.val (.int (nI i))))
    (d0 : decode cc pc = .ok (.aload_n 0, 1)) (d1 : decode cc (pc + 1) = .ok (.iload 4, 2)) (d2 : decode cc (pc + 3) = .ok (.iconst z, 1)) (d3 : decode cc (pc + 4) = .ok (.iadd, 1)) (d4 : decode cc (pc + 5) = .ok (.iaload, 1))
    (d5 : decode cc (pc + 6) = .ok (.ifCond .eq 7, 3)) (d6 : decode cc (pc + 9) = .ok (.iconst 1, 1)) (d7 : decode cc (pc + 10) = .ok (.goto 4, 3)) (d8 : decode cc (pc + 13) = .ok (.iconst 0, 1))
    (kk : W p l e R s m args below meth c H locs cells slots Q (F0 m (pc + 14) ls (.int (bz (xs (i + kn))) :: rest))) : W p l e R s m args below meth c H locs cells slots Q (F0 m pc ls rest) := by
  refine lw_arg hx hb hX hbl hbA hS hi hL hz hk h0 h4 d0 d1 d2 d3 d4 ?_
  refine lv_if_eq (tgt := pc + 13) hx hb d5 (by omega) (fun c1 => ?_) (fun c1 => ?_)
  · refine lv_iconst (v := 0) hx hb d8 rfl ?_
    rw [show bz (xs (i + kn)) = 0 from if_pos c1] at kk
    exact kk
  · refine lv_iconst (v := 1) hx hb d6 rfl ?_
    refine lv_goto (tgt := pc + 14) hx hb d7 (by omega) ?_
    rw [show bz (xs (i + kn)) = 1 from if_neg c1] at kk
    exact kk
end LA
