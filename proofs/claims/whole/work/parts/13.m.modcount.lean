section JMC
variable {p : Program} {l : Launch} {e : Env} {R : Room} {s : State} {m : MethodId} {args : Array Value} {below : List Frame} {meth : Method} {c : Code} {H : Heap} {locs : List Loc} {cells slots : Nat} {Q : State → Prop}
variable {cc : ByteArray} {nL : Nat} {rt : Option FieldType} {own : String} {D : va_G} {cs : C4} {A : Nat → Prop} {h0 h : Hp} {se : Nat × Nat} {pc a index : Nat} {ls : Array Slot} {rest : List Value}
theorem fg_200A (C : Cx p s m args meth c cc nL rt own D cs A se) (w : Wo D cs A s h0 h H locs cells slots) (hk : h.kd a = 2) (hl : Cond.fieldLink own index "java/util/ArrayList" "modCount" "I" ∈ TB) (hdg : decode cc pc = .ok (.getfield index, 3)) (kk : W p l e R s m args below meth c H locs cells slots Q (F0 m (pc + 3) ls (.int (h.fi 200 a) :: rest))) : W p l e R s m args below meth c H locs cells slots Q (F0 m pc ls (.ref a :: rest)) := by
  obtain ⟨hx, hb, hml, hown, hts, hK, hA, -⟩ := C
  have hat := at_k w hk (by decide)
  exact va_get hx hb hts uw2 hown hK (ws := [(a, .inr (2, fs2 h a))]) (sg_P hat) 0 rfl rfl 0 (by decide) (ref := "java/util/ArrayList") (hts _ hl) (mc_same hts) rfl hdg kk
theorem fp_200A {x : Int32} (C : Cx p s m args meth c cc nL rt own D cs A se) (w : Wo D cs A s h0 h H locs cells slots) (hk : h.kd a = 2) (hl : Cond.fieldLink own index "java/util/ArrayList" "modCount" "I" ∈ TB) (hdg : decode cc pc = .ok (.putfield index, 3))
    (kk : ∀ (H1 : Heap) (locs1 : List Loc), Wo D cs A s h0 (h.sfi 200 a x) H1 locs1 cells slots → W p l e R s m args below meth c H1 locs1 cells slots Q (F0 m (pc + 3) ls rest)) : W p l e R s m args below meth c H locs cells slots Q (F0 m pc ls (.int x :: .ref a :: rest)) := by
  obtain ⟨hx, hb, hml, hown, hts, hK, hA, -⟩ := C
  have hne : h.kd a ≠ 0 := by rw [hk]; decide
  have hat := at_k w hk (by decide)
  have hap := va_apart (own := own) hts uw2 tyJx4a65c tyJx4a65c_ok nmJx4a65c hK (ci := 2) rfl
  obtain ⟨r, h1, cell, q1, q2, q3, q4⟩ := hat
  have hr : r = (RJx4a65c, TJx4a65c, 3) := Option.some.inj (h1.symm.trans rfl)
  subst hr
  obtain ⟨hS, hfc, kC, hkC, hkind⟩ := hK.1 2 (RJx4a65c, TJx4a65c, 3) rfl
  obtain ⟨cf, kf, fi, f, hi, hsl⟩ := hS 0 (by decide)
  have hlay := hts _ (uw2 _ (u_in_lay (k := 0) (by decide)))
  unfold u_lay at hlay
  rw [if_neg (by decide)] at hlay
  have hst := (u_facts hfc hkC (u_lays hts uw2 (k := 0) (by decide)) hi).1
  have h6 := u_store (ty := .int) (v := .int x) hfc hkC hkind hlay hi rfl rfl rfl
  refine W.putK hx hb (f := f) ⟨hown, hts _ hl, ⟨_, _, _, mc_same hts _ hi⟩, hst⟩ (by rw [q2]; exact h6) q1 q3 (by rw [hsl]; exact k2_hasslot (q4 0 (by decide))) rfl rfl hdg fun H' e1 e2 e3 => ?_
  rw [hsl] at e1 ⊢
  refine kk H' _ (w.put hne ?_ e2 e3 (fun b hb => ag_sfi h 200 a x hb) rfl rfl rfl rfl)
  rw [hk]
  have ec : cellK cs (h.sfi 200 a x) 2 a = .inr (2, (fs2 h a).set 0 (.int x)) := by
    show (Sum.inr (2, fs2 (h.sfi 200 a x) a) : va_E) = _
    simp only [fs2, fi_self]
    rfl
  rw [ec]
  exact ⟨(RJx4a65c, TJx4a65c, 3), rfl, t_OB.to (V := updV (vp_V (fs2 h a)) 0 (.int x)) ⟨_, e1, q2, q3, t_set q4 hap (by decide) (.int x)⟩ (fun i _ => vp_updV_set (Nat.le_of_ble_eq_true rfl) (.int x) i)⟩
end JMC
