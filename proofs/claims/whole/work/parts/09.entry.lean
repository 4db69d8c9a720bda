/-! a method's start and end; the pieces that its Lean text is made of -/
theorem je_any {l : Launch} {y : MethodName} {cc : ByteArray} {n : Nat} {rt : Option FieldType} {fr lo mc ms : Nat} {D : va_G} {cs : C4} {h : Hp} {av : List Value} {Qc : Array Value → State → Outcome → State → Prop} (hy : plainName y.cls = true) (hlen : (lg_sl av).length ≤ n)
    (body : ∀ (p : Program) (e : Env) (s : State) (m : MethodId) (args : Array Value) (below : List Frame) (meth : Method) (c : Code), Cx p s m args meth c cc n rt y.cls D cs (fA h) h.se → meth.name = y.name → Wo D cs (fA h) s h h s.heap [] 0 0 → ∀ ls : Array Slot, lv_has ls n (lv_args 0 av) →
      W p l e { frames := fr, cells := mc, slots := ms, locals := lo } s m args below meth c s.heap [] 0 0 (MQ below Qc args s mc ms (fA h)) (F0 m 0 ls [])) :
    Met l y (wG y cc n rt) { frames := fr, cells := mc, slots := ms, locals := lo } (va_Pc av (PreW D cs h)) Qc mc ms (fA h) := by
  refine Met.ofW (cc := cc) (maxL := n) (ret := rt) hy rfl ?_
  intro p e s m args below meth c s₁ B hml hv
  obtain ⟨rfl, ⟨q1, q2, q3, q4⟩, hse, hN⟩ := hv
  have hl := lv_entry av (n := n) hlen
  rw [lg_entry_eq]
  exact body p e s m _ below meth c ⟨B.exec, B.bytes, hml, findClass_of_methodNamed B.named, fun w hw => atoms_spec (ws := wG y cc n rt) B.pre w (List.mem_cons_of_mem _ hw), q4, fun q h => Or.inr (q2 ▸ h), B.returns, B.notSynchronized, hse, hN⟩ (name_of_methodNamed B.named B.method).1 ⟨q1, fun a ha => Or.inl ha, va_S.rf, q2, q3, Nat.zero_add _, Nat.zero_add _, rfl⟩ _ hl
section JE
variable {p : Program} {l : Launch} {e : Env} {R : Room} {s : State} {m : MethodId} {args : Array Value} {below : List Frame} {meth : Method} {c : Code} {H : Heap} {locs : List Loc} {cells slots : Nat}
variable {cc : ByteArray} {nL : Nat} {rt : Option FieldType} {own : String} {D : va_G} {cs : C4} {A : Nat → Prop} {h0 h : Hp} {se : Nat × Nat} {pc mc ms : Nat} {ls : Array Slot}
abbrev Zi (D : va_G) (cs : C4) (A : Nat → Prop) (hz : Hp) (rz : Int32) : Array Value → State → Outcome → State → Prop := va_Qi (fun (x : Int32) (_ : Unit) => x = rz) (fun _ t => PW D cs hz t) A
abbrev Zl (D : va_G) (cs : C4) (A : Nat → Prop) (hz : Hp) (rz : Int64) : Array Value → State → Outcome → State → Prop := va_Ql (fun (x : Int64) (_ : Unit) => x = rz) (fun _ t => PW D cs hz t) A
abbrev Zq (D : va_G) (cs : C4) (A : Nat → Prop) (hz : Hp) (rz : Option Nat) : Array Value → State → Outcome → State → Prop := va_Qq (fun (x : Option Nat) (_ : Unit) => x = rz) (fun _ t => PW D cs hz t) A
abbrev Zv (D : va_G) (cs : C4) (A : Nat → Prop) (hz : Hp) : Array Value → State → Outcome → State → Prop := va_Qv (fun (_ : Unit) => True) (fun _ t => PW D cs hz t) A
theorem rm_end (w : Wo D cs A s h0 h H locs cells slots) (hz2 : h.nx ≤ h0.nx + mc ∧ h.su ≤ h0.su + ms) : cells ≤ mc ∧ slots ≤ ms := by
  obtain ⟨w1, w2, w3, w4, w5, w6, w7, w8⟩ := w
  obtain ⟨a, b⟩ := hz2
  constructor <;> omega
theorem pw_end (C : Cx p s m args meth c cc nL rt own D cs A se) (w : Wo D cs A s h0 h H locs cells slots) {t : State} (ht : t.heap = H) (hW : s.WarmedH t.vm) : PW D cs h t := ⟨by rw [ht]; exact w.1, by rw [ht]; exact w.2.2.2.1, w.2.2.2.2.1, va_K.moved hW.alike C.2.2.2.2.2.1⟩
theorem jr_iret (C : Cx p s m args meth c cc nL (some .int) own D cs A se) (w : Wo D cs A s h0 h H locs cells slots) {v : Int32} (hz2 : h.nx ≤ h0.nx + mc ∧ h.su ≤ h0.su + ms) (hdg : decode cc pc = .ok (.ireturn, 1)) : W p l e R s m args below meth c H locs cells slots (MQ below (Zi D cs A h v) args s mc ms A) (F0 m pc ls [.int v]) := by
  refine W.widen (rm_end w hz2).1 (rm_end w hz2).2 ?_
  exact W.iret C.1 C.2.1 C.2.2.2.2.2.2.2.1 (fun t ht hW => ⟨⟨v, (), rfl, rfl, pw_end C w ht hW⟩, w.2.2.1.F ht⟩) w.2.2.1.2.2 hdg C.2.2.2.2.2.2.2.2.1
theorem jr_zret (C : Cx p s m args meth c cc nL (some .boolean) own D cs A se) (w : Wo D cs A s h0 h H locs cells slots) {v : Int32} (h01 : v = 0 ∨ v = 1) (hz2 : h.nx ≤ h0.nx + mc ∧ h.su ≤ h0.su + ms) (hdg : decode cc pc = .ok (.ireturn, 1)) : W p l e R s m args below meth c H locs cells slots (MQ below (Zi D cs A h v) args s mc ms A) (F0 m pc ls [.int v]) := by
  refine W.widen (rm_end w hz2).1 (rm_end w hz2).2 ?_
  exact W.zret C.1 C.2.1 C.2.2.2.2.2.2.2.1 (by rcases h01 with rfl | rfl <;> rfl) (fun t ht hW => ⟨⟨v, (), rfl, rfl, pw_end C w ht hW⟩, w.2.2.1.F ht⟩) w.2.2.1.2.2 hdg C.2.2.2.2.2.2.2.2.1
theorem jr_lret (C : Cx p s m args meth c cc nL (some .long) own D cs A se) (w : Wo D cs A s h0 h H locs cells slots) {v : Int64} (hz2 : h.nx ≤ h0.nx + mc ∧ h.su ≤ h0.su + ms) (hdg : decode cc pc = .ok (.lreturn, 1)) : W p l e R s m args below meth c H locs cells slots (MQ below (Zl D cs A h v) args s mc ms A) (F0 m pc ls [.long v]) := by
  refine W.widen (rm_end w hz2).1 (rm_end w hz2).2 ?_
  exact W.lret C.1 C.2.1 C.2.2.2.2.2.2.2.1 (fun t ht hW => ⟨⟨v, (), rfl, rfl, pw_end C w ht hW⟩, w.2.2.1.F ht⟩) w.2.2.1.2.2 hdg C.2.2.2.2.2.2.2.2.1
theorem jr_aret {rt0 : FieldType} (C : Cx p s m args meth c cc nL (some rt0) own D cs A se) (w : Wo D cs A s h0 h H locs cells slots) {r : Option Nat} (hrt : (∃ n, rt0 = .object n) ∨ ∃ t, rt0 = .array t) (hz2 : h.nx ≤ h0.nx + mc ∧ h.su ≤ h0.su + ms) (hdg : decode cc pc = .ok (.areturn, 1)) : W p l e R s m args below meth c H locs cells slots (MQ below (Zq D cs A h r) args s mc ms A) (F0 m pc ls [va_rf r]) := by
  refine W.widen (rm_end w hz2).1 (rm_end w hz2).2 ?_
  exact W.aret C.1 C.2.1 C.2.2.2.2.2.2.2.1 hrt (va_rf_or r) (fun t ht hW => ⟨⟨r, (), rfl, rfl, pw_end C w ht hW⟩, w.2.2.1.F ht⟩) w.2.2.1.2.2 hdg C.2.2.2.2.2.2.2.2.1
theorem jr_vret (C : Cx p s m args meth c cc nL none own D cs A se) (w : Wo D cs A s h0 h H locs cells slots) (hz2 : h.nx ≤ h0.nx + mc ∧ h.su ≤ h0.su + ms) (hdg : decode cc pc = .ok (.return_, 1)) : W p l e R s m args below meth c H locs cells slots (MQ below (Zv D cs A h) args s mc ms A) (F0 m pc ls []) := by
  refine W.widen (rm_end w hz2).1 (rm_end w hz2).2 ?_
  exact W.vret C.1 C.2.1 C.2.2.2.2.2.2.2.1 (fun t ht hW => ⟨⟨(), rfl, trivial, pw_end C w ht hW⟩, w.2.2.1.F ht⟩) w.2.2.1.2.2 hdg C.2.2.2.2.2.2.2.2.1
end JE
/-! the pieces of the translated text -/
def dr {β : Type} (h : Hp) (k : Nat) (x : Option Nat) (f : Nat → Option β) : Option β := match x with
  | none => none
  | some a => if h.kd a = k then f a else none
def ck {β : Type} (c : Prop) [Decidable c] (x : Option β) : Option β := if c then x else none
theorem dr_some {β : Type} {h : Hp} {k : Nat} {x : Option Nat} {f : Nat → Option β} {r : β} (e : dr h k x f = some r) : ∃ a, x = some a ∧ h.kd a = k ∧ f a = some r := by
  cases x with
  | none => cases e
  | some a =>
    unfold dr at e
    by_cases q : h.kd a = k
    · rw [show (match some a with | none => none | some a => if h.kd a = k then f a else none) = (if h.kd a = k then f a else none) from rfl, if_pos q] at e
      exact ⟨a, rfl, q, e⟩
    · rw [show (match some a with | none => none | some a => if h.kd a = k then f a else none) = (if h.kd a = k then f a else none) from rfl, if_neg q] at e
      cases e
theorem ck_some {β : Type} {c : Prop} [Decidable c] {x : Option β} {r : β} (e : ck c x = some r) : c ∧ x = some r := by
  unfold ck at e
  by_cases q : c
  · rw [if_pos q] at e; exact ⟨q, e⟩
  · rw [if_neg q] at e; cases e
theorem ob_some {α β : Type} {o : Option α} {f : α → Option β} {r : β} (e : o.bind f = some r) : ∃ x, o = some x ∧ f x = some r := by
  cases o with
  | none => cases e
  | some x => exact ⟨x, rfl, e⟩
theorem dr_eq {β : Type} {h : Hp} {k a : Nat} {f : Nat → Option β} (q : h.kd a = k) : dr h k (some a) f = f a := by
  show (if h.kd a = k then f a else none) = f a
  rw [if_pos q]
theorem ck_eq {β : Type} {c : Prop} [Decidable c] {x : Option β} (q : c) : ck c x = x := if_pos q
theorem it_pos {β : Type} {c : Prop} [Decidable c] {x y r : Option β} (q : c) (e : (if c then x else y) = r) : x = r := by rw [if_pos q] at e; exact e
theorem it_neg {β : Type} {c : Prop} [Decidable c] {x y r : Option β} (q : ¬ c) (e : (if c then x else y) = r) : y = r := by rw [if_neg q] at e; exact e
/-- a null or not: by its own case -/
def nl {β : Type} (x : Option Nat) (f : Option β) (g : Nat → Option β) : Option β := match x with
  | none => f
  | some a => g a
theorem nl_none {β : Type} {x : Option Nat} {f : Option β} {g : Nat → Option β} {r : Option β} (q : x = none) (e : nl x f g = r) : f = r := by subst q; exact e
theorem nl_some {β : Type} {x : Option Nat} {f : Option β} {g : Nat → Option β} {r : Option β} {a : Nat} (q : x = some a) (e : nl x f g = r) : g a = r := by subst q; exact e
