/-! the abstract heap: fields as functions of the address; addresses are the machine's own -/
def Hp : Type := Nat × Nat × (Nat × Nat) × (Nat → Nat) × (Nat → Nat → Int32) × (Nat → Nat → Int64) × (Nat → Nat → Option Nat) × (Nat → Nat) × (Nat → Nat → Int32) × (Nat → Nat → Int64) × (Nat → Nat → Option Nat)
def Hp.nx (h : Hp) : Nat := h.1
def Hp.su (h : Hp) : Nat := h.2.1
/-- the static empty array, the class object of Object[] -/
def Hp.se (h : Hp) : Nat × Nat := h.2.2.1
def Hp.kd (h : Hp) : Nat → Nat := h.2.2.2.1
def Hp.fi (h : Hp) : Nat → Nat → Int32 := h.2.2.2.2.1
def Hp.fl (h : Hp) : Nat → Nat → Int64 := h.2.2.2.2.2.1
def Hp.fr (h : Hp) : Nat → Nat → Option Nat := h.2.2.2.2.2.2.1
def Hp.al (h : Hp) : Nat → Nat := h.2.2.2.2.2.2.2.1
def Hp.ai (h : Hp) : Nat → Nat → Int32 := h.2.2.2.2.2.2.2.2.1
def Hp.aw (h : Hp) : Nat → Nat → Int64 := h.2.2.2.2.2.2.2.2.2.1
def Hp.ar (h : Hp) : Nat → Nat → Option Nat := h.2.2.2.2.2.2.2.2.2.2
def Hp.sfi (h : Hp) (f a : Nat) (v : Int32) : Hp := (h.nx, h.su, h.se, h.kd, va_up h.fi f (va_up (h.fi f) a v), h.fl, h.fr, h.al, h.ai, h.aw, h.ar)
def Hp.sfl (h : Hp) (f a : Nat) (v : Int64) : Hp := (h.nx, h.su, h.se, h.kd, h.fi, va_up h.fl f (va_up (h.fl f) a v), h.fr, h.al, h.ai, h.aw, h.ar)
def Hp.sfr (h : Hp) (f a : Nat) (v : Option Nat) : Hp := (h.nx, h.su, h.se, h.kd, h.fi, h.fl, va_up h.fr f (va_up (h.fr f) a v), h.al, h.ai, h.aw, h.ar)
def Hp.sai (h : Hp) (a i : Nat) (v : Int32) : Hp := (h.nx, h.su, h.se, h.kd, h.fi, h.fl, h.fr, h.al, va_up h.ai a (va_up (h.ai a) i v), h.aw, h.ar)
def Hp.saw (h : Hp) (a i : Nat) (v : Int64) : Hp := (h.nx, h.su, h.se, h.kd, h.fi, h.fl, h.fr, h.al, h.ai, va_up h.aw a (va_up (h.aw a) i v), h.ar)
def Hp.sar (h : Hp) (a i : Nat) (v : Option Nat) : Hp := (h.nx, h.su, h.se, h.kd, h.fi, h.fl, h.fr, h.al, h.ai, h.aw, va_up h.ar a (va_up (h.ar a) i v))
/-- a new cell of kind k at the heap's end: n the length of an array, sl its slots -/
def Hp.new (h : Hp) (k n sl : Nat) : Hp := (h.nx + 1, h.su + sl, h.se, va_up h.kd h.nx k, fun f => va_up (h.fi f) h.nx 0, fun f => va_up (h.fl f) h.nx 0, fun f => va_up (h.fr f) h.nx none, va_up h.al h.nx n, va_up h.ai h.nx (fun _ => 0), va_up h.aw h.nx (fun _ => 0), va_up h.ar h.nx (fun _ => none))
/-- all that is said of the cell at b is the same -/
def AgA (h h' : Hp) (b : Nat) : Prop := (∀ f, h'.fi f b = h.fi f b) ∧ (∀ f, h'.fl f b = h.fl f b) ∧ (∀ f, h'.fr f b = h.fr f b) ∧ h'.al b = h.al b ∧ h'.ai b = h.ai b ∧ h'.aw b = h.aw b ∧ h'.ar b = h.ar b
theorem up2_ne {α : Type} (g : Nat → Nat → α) (f a : Nat) (v : α) (f' : Nat) {b : Nat} (hb : b ≠ a) : va_up g f (va_up (g f) a v) f' b = g f' b := by
  by_cases hf : f' = f
  · subst hf; rw [va_up_self, va_up_ne _ _ hb]
  · rw [va_up_ne _ _ hf]
theorem ag_sfi (h : Hp) (f a : Nat) (v : Int32) {b : Nat} (hb : b ≠ a) : AgA h (h.sfi f a v) b := ⟨fun f' => up2_ne h.fi f a v f' hb, fun _ => rfl, fun _ => rfl, rfl, rfl, rfl, rfl⟩
theorem ag_sfl (h : Hp) (f a : Nat) (v : Int64) {b : Nat} (hb : b ≠ a) : AgA h (h.sfl f a v) b := ⟨fun _ => rfl, fun f' => up2_ne h.fl f a v f' hb, fun _ => rfl, rfl, rfl, rfl, rfl⟩
theorem ag_sfr (h : Hp) (f a : Nat) (v : Option Nat) {b : Nat} (hb : b ≠ a) : AgA h (h.sfr f a v) b := ⟨fun _ => rfl, fun _ => rfl, fun f' => up2_ne h.fr f a v f' hb, rfl, rfl, rfl, rfl⟩
theorem ag_sai (h : Hp) (a i : Nat) (v : Int32) {b : Nat} (hb : b ≠ a) : AgA h (h.sai a i v) b := ⟨fun _ => rfl, fun _ => rfl, fun _ => rfl, rfl, va_up_ne _ _ hb, rfl, rfl⟩
theorem ag_saw (h : Hp) (a i : Nat) (v : Int64) {b : Nat} (hb : b ≠ a) : AgA h (h.saw a i v) b := ⟨fun _ => rfl, fun _ => rfl, fun _ => rfl, rfl, rfl, va_up_ne _ _ hb, rfl⟩
theorem ag_sar (h : Hp) (a i : Nat) (v : Option Nat) {b : Nat} (hb : b ≠ a) : AgA h (h.sar a i v) b := ⟨fun _ => rfl, fun _ => rfl, fun _ => rfl, rfl, rfl, rfl, va_up_ne _ _ hb⟩
theorem ag_new (h : Hp) (k n sl : Nat) {b : Nat} (hb : b ≠ h.nx) : AgA h (h.new k n sl) b := ⟨fun _ => va_up_ne _ _ hb, fun _ => va_up_ne _ _ hb, fun _ => va_up_ne _ _ hb, va_up_ne _ _ hb, va_up_ne _ _ hb, va_up_ne _ _ hb, va_up_ne _ _ hb⟩
/-- h' comes behind h: what was there keeps its kind, what is new lies behind -/
def Mo (h h' : Hp) : Prop := (∀ a, a < h.nx → h'.kd a = h.kd a) ∧ h.nx ≤ h'.nx ∧ h.su ≤ h'.su ∧ h'.se = h.se
theorem Mo.rf (h : Hp) : Mo h h := ⟨fun _ _ => rfl, Nat.le_refl _, Nat.le_refl _, rfl⟩
theorem Mo.tr {h1 h2 h3 : Hp} (a : Mo h1 h2) (b : Mo h2 h3) : Mo h1 h3 := ⟨fun x hx => (b.1 x (Nat.lt_of_lt_of_le hx a.2.1)).trans (a.1 x hx), Nat.le_trans a.2.1 b.2.1, Nat.le_trans a.2.2.1 b.2.2.1, b.2.2.2.trans a.2.2.2⟩
theorem Mo.sfi (h : Hp) (f a : Nat) (v : Int32) : Mo h (h.sfi f a v) := Mo.rf h
theorem Mo.sfl (h : Hp) (f a : Nat) (v : Int64) : Mo h (h.sfl f a v) := Mo.rf h
theorem Mo.sfr (h : Hp) (f a : Nat) (v : Option Nat) : Mo h (h.sfr f a v) := Mo.rf h
theorem Mo.sai (h : Hp) (a i : Nat) (v : Int32) : Mo h (h.sai a i v) := Mo.rf h
theorem Mo.saw (h : Hp) (a i : Nat) (v : Int64) : Mo h (h.saw a i v) := Mo.rf h
theorem Mo.sar (h : Hp) (a i : Nat) (v : Option Nat) : Mo h (h.sar a i v) := Mo.rf h
theorem Mo.new (h : Hp) (k n sl : Nat) : Mo h (h.new k n sl) := ⟨fun a ha => va_up_ne _ _ (Nat.ne_of_lt ha), Nat.le_succ _, Nat.le_add_right _ _, rfl⟩
abbrev C4 : Type := ClassId × ClassId × ClassId × ClassId
abbrev tyl (cs : C4) : List (ClassId × FieldType) := [(cs.1, .int), (cs.2.1, .long), (cs.2.2.1, .boolean), (cs.2.2.2, .object "java/lang/Object")]
