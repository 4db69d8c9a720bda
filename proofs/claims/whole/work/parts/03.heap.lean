/-! the abstract heap: fields as functions of the address; addresses are the machine's own. gi gl gr: the fields of the reference, bi bw: its arrays -/
def Hp : Type := Nat × Nat × (Nat × Nat) × (Nat → Nat) × (Nat → Nat → Int32) × (Nat → Nat → Int64) × (Nat → Nat → Option Nat) × (Nat → Nat) × (Nat → Nat → Int32) × (Nat → Nat → Int64) × (Nat → Nat → Option Nat) × (Nat → Nat → Int32) × (Nat → Nat → Int64) × (Nat → Nat → Option Nat) × (Nat → Nat → Int32) × (Nat → Nat → Int64)
def Hp.nx (h : Hp) : Nat := h.1
def Hp.su (h : Hp) : Nat := h.2.1
/-- the static empty array, the class object of Object[] -/
def Hp.se (h : Hp) : Nat × Nat := h.2.2.1
def Hp.kd (h : Hp) : Nat → Nat := h.2.2.2.1
def Hp.fi (h : Hp) : Nat → Nat → Int32 := h.2.2.2.2.1
def Hp.fl (h : Hp) : Nat → Nat → Int64 := h.2.2.2.2.2.1
def Hp.fr (h : Hp) : Nat → Nat → Option Nat := h.2.2.2.2.2.2.1
def Hp.al (h : Hp) : Nat → Nat := h.2.2.2.2.2.2.2.1
def Hp.ai (h : Hp) : Nat → Nat → Int32 := h.2.2.2.2.2.2.2.2.1
def Hp.aw (h : Hp) : Nat → Nat → Int64 := h.2.2.2.2.2.2.2.2.2.1
def Hp.ar (h : Hp) : Nat → Nat → Option Nat := h.2.2.2.2.2.2.2.2.2.2.1
def Hp.gi (h : Hp) : Nat → Nat → Int32 := h.2.2.2.2.2.2.2.2.2.2.2.1
def Hp.gl (h : Hp) : Nat → Nat → Int64 := h.2.2.2.2.2.2.2.2.2.2.2.2.1
def Hp.gr (h : Hp) : Nat → Nat → Option Nat := h.2.2.2.2.2.2.2.2.2.2.2.2.2.1
def Hp.bi (h : Hp) : Nat → Nat → Int32 := h.2.2.2.2.2.2.2.2.2.2.2.2.2.2.1
def Hp.bw (h : Hp) : Nat → Nat → Int64 := h.2.2.2.2.2.2.2.2.2.2.2.2.2.2.2
def Hp.sfi (h : Hp) (f a : Nat) (v : Int32) : Hp := (h.nx, h.su, h.se, h.kd, va_up h.fi f (va_up (h.fi f) a v), h.fl, h.fr, h.al, h.ai, h.aw, h.ar, h.gi, h.gl, h.gr, h.bi, h.bw)
def Hp.sfl (h : Hp) (f a : Nat) (v : Int64) : Hp := (h.nx, h.su, h.se, h.kd, h.fi, va_up h.fl f (va_up (h.fl f) a v), h.fr, h.al, h.ai, h.aw, h.ar, h.gi, h.gl, h.gr, h.bi, h.bw)
def Hp.sfr (h : Hp) (f a : Nat) (v : Option Nat) : Hp := (h.nx, h.su, h.se, h.kd, h.fi, h.fl, va_up h.fr f (va_up (h.fr f) a v), h.al, h.ai, h.aw, h.ar, h.gi, h.gl, h.gr, h.bi, h.bw)
def Hp.sgi (h : Hp) (f a : Nat) (v : Int32) : Hp := (h.nx, h.su, h.se, h.kd, h.fi, h.fl, h.fr, h.al, h.ai, h.aw, h.ar, va_up h.gi f (va_up (h.gi f) a v), h.gl, h.gr, h.bi, h.bw)
def Hp.sgl (h : Hp) (f a : Nat) (v : Int64) : Hp := (h.nx, h.su, h.se, h.kd, h.fi, h.fl, h.fr, h.al, h.ai, h.aw, h.ar, h.gi, va_up h.gl f (va_up (h.gl f) a v), h.gr, h.bi, h.bw)
def Hp.sgr (h : Hp) (f a : Nat) (v : Option Nat) : Hp := (h.nx, h.su, h.se, h.kd, h.fi, h.fl, h.fr, h.al, h.ai, h.aw, h.ar, h.gi, h.gl, va_up h.gr f (va_up (h.gr f) a v), h.bi, h.bw)
def Hp.sai (h : Hp) (a i : Nat) (v : Int32) : Hp := (h.nx, h.su, h.se, h.kd, h.fi, h.fl, h.fr, h.al, va_up h.ai a (va_up (h.ai a) i v), h.aw, h.ar, h.gi, h.gl, h.gr, h.bi, h.bw)
def Hp.saw (h : Hp) (a i : Nat) (v : Int64) : Hp := (h.nx, h.su, h.se, h.kd, h.fi, h.fl, h.fr, h.al, h.ai, va_up h.aw a (va_up (h.aw a) i v), h.ar, h.gi, h.gl, h.gr, h.bi, h.bw)
def Hp.sar (h : Hp) (a i : Nat) (v : Option Nat) : Hp := (h.nx, h.su, h.se, h.kd, h.fi, h.fl, h.fr, h.al, h.ai, h.aw, va_up h.ar a (va_up (h.ar a) i v), h.gi, h.gl, h.gr, h.bi, h.bw)
def Hp.sbi (h : Hp) (a i : Nat) (v : Int32) : Hp := (h.nx, h.su, h.se, h.kd, h.fi, h.fl, h.fr, h.al, h.ai, h.aw, h.ar, h.gi, h.gl, h.gr, va_up h.bi a (va_up (h.bi a) i v), h.bw)
def Hp.sbw (h : Hp) (a i : Nat) (v : Int64) : Hp := (h.nx, h.su, h.se, h.kd, h.fi, h.fl, h.fr, h.al, h.ai, h.aw, h.ar, h.gi, h.gl, h.gr, h.bi, va_up h.bw a (va_up (h.bw a) i v))
/-- a new cell of kind k at the heap's end: n the length of an array, sl its slots -/
def Hp.new (h : Hp) (k n sl : Nat) : Hp := (h.nx + 1, h.su + sl, h.se, va_up h.kd h.nx k, fun f => va_up (h.fi f) h.nx 0, fun f => va_up (h.fl f) h.nx 0, fun f => va_up (h.fr f) h.nx none, va_up h.al h.nx n, va_up h.ai h.nx (fun _ => 0), va_up h.aw h.nx (fun _ => 0), va_up h.ar h.nx (fun _ => none), fun f => va_up (h.gi f) h.nx 0, fun f => va_up (h.gl f) h.nx 0, fun f => va_up (h.gr f) h.nx none, va_up h.bi h.nx (fun _ => 0), va_up h.bw h.nx (fun _ => 0))
/-- all that is said of the cell at b is the same -/
def AgA (h h' : Hp) (b : Nat) : Prop := (∀ f, h'.fi f b = h.fi f b) ∧ (∀ f, h'.fl f b = h.fl f b) ∧ (∀ f, h'.fr f b = h.fr f b) ∧ h'.al b = h.al b ∧ h'.ai b = h.ai b ∧ h'.aw b = h.aw b ∧ h'.ar b = h.ar b ∧ (∀ f, h'.gi f b = h.gi f b) ∧ (∀ f, h'.gl f b = h.gl f b) ∧ (∀ f, h'.gr f b = h.gr f b) ∧ h'.bi b = h.bi b ∧ h'.bw b = h.bw b
theorem up2_ne {α : Type} (g : Nat → Nat → α) (f a : Nat) (v : α) (f' : Nat) {b : Nat} (hb : b ≠ a) : va_up g f (va_up (g f) a v) f' b = g f' b := by
  by_cases hf : f' = f
  · subst hf; rw [va_up_self, va_up_ne _ _ hb]
  · rw [va_up_ne _ _ hf]
theorem ag_sfi (h : Hp) (f a : Nat) (v : Int32) {b : Nat} (hb : b ≠ a) : AgA h (h.sfi f a v) b := ⟨fun f' => up2_ne h.fi f a v f' hb, fun _ => rfl, fun _ => rfl, rfl, rfl, rfl, rfl, fun _ => rfl, fun _ => rfl, fun _ => rfl, rfl, rfl⟩
theorem ag_sfl (h : Hp) (f a : Nat) (v : Int64) {b : Nat} (hb : b ≠ a) : AgA h (h.sfl f a v) b := ⟨fun _ => rfl, fun f' => up2_ne h.fl f a v f' hb, fun _ => rfl, rfl, rfl, rfl, rfl, fun _ => rfl, fun _ => rfl, fun _ => rfl, rfl, rfl⟩
theorem ag_sfr (h : Hp) (f a : Nat) (v : Option Nat) {b : Nat} (hb : b ≠ a) : AgA h (h.sfr f a v) b := ⟨fun _ => rfl, fun _ => rfl, fun f' => up2_ne h.fr f a v f' hb, rfl, rfl, rfl, rfl, fun _ => rfl, fun _ => rfl, fun _ => rfl, rfl, rfl⟩
theorem ag_sgi (h : Hp) (f a : Nat) (v : Int32) {b : Nat} (hb : b ≠ a) : AgA h (h.sgi f a v) b := ⟨fun _ => rfl, fun _ => rfl, fun _ => rfl, rfl, rfl, rfl, rfl, fun f' => up2_ne h.gi f a v f' hb, fun _ => rfl, fun _ => rfl, rfl, rfl⟩
theorem ag_sgl (h : Hp) (f a : Nat) (v : Int64) {b : Nat} (hb : b ≠ a) : AgA h (h.sgl f a v) b := ⟨fun _ => rfl, fun _ => rfl, fun _ => rfl, rfl, rfl, rfl, rfl, fun _ => rfl, fun f' => up2_ne h.gl f a v f' hb, fun _ => rfl, rfl, rfl⟩
theorem ag_sgr (h : Hp) (f a : Nat) (v : Option Nat) {b : Nat} (hb : b ≠ a) : AgA h (h.sgr f a v) b := ⟨fun _ => rfl, fun _ => rfl, fun _ => rfl, rfl, rfl, rfl, rfl, fun _ => rfl, fun _ => rfl, fun f' => up2_ne h.gr f a v f' hb, rfl, rfl⟩
theorem ag_sai (h : Hp) (a i : Nat) (v : Int32) {b : Nat} (hb : b ≠ a) : AgA h (h.sai a i v) b := ⟨fun _ => rfl, fun _ => rfl, fun _ => rfl, rfl, va_up_ne _ _ hb, rfl, rfl, fun _ => rfl, fun _ => rfl, fun _ => rfl, rfl, rfl⟩
theorem ag_saw (h : Hp) (a i : Nat) (v : Int64) {b : Nat} (hb : b ≠ a) : AgA h (h.saw a i v) b := ⟨fun _ => rfl, fun _ => rfl, fun _ => rfl, rfl, rfl, va_up_ne _ _ hb, rfl, fun _ => rfl, fun _ => rfl, fun _ => rfl, rfl, rfl⟩
theorem ag_sar (h : Hp) (a i : Nat) (v : Option Nat) {b : Nat} (hb : b ≠ a) : AgA h (h.sar a i v) b := ⟨fun _ => rfl, fun _ => rfl, fun _ => rfl, rfl, rfl, rfl, va_up_ne _ _ hb, fun _ => rfl, fun _ => rfl, fun _ => rfl, rfl, rfl⟩
theorem ag_sbi (h : Hp) (a i : Nat) (v : Int32) {b : Nat} (hb : b ≠ a) : AgA h (h.sbi a i v) b := ⟨fun _ => rfl, fun _ => rfl, fun _ => rfl, rfl, rfl, rfl, rfl, fun _ => rfl, fun _ => rfl, fun _ => rfl, va_up_ne _ _ hb, rfl⟩
theorem ag_sbw (h : Hp) (a i : Nat) (v : Int64) {b : Nat} (hb : b ≠ a) : AgA h (h.sbw a i v) b := ⟨fun _ => rfl, fun _ => rfl, fun _ => rfl, rfl, rfl, rfl, rfl, fun _ => rfl, fun _ => rfl, fun _ => rfl, rfl, va_up_ne _ _ hb⟩
theorem ag_new (h : Hp) (k n sl : Nat) {b : Nat} (hb : b ≠ h.nx) : AgA h (h.new k n sl) b := ⟨fun _ => va_up_ne _ _ hb, fun _ => va_up_ne _ _ hb, fun _ => va_up_ne _ _ hb, va_up_ne _ _ hb, va_up_ne _ _ hb, va_up_ne _ _ hb, va_up_ne _ _ hb, fun _ => va_up_ne _ _ hb, fun _ => va_up_ne _ _ hb, fun _ => va_up_ne _ _ hb, va_up_ne _ _ hb, va_up_ne _ _ hb⟩
/-- h' comes behind h: what was there keeps its kind and its length, what is new lies behind -/
def Mo (h h' : Hp) : Prop := (∀ a, a < h.nx → h'.kd a = h.kd a) ∧ h.nx ≤ h'.nx ∧ h.su ≤ h'.su ∧ h'.se = h.se ∧ (∀ a, a < h.nx → h'.al a = h.al a)
theorem Mo.rf (h : Hp) : Mo h h := ⟨fun _ _ => rfl, Nat.le_refl _, Nat.le_refl _, rfl, fun _ _ => rfl⟩
theorem Mo.tr {h1 h2 h3 : Hp} (a : Mo h1 h2) (b : Mo h2 h3) : Mo h1 h3 := ⟨fun x hx => (b.1 x (Nat.lt_of_lt_of_le hx a.2.1)).trans (a.1 x hx), Nat.le_trans a.2.1 b.2.1, Nat.le_trans a.2.2.1 b.2.2.1, b.2.2.2.1.trans a.2.2.2.1, fun x hx => (b.2.2.2.2 x (Nat.lt_of_lt_of_le hx a.2.1)).trans (a.2.2.2.2 x hx)⟩
theorem Mo.sfi (h : Hp) (f a : Nat) (v : Int32) : Mo h (h.sfi f a v) := Mo.rf h
theorem Mo.sfl (h : Hp) (f a : Nat) (v : Int64) : Mo h (h.sfl f a v) := Mo.rf h
theorem Mo.sfr (h : Hp) (f a : Nat) (v : Option Nat) : Mo h (h.sfr f a v) := Mo.rf h
theorem Mo.sgi (h : Hp) (f a : Nat) (v : Int32) : Mo h (h.sgi f a v) := Mo.rf h
theorem Mo.sgl (h : Hp) (f a : Nat) (v : Int64) : Mo h (h.sgl f a v) := Mo.rf h
theorem Mo.sgr (h : Hp) (f a : Nat) (v : Option Nat) : Mo h (h.sgr f a v) := Mo.rf h
theorem Mo.sai (h : Hp) (a i : Nat) (v : Int32) : Mo h (h.sai a i v) := Mo.rf h
theorem Mo.saw (h : Hp) (a i : Nat) (v : Int64) : Mo h (h.saw a i v) := Mo.rf h
theorem Mo.sar (h : Hp) (a i : Nat) (v : Option Nat) : Mo h (h.sar a i v) := Mo.rf h
theorem Mo.sbi (h : Hp) (a i : Nat) (v : Int32) : Mo h (h.sbi a i v) := Mo.rf h
theorem Mo.sbw (h : Hp) (a i : Nat) (v : Int64) : Mo h (h.sbw a i v) := Mo.rf h
theorem Mo.new (h : Hp) (k n sl : Nat) : Mo h (h.new k n sl) := ⟨fun a ha => va_up_ne _ _ (Nat.ne_of_lt ha), Nat.le_succ _, Nat.le_add_right _ _, rfl, fun a ha => va_up_ne _ _ (Nat.ne_of_lt ha)⟩
/-- what code of the class leaves alone: the reference's fields and arrays -/
def Fc (h h' : Hp) : Prop := h.nx ≤ h'.nx ∧ (∀ f a, a < h.nx → h'.gi f a = h.gi f a) ∧ (∀ f a, a < h.nx → h'.gl f a = h.gl f a) ∧ (∀ f a, a < h.nx → h'.gr f a = h.gr f a) ∧ (∀ a, a < h.nx → h'.bi a = h.bi a) ∧ (∀ a, a < h.nx → h'.bw a = h.bw a)
theorem Fc.rf (h : Hp) : Fc h h := ⟨Nat.le_refl _, fun _ _ _ => rfl, fun _ _ _ => rfl, fun _ _ _ => rfl, fun _ _ => rfl, fun _ _ => rfl⟩
theorem Fc.tr {h1 h2 h3 : Hp} (a : Fc h1 h2) (b : Fc h2 h3) : Fc h1 h3 := by
  obtain ⟨a0, a1, a2, a3, a4, a5⟩ := a
  obtain ⟨b0, b1, b2, b3, b4, b5⟩ := b
  have lt : ∀ x, x < h1.nx → x < h2.nx := fun x hx => Nat.lt_of_lt_of_le hx a0
  exact ⟨Nat.le_trans a0 b0, fun f x hx => (b1 f x (lt x hx)).trans (a1 f x hx), fun f x hx => (b2 f x (lt x hx)).trans (a2 f x hx), fun f x hx => (b3 f x (lt x hx)).trans (a3 f x hx), fun x hx => (b4 x (lt x hx)).trans (a4 x hx), fun x hx => (b5 x (lt x hx)).trans (a5 x hx)⟩
theorem Fc.new (h : Hp) (k n sl : Nat) : Fc h (h.new k n sl) := ⟨Nat.le_succ _, fun _ a ha => va_up_ne _ _ (Nat.ne_of_lt ha), fun _ a ha => va_up_ne _ _ (Nat.ne_of_lt ha), fun _ a ha => va_up_ne _ _ (Nat.ne_of_lt ha), fun a ha => va_up_ne _ _ (Nat.ne_of_lt ha), fun a ha => va_up_ne _ _ (Nat.ne_of_lt ha)⟩
/-- what code of the reference leaves alone: all else -/
def Fm (h h' : Hp) : Prop := h.nx ≤ h'.nx ∧ (∀ f a, a < h.nx → h'.fi f a = h.fi f a) ∧ (∀ f a, a < h.nx → h'.fl f a = h.fl f a) ∧ (∀ f a, a < h.nx → h'.fr f a = h.fr f a) ∧ (∀ a, a < h.nx → h'.ai a = h.ai a) ∧ (∀ a, a < h.nx → h'.aw a = h.aw a) ∧ (∀ a, a < h.nx → h'.ar a = h.ar a)
theorem Fm.rf (h : Hp) : Fm h h := ⟨Nat.le_refl _, fun _ _ _ => rfl, fun _ _ _ => rfl, fun _ _ _ => rfl, fun _ _ => rfl, fun _ _ => rfl, fun _ _ => rfl⟩
theorem Fm.tr {h1 h2 h3 : Hp} (a : Fm h1 h2) (b : Fm h2 h3) : Fm h1 h3 := by
  obtain ⟨a0, a1, a2, a3, a4, a5, a6⟩ := a
  obtain ⟨b0, b1, b2, b3, b4, b5, b6⟩ := b
  have lt : ∀ x, x < h1.nx → x < h2.nx := fun x hx => Nat.lt_of_lt_of_le hx a0
  exact ⟨Nat.le_trans a0 b0, fun f x hx => (b1 f x (lt x hx)).trans (a1 f x hx), fun f x hx => (b2 f x (lt x hx)).trans (a2 f x hx), fun f x hx => (b3 f x (lt x hx)).trans (a3 f x hx), fun x hx => (b4 x (lt x hx)).trans (a4 x hx), fun x hx => (b5 x (lt x hx)).trans (a5 x hx), fun x hx => (b6 x (lt x hx)).trans (a6 x hx)⟩
theorem Fm.new (h : Hp) (k n sl : Nat) : Fm h (h.new k n sl) := ⟨Nat.le_succ _, fun _ a ha => va_up_ne _ _ (Nat.ne_of_lt ha), fun _ a ha => va_up_ne _ _ (Nat.ne_of_lt ha), fun _ a ha => va_up_ne _ _ (Nat.ne_of_lt ha), fun a ha => va_up_ne _ _ (Nat.ne_of_lt ha), fun a ha => va_up_ne _ _ (Nat.ne_of_lt ha), fun a ha => va_up_ne _ _ (Nat.ne_of_lt ha)⟩
/-- behind the heap's end there is nothing -/
def Fw (h h' : Hp) : Prop := (∀ a, h.nx ≤ a → h.kd a = 0) → ∀ a, h'.nx ≤ a → h'.kd a = 0
theorem Fw.rf (h : Hp) : Fw h h := fun q => q
theorem Fw.tr {h1 h2 h3 : Hp} (a : Fw h1 h2) (b : Fw h2 h3) : Fw h1 h3 := fun q => b (a q)
theorem Fw.new (h : Hp) (k n sl : Nat) : Fw h (h.new k n sl) := fun q a ha => (va_up_ne _ _ (Nat.ne_of_gt (Nat.lt_of_lt_of_le (Nat.lt_succ_self _) ha))).trans (q a (Nat.le_trans (Nat.le_succ _) ha))
abbrev C4 : Type := ClassId × ClassId × ClassId × ClassId
abbrev tyl (cs : C4) : List (ClassId × FieldType) := [(cs.1, .int), (cs.2.1, .long), (cs.2.2.1, .boolean), (cs.2.2.2, .object "java/lang/Object")]
