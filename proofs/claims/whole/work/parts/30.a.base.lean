/-! layer 2: pure Lean. Small ints, and what a change of the abstract heap leaves -/
theorem ni_inj {a b : Nat} (ha : a < 2147483648) (hb : b < 2147483648) : nI a = nI b ↔ a = b := by
  constructor
  · intro e
    have h1 := nI_toInt (n := a) (by omega)
    have h2 := nI_toInt (n := b) (by omega)
    rw [e] at h1
    omega
  · intro e; rw [e]
theorem ni_lt {a b : Nat} (ha : a < 2147483648) (hb : b < 2147483648) : nI a < nI b ↔ a < b := by
  rw [Int32.lt_iff_toInt_lt, nI_toInt (by omega), nI_toInt (by omega)]
  omega
theorem ni_le {a b : Nat} (ha : a < 2147483648) (hb : b < 2147483648) : nI a ≤ nI b ↔ a ≤ b := by
  rw [Int32.le_iff_toInt_le, nI_toInt (by omega), nI_toInt (by omega)]
  omega
theorem ni_sub {a b : Nat} (h : b ≤ a) : nI a - nI b = nI (a - b) := by
  have e : nI (a - b) + nI b = nI a := by rw [nI_add, Nat.sub_add_cancel h]
  rw [← e]
  exact Int32.add_sub_cancel (nI (a - b)) (nI b)
theorem ni_dec (k : Nat) : nI (k + 1) + (-1 : Int32) = nI k := by
  have e : nI (k + 1) = nI k + 1 := (nI_add k 1).symm
  rw [e, Int32.add_assoc]
  exact Int32.add_zero (nI k)
theorem ni_pred (k : Nat) : nI (k + 1) - (1 : Int32) = nI k := ni_sub (a := k + 1) (b := 1) (by omega)
theorem ni_inc (k : Nat) : nI k + (1 : Int32) = nI (k + 1) := nI_add k 1
theorem ni_nn {a : Nat} (ha : a < 2147483648) : ¬ nI a < 0 := fun q => by
  have := (ni_lt (b := 0) ha (by omega)).mp q
  omega
theorem ni_clp {a : Nat} (ha : a < 2147483648) : (nI a).toNatClampNeg = a := nI_clamp (by omega)
theorem ni_lz {a : Nat} (ha : a < 2147483648) : (nI a ≤ 0) ↔ a = 0 := by
  have := ni_le (b := 0) ha (by omega)
  rw [show (0 : Int32) = nI 0 from rfl, this]
  omega
theorem ni_gz {a : Nat} (ha : a < 2147483648) : (0 < nI a) ↔ 0 < a := ni_lt (a := 0) (by omega) ha
theorem ni_m1 {a : Nat} (ha : a < 2147483648) : ¬ nI a = (-1 : Int32) := fun q => ni_nn ha (by rw [q]; decide)
/-- an index within an array, as the translated text asks -/
theorem ix_ok {i n : Nat} (hi : i < n) (hn : n < 2147483648) : ¬ (nI i < 0 ∨ n ≤ (nI i).toNatClampNeg) := fun q => q.elim (ni_nn (by omega)) (fun q => by rw [ni_clp (by omega)] at q; omega)
theorem ni_1lt {b : Nat} (hb : b < 2147483648) : ((1 : Int32) < nI b) ↔ 1 < b := ni_lt (a := 1) (by omega) hb
theorem ni_lt1 {b : Nat} (hb : b < 2147483648) : (nI b < (1 : Int32)) ↔ b < 1 := ni_lt (b := 1) hb (by omega)
theorem ni_0le {b : Nat} (hb : b < 2147483648) : (0 : Int32) ≤ nI b := (ni_le (a := 0) (by omega) hb).mpr (Nat.zero_le _)
theorem ck_ix {β : Type} {i n : Nat} {x : Option β} [Decidable (¬ (nI i < 0 ∨ n ≤ (nI i).toNatClampNeg))] (hi : i < n) (hn : n < 2147483648) : ck (¬ (nI i < 0 ∨ n ≤ (nI i).toNatClampNeg)) x = x := ck_eq (ix_ok hi hn)
theorem ck_no {β : Type} {h : Hp} {x : Option β} [Decidable (okV h none = true)] : ck (okV h none = true) x = x := ck_eq rfl
theorem ni_0 : (0 : Int32) = nI 0 := rfl
theorem ni_1 : (1 : Int32) = nI 1 := rfl
theorem some_bind' {α β : Type} (a : α) (f : α → Option β) : (some a).bind f = f a := rfl
theorem bnd {α β : Type} {o : Option α} {a : α} {f : α → Option β} (e : o = some a) : o.bind f = f a := by rw [e]; rfl
theorem dr_e {β : Type} {h : Hp} {k a : Nat} {x : Option Nat} {f : Nat → Option β} (e : x = some a) (q : h.kd a = k) : dr h k x f = f a := by rw [e]; exact dr_eq q
theorem nl_ne {β : Type} {x : Option Nat} {f : Option β} {g : Nat → Option β} (e : x = none) : nl x f g = f := by rw [e]; rfl
theorem nl_so {β : Type} {x : Option Nat} {f : Option β} {g : Nat → Option β} {a : Nat} (e : x = some a) : nl x f g = g a := by rw [e]; rfl
theorem nl_n {β : Type} {f : Option β} {g : Nat → Option β} : nl none f g = f := rfl
theorem nl_s {β : Type} {f : Option β} {g : Nat → Option β} {a : Nat} : nl (some a) f g = g a := rfl
theorem pj_sfi_nx (h : Hp) (f a : Nat) (v : Int32) : (h.sfi f a v).nx = h.nx := id rfl
theorem pj_sfi_su (h : Hp) (f a : Nat) (v : Int32) : (h.sfi f a v).su = h.su := id rfl
theorem pj_sfi_se (h : Hp) (f a : Nat) (v : Int32) : (h.sfi f a v).se = h.se := id rfl
theorem pj_sfi_kd (h : Hp) (f a : Nat) (v : Int32) : (h.sfi f a v).kd = h.kd := id rfl
theorem pj_sfi_fi (h : Hp) (f a : Nat) (v : Int32) (g b : Nat) : (h.sfi f a v).fi g b = if g = f then (if b = a then v else h.fi g b) else h.fi g b := by show va_up h.fi f (va_up (h.fi f) a v) g b = _; unfold va_up; by_cases q : g = f <;> simp [q]
theorem pj_sfi_fl (h : Hp) (f a : Nat) (v : Int32) : (h.sfi f a v).fl = h.fl := id rfl
theorem pj_sfi_fr (h : Hp) (f a : Nat) (v : Int32) : (h.sfi f a v).fr = h.fr := id rfl
theorem pj_sfi_al (h : Hp) (f a : Nat) (v : Int32) : (h.sfi f a v).al = h.al := id rfl
theorem pj_sfi_ai (h : Hp) (f a : Nat) (v : Int32) : (h.sfi f a v).ai = h.ai := id rfl
theorem pj_sfi_aw (h : Hp) (f a : Nat) (v : Int32) : (h.sfi f a v).aw = h.aw := id rfl
theorem pj_sfi_ar (h : Hp) (f a : Nat) (v : Int32) : (h.sfi f a v).ar = h.ar := id rfl
theorem pj_sfi_gi (h : Hp) (f a : Nat) (v : Int32) : (h.sfi f a v).gi = h.gi := id rfl
theorem pj_sfi_gl (h : Hp) (f a : Nat) (v : Int32) : (h.sfi f a v).gl = h.gl := id rfl
theorem pj_sfi_gr (h : Hp) (f a : Nat) (v : Int32) : (h.sfi f a v).gr = h.gr := id rfl
theorem pj_sfi_bi (h : Hp) (f a : Nat) (v : Int32) : (h.sfi f a v).bi = h.bi := id rfl
theorem pj_sfi_bw (h : Hp) (f a : Nat) (v : Int32) : (h.sfi f a v).bw = h.bw := id rfl
theorem pj_sfl_nx (h : Hp) (f a : Nat) (v : Int64) : (h.sfl f a v).nx = h.nx := id rfl
theorem pj_sfl_su (h : Hp) (f a : Nat) (v : Int64) : (h.sfl f a v).su = h.su := id rfl
theorem pj_sfl_se (h : Hp) (f a : Nat) (v : Int64) : (h.sfl f a v).se = h.se := id rfl
theorem pj_sfl_kd (h : Hp) (f a : Nat) (v : Int64) : (h.sfl f a v).kd = h.kd := id rfl
theorem pj_sfl_fi (h : Hp) (f a : Nat) (v : Int64) : (h.sfl f a v).fi = h.fi := id rfl
theorem pj_sfl_fl (h : Hp) (f a : Nat) (v : Int64) (g b : Nat) : (h.sfl f a v).fl g b = if g = f then (if b = a then v else h.fl g b) else h.fl g b := by show va_up h.fl f (va_up (h.fl f) a v) g b = _; unfold va_up; by_cases q : g = f <;> simp [q]
theorem pj_sfl_fr (h : Hp) (f a : Nat) (v : Int64) : (h.sfl f a v).fr = h.fr := id rfl
theorem pj_sfl_al (h : Hp) (f a : Nat) (v : Int64) : (h.sfl f a v).al = h.al := id rfl
theorem pj_sfl_ai (h : Hp) (f a : Nat) (v : Int64) : (h.sfl f a v).ai = h.ai := id rfl
theorem pj_sfl_aw (h : Hp) (f a : Nat) (v : Int64) : (h.sfl f a v).aw = h.aw := id rfl
theorem pj_sfl_ar (h : Hp) (f a : Nat) (v : Int64) : (h.sfl f a v).ar = h.ar := id rfl
theorem pj_sfl_gi (h : Hp) (f a : Nat) (v : Int64) : (h.sfl f a v).gi = h.gi := id rfl
theorem pj_sfl_gl (h : Hp) (f a : Nat) (v : Int64) : (h.sfl f a v).gl = h.gl := id rfl
theorem pj_sfl_gr (h : Hp) (f a : Nat) (v : Int64) : (h.sfl f a v).gr = h.gr := id rfl
theorem pj_sfl_bi (h : Hp) (f a : Nat) (v : Int64) : (h.sfl f a v).bi = h.bi := id rfl
theorem pj_sfl_bw (h : Hp) (f a : Nat) (v : Int64) : (h.sfl f a v).bw = h.bw := id rfl
theorem pj_sfr_nx (h : Hp) (f a : Nat) (v : Option Nat) : (h.sfr f a v).nx = h.nx := id rfl
theorem pj_sfr_su (h : Hp) (f a : Nat) (v : Option Nat) : (h.sfr f a v).su = h.su := id rfl
theorem pj_sfr_se (h : Hp) (f a : Nat) (v : Option Nat) : (h.sfr f a v).se = h.se := id rfl
theorem pj_sfr_kd (h : Hp) (f a : Nat) (v : Option Nat) : (h.sfr f a v).kd = h.kd := id rfl
theorem pj_sfr_fi (h : Hp) (f a : Nat) (v : Option Nat) : (h.sfr f a v).fi = h.fi := id rfl
theorem pj_sfr_fl (h : Hp) (f a : Nat) (v : Option Nat) : (h.sfr f a v).fl = h.fl := id rfl
theorem pj_sfr_fr (h : Hp) (f a : Nat) (v : Option Nat) (g b : Nat) : (h.sfr f a v).fr g b = if g = f then (if b = a then v else h.fr g b) else h.fr g b := by show va_up h.fr f (va_up (h.fr f) a v) g b = _; unfold va_up; by_cases q : g = f <;> simp [q]
theorem pj_sfr_al (h : Hp) (f a : Nat) (v : Option Nat) : (h.sfr f a v).al = h.al := id rfl
theorem pj_sfr_ai (h : Hp) (f a : Nat) (v : Option Nat) : (h.sfr f a v).ai = h.ai := id rfl
theorem pj_sfr_aw (h : Hp) (f a : Nat) (v : Option Nat) : (h.sfr f a v).aw = h.aw := id rfl
theorem pj_sfr_ar (h : Hp) (f a : Nat) (v : Option Nat) : (h.sfr f a v).ar = h.ar := id rfl
theorem pj_sfr_gi (h : Hp) (f a : Nat) (v : Option Nat) : (h.sfr f a v).gi = h.gi := id rfl
theorem pj_sfr_gl (h : Hp) (f a : Nat) (v : Option Nat) : (h.sfr f a v).gl = h.gl := id rfl
theorem pj_sfr_gr (h : Hp) (f a : Nat) (v : Option Nat) : (h.sfr f a v).gr = h.gr := id rfl
theorem pj_sfr_bi (h : Hp) (f a : Nat) (v : Option Nat) : (h.sfr f a v).bi = h.bi := id rfl
theorem pj_sfr_bw (h : Hp) (f a : Nat) (v : Option Nat) : (h.sfr f a v).bw = h.bw := id rfl
theorem pj_sgi_nx (h : Hp) (f a : Nat) (v : Int32) : (h.sgi f a v).nx = h.nx := id rfl
theorem pj_sgi_su (h : Hp) (f a : Nat) (v : Int32) : (h.sgi f a v).su = h.su := id rfl
theorem pj_sgi_se (h : Hp) (f a : Nat) (v : Int32) : (h.sgi f a v).se = h.se := id rfl
theorem pj_sgi_kd (h : Hp) (f a : Nat) (v : Int32) : (h.sgi f a v).kd = h.kd := id rfl
theorem pj_sgi_fi (h : Hp) (f a : Nat) (v : Int32) : (h.sgi f a v).fi = h.fi := id rfl
theorem pj_sgi_fl (h : Hp) (f a : Nat) (v : Int32) : (h.sgi f a v).fl = h.fl := id rfl
theorem pj_sgi_fr (h : Hp) (f a : Nat) (v : Int32) : (h.sgi f a v).fr = h.fr := id rfl
theorem pj_sgi_al (h : Hp) (f a : Nat) (v : Int32) : (h.sgi f a v).al = h.al := id rfl
theorem pj_sgi_ai (h : Hp) (f a : Nat) (v : Int32) : (h.sgi f a v).ai = h.ai := id rfl
theorem pj_sgi_aw (h : Hp) (f a : Nat) (v : Int32) : (h.sgi f a v).aw = h.aw := id rfl
theorem pj_sgi_ar (h : Hp) (f a : Nat) (v : Int32) : (h.sgi f a v).ar = h.ar := id rfl
theorem pj_sgi_gi (h : Hp) (f a : Nat) (v : Int32) (g b : Nat) : (h.sgi f a v).gi g b = if g = f then (if b = a then v else h.gi g b) else h.gi g b := by show va_up h.gi f (va_up (h.gi f) a v) g b = _; unfold va_up; by_cases q : g = f <;> simp [q]
theorem pj_sgi_gl (h : Hp) (f a : Nat) (v : Int32) : (h.sgi f a v).gl = h.gl := id rfl
theorem pj_sgi_gr (h : Hp) (f a : Nat) (v : Int32) : (h.sgi f a v).gr = h.gr := id rfl
theorem pj_sgi_bi (h : Hp) (f a : Nat) (v : Int32) : (h.sgi f a v).bi = h.bi := id rfl
theorem pj_sgi_bw (h : Hp) (f a : Nat) (v : Int32) : (h.sgi f a v).bw = h.bw := id rfl
theorem pj_sgl_nx (h : Hp) (f a : Nat) (v : Int64) : (h.sgl f a v).nx = h.nx := id rfl
theorem pj_sgl_su (h : Hp) (f a : Nat) (v : Int64) : (h.sgl f a v).su = h.su := id rfl
theorem pj_sgl_se (h : Hp) (f a : Nat) (v : Int64) : (h.sgl f a v).se = h.se := id rfl
theorem pj_sgl_kd (h : Hp) (f a : Nat) (v : Int64) : (h.sgl f a v).kd = h.kd := id rfl
theorem pj_sgl_fi (h : Hp) (f a : Nat) (v : Int64) : (h.sgl f a v).fi = h.fi := id rfl
theorem pj_sgl_fl (h : Hp) (f a : Nat) (v : Int64) : (h.sgl f a v).fl = h.fl := id rfl
theorem pj_sgl_fr (h : Hp) (f a : Nat) (v : Int64) : (h.sgl f a v).fr = h.fr := id rfl
theorem pj_sgl_al (h : Hp) (f a : Nat) (v : Int64) : (h.sgl f a v).al = h.al := id rfl
theorem pj_sgl_ai (h : Hp) (f a : Nat) (v : Int64) : (h.sgl f a v).ai = h.ai := id rfl
theorem pj_sgl_aw (h : Hp) (f a : Nat) (v : Int64) : (h.sgl f a v).aw = h.aw := id rfl
theorem pj_sgl_ar (h : Hp) (f a : Nat) (v : Int64) : (h.sgl f a v).ar = h.ar := id rfl
theorem pj_sgl_gi (h : Hp) (f a : Nat) (v : Int64) : (h.sgl f a v).gi = h.gi := id rfl
theorem pj_sgl_gl (h : Hp) (f a : Nat) (v : Int64) (g b : Nat) : (h.sgl f a v).gl g b = if g = f then (if b = a then v else h.gl g b) else h.gl g b := by show va_up h.gl f (va_up (h.gl f) a v) g b = _; unfold va_up; by_cases q : g = f <;> simp [q]
theorem pj_sgl_gr (h : Hp) (f a : Nat) (v : Int64) : (h.sgl f a v).gr = h.gr := id rfl
theorem pj_sgl_bi (h : Hp) (f a : Nat) (v : Int64) : (h.sgl f a v).bi = h.bi := id rfl
theorem pj_sgl_bw (h : Hp) (f a : Nat) (v : Int64) : (h.sgl f a v).bw = h.bw := id rfl
theorem pj_sgr_nx (h : Hp) (f a : Nat) (v : Option Nat) : (h.sgr f a v).nx = h.nx := id rfl
theorem pj_sgr_su (h : Hp) (f a : Nat) (v : Option Nat) : (h.sgr f a v).su = h.su := id rfl
theorem pj_sgr_se (h : Hp) (f a : Nat) (v : Option Nat) : (h.sgr f a v).se = h.se := id rfl
theorem pj_sgr_kd (h : Hp) (f a : Nat) (v : Option Nat) : (h.sgr f a v).kd = h.kd := id rfl
theorem pj_sgr_fi (h : Hp) (f a : Nat) (v : Option Nat) : (h.sgr f a v).fi = h.fi := id rfl
theorem pj_sgr_fl (h : Hp) (f a : Nat) (v : Option Nat) : (h.sgr f a v).fl = h.fl := id rfl
theorem pj_sgr_fr (h : Hp) (f a : Nat) (v : Option Nat) : (h.sgr f a v).fr = h.fr := id rfl
theorem pj_sgr_al (h : Hp) (f a : Nat) (v : Option Nat) : (h.sgr f a v).al = h.al := id rfl
theorem pj_sgr_ai (h : Hp) (f a : Nat) (v : Option Nat) : (h.sgr f a v).ai = h.ai := id rfl
theorem pj_sgr_aw (h : Hp) (f a : Nat) (v : Option Nat) : (h.sgr f a v).aw = h.aw := id rfl
theorem pj_sgr_ar (h : Hp) (f a : Nat) (v : Option Nat) : (h.sgr f a v).ar = h.ar := id rfl
theorem pj_sgr_gi (h : Hp) (f a : Nat) (v : Option Nat) : (h.sgr f a v).gi = h.gi := id rfl
theorem pj_sgr_gl (h : Hp) (f a : Nat) (v : Option Nat) : (h.sgr f a v).gl = h.gl := id rfl
theorem pj_sgr_gr (h : Hp) (f a : Nat) (v : Option Nat) (g b : Nat) : (h.sgr f a v).gr g b = if g = f then (if b = a then v else h.gr g b) else h.gr g b := by show va_up h.gr f (va_up (h.gr f) a v) g b = _; unfold va_up; by_cases q : g = f <;> simp [q]
theorem pj_sgr_bi (h : Hp) (f a : Nat) (v : Option Nat) : (h.sgr f a v).bi = h.bi := id rfl
theorem pj_sgr_bw (h : Hp) (f a : Nat) (v : Option Nat) : (h.sgr f a v).bw = h.bw := id rfl
theorem pj_sai_nx (h : Hp) (a i : Nat) (v : Int32) : (h.sai a i v).nx = h.nx := id rfl
theorem pj_sai_su (h : Hp) (a i : Nat) (v : Int32) : (h.sai a i v).su = h.su := id rfl
theorem pj_sai_se (h : Hp) (a i : Nat) (v : Int32) : (h.sai a i v).se = h.se := id rfl
theorem pj_sai_kd (h : Hp) (a i : Nat) (v : Int32) : (h.sai a i v).kd = h.kd := id rfl
theorem pj_sai_fi (h : Hp) (a i : Nat) (v : Int32) : (h.sai a i v).fi = h.fi := id rfl
theorem pj_sai_fl (h : Hp) (a i : Nat) (v : Int32) : (h.sai a i v).fl = h.fl := id rfl
theorem pj_sai_fr (h : Hp) (a i : Nat) (v : Int32) : (h.sai a i v).fr = h.fr := id rfl
theorem pj_sai_al (h : Hp) (a i : Nat) (v : Int32) : (h.sai a i v).al = h.al := id rfl
theorem pj_sai_ai (h : Hp) (a i : Nat) (v : Int32) (b j : Nat) : (h.sai a i v).ai b j = if b = a then (if j = i then v else h.ai b j) else h.ai b j := by show va_up h.ai a (va_up (h.ai a) i v) b j = _; unfold va_up; by_cases q : b = a <;> simp [q]
theorem pj_sai_aw (h : Hp) (a i : Nat) (v : Int32) : (h.sai a i v).aw = h.aw := id rfl
theorem pj_sai_ar (h : Hp) (a i : Nat) (v : Int32) : (h.sai a i v).ar = h.ar := id rfl
theorem pj_sai_gi (h : Hp) (a i : Nat) (v : Int32) : (h.sai a i v).gi = h.gi := id rfl
theorem pj_sai_gl (h : Hp) (a i : Nat) (v : Int32) : (h.sai a i v).gl = h.gl := id rfl
theorem pj_sai_gr (h : Hp) (a i : Nat) (v : Int32) : (h.sai a i v).gr = h.gr := id rfl
theorem pj_sai_bi (h : Hp) (a i : Nat) (v : Int32) : (h.sai a i v).bi = h.bi := id rfl
theorem pj_sai_bw (h : Hp) (a i : Nat) (v : Int32) : (h.sai a i v).bw = h.bw := id rfl
theorem pj_saw_nx (h : Hp) (a i : Nat) (v : Int64) : (h.saw a i v).nx = h.nx := id rfl
theorem pj_saw_su (h : Hp) (a i : Nat) (v : Int64) : (h.saw a i v).su = h.su := id rfl
theorem pj_saw_se (h : Hp) (a i : Nat) (v : Int64) : (h.saw a i v).se = h.se := id rfl
theorem pj_saw_kd (h : Hp) (a i : Nat) (v : Int64) : (h.saw a i v).kd = h.kd := id rfl
theorem pj_saw_fi (h : Hp) (a i : Nat) (v : Int64) : (h.saw a i v).fi = h.fi := id rfl
theorem pj_saw_fl (h : Hp) (a i : Nat) (v : Int64) : (h.saw a i v).fl = h.fl := id rfl
theorem pj_saw_fr (h : Hp) (a i : Nat) (v : Int64) : (h.saw a i v).fr = h.fr := id rfl
theorem pj_saw_al (h : Hp) (a i : Nat) (v : Int64) : (h.saw a i v).al = h.al := id rfl
theorem pj_saw_ai (h : Hp) (a i : Nat) (v : Int64) : (h.saw a i v).ai = h.ai := id rfl
theorem pj_saw_aw (h : Hp) (a i : Nat) (v : Int64) (b j : Nat) : (h.saw a i v).aw b j = if b = a then (if j = i then v else h.aw b j) else h.aw b j := by show va_up h.aw a (va_up (h.aw a) i v) b j = _; unfold va_up; by_cases q : b = a <;> simp [q]
theorem pj_saw_ar (h : Hp) (a i : Nat) (v : Int64) : (h.saw a i v).ar = h.ar := id rfl
theorem pj_saw_gi (h : Hp) (a i : Nat) (v : Int64) : (h.saw a i v).gi = h.gi := id rfl
theorem pj_saw_gl (h : Hp) (a i : Nat) (v : Int64) : (h.saw a i v).gl = h.gl := id rfl
theorem pj_saw_gr (h : Hp) (a i : Nat) (v : Int64) : (h.saw a i v).gr = h.gr := id rfl
theorem pj_saw_bi (h : Hp) (a i : Nat) (v : Int64) : (h.saw a i v).bi = h.bi := id rfl
theorem pj_saw_bw (h : Hp) (a i : Nat) (v : Int64) : (h.saw a i v).bw = h.bw := id rfl
theorem pj_sar_nx (h : Hp) (a i : Nat) (v : Option Nat) : (h.sar a i v).nx = h.nx := id rfl
theorem pj_sar_su (h : Hp) (a i : Nat) (v : Option Nat) : (h.sar a i v).su = h.su := id rfl
theorem pj_sar_se (h : Hp) (a i : Nat) (v : Option Nat) : (h.sar a i v).se = h.se := id rfl
theorem pj_sar_kd (h : Hp) (a i : Nat) (v : Option Nat) : (h.sar a i v).kd = h.kd := id rfl
theorem pj_sar_fi (h : Hp) (a i : Nat) (v : Option Nat) : (h.sar a i v).fi = h.fi := id rfl
theorem pj_sar_fl (h : Hp) (a i : Nat) (v : Option Nat) : (h.sar a i v).fl = h.fl := id rfl
theorem pj_sar_fr (h : Hp) (a i : Nat) (v : Option Nat) : (h.sar a i v).fr = h.fr := id rfl
theorem pj_sar_al (h : Hp) (a i : Nat) (v : Option Nat) : (h.sar a i v).al = h.al := id rfl
theorem pj_sar_ai (h : Hp) (a i : Nat) (v : Option Nat) : (h.sar a i v).ai = h.ai := id rfl
theorem pj_sar_aw (h : Hp) (a i : Nat) (v : Option Nat) : (h.sar a i v).aw = h.aw := id rfl
theorem pj_sar_ar (h : Hp) (a i : Nat) (v : Option Nat) (b j : Nat) : (h.sar a i v).ar b j = if b = a then (if j = i then v else h.ar b j) else h.ar b j := by show va_up h.ar a (va_up (h.ar a) i v) b j = _; unfold va_up; by_cases q : b = a <;> simp [q]
theorem pj_sar_gi (h : Hp) (a i : Nat) (v : Option Nat) : (h.sar a i v).gi = h.gi := id rfl
theorem pj_sar_gl (h : Hp) (a i : Nat) (v : Option Nat) : (h.sar a i v).gl = h.gl := id rfl
theorem pj_sar_gr (h : Hp) (a i : Nat) (v : Option Nat) : (h.sar a i v).gr = h.gr := id rfl
theorem pj_sar_bi (h : Hp) (a i : Nat) (v : Option Nat) : (h.sar a i v).bi = h.bi := id rfl
theorem pj_sar_bw (h : Hp) (a i : Nat) (v : Option Nat) : (h.sar a i v).bw = h.bw := id rfl
theorem pj_sbi_nx (h : Hp) (a i : Nat) (v : Int32) : (h.sbi a i v).nx = h.nx := id rfl
theorem pj_sbi_su (h : Hp) (a i : Nat) (v : Int32) : (h.sbi a i v).su = h.su := id rfl
theorem pj_sbi_se (h : Hp) (a i : Nat) (v : Int32) : (h.sbi a i v).se = h.se := id rfl
theorem pj_sbi_kd (h : Hp) (a i : Nat) (v : Int32) : (h.sbi a i v).kd = h.kd := id rfl
theorem pj_sbi_fi (h : Hp) (a i : Nat) (v : Int32) : (h.sbi a i v).fi = h.fi := id rfl
theorem pj_sbi_fl (h : Hp) (a i : Nat) (v : Int32) : (h.sbi a i v).fl = h.fl := id rfl
theorem pj_sbi_fr (h : Hp) (a i : Nat) (v : Int32) : (h.sbi a i v).fr = h.fr := id rfl
theorem pj_sbi_al (h : Hp) (a i : Nat) (v : Int32) : (h.sbi a i v).al = h.al := id rfl
theorem pj_sbi_ai (h : Hp) (a i : Nat) (v : Int32) : (h.sbi a i v).ai = h.ai := id rfl
theorem pj_sbi_aw (h : Hp) (a i : Nat) (v : Int32) : (h.sbi a i v).aw = h.aw := id rfl
theorem pj_sbi_ar (h : Hp) (a i : Nat) (v : Int32) : (h.sbi a i v).ar = h.ar := id rfl
theorem pj_sbi_gi (h : Hp) (a i : Nat) (v : Int32) : (h.sbi a i v).gi = h.gi := id rfl
theorem pj_sbi_gl (h : Hp) (a i : Nat) (v : Int32) : (h.sbi a i v).gl = h.gl := id rfl
theorem pj_sbi_gr (h : Hp) (a i : Nat) (v : Int32) : (h.sbi a i v).gr = h.gr := id rfl
theorem pj_sbi_bi (h : Hp) (a i : Nat) (v : Int32) (b j : Nat) : (h.sbi a i v).bi b j = if b = a then (if j = i then v else h.bi b j) else h.bi b j := by show va_up h.bi a (va_up (h.bi a) i v) b j = _; unfold va_up; by_cases q : b = a <;> simp [q]
theorem pj_sbi_bw (h : Hp) (a i : Nat) (v : Int32) : (h.sbi a i v).bw = h.bw := id rfl
theorem pj_sbw_nx (h : Hp) (a i : Nat) (v : Int64) : (h.sbw a i v).nx = h.nx := id rfl
theorem pj_sbw_su (h : Hp) (a i : Nat) (v : Int64) : (h.sbw a i v).su = h.su := id rfl
theorem pj_sbw_se (h : Hp) (a i : Nat) (v : Int64) : (h.sbw a i v).se = h.se := id rfl
theorem pj_sbw_kd (h : Hp) (a i : Nat) (v : Int64) : (h.sbw a i v).kd = h.kd := id rfl
theorem pj_sbw_fi (h : Hp) (a i : Nat) (v : Int64) : (h.sbw a i v).fi = h.fi := id rfl
theorem pj_sbw_fl (h : Hp) (a i : Nat) (v : Int64) : (h.sbw a i v).fl = h.fl := id rfl
theorem pj_sbw_fr (h : Hp) (a i : Nat) (v : Int64) : (h.sbw a i v).fr = h.fr := id rfl
theorem pj_sbw_al (h : Hp) (a i : Nat) (v : Int64) : (h.sbw a i v).al = h.al := id rfl
theorem pj_sbw_ai (h : Hp) (a i : Nat) (v : Int64) : (h.sbw a i v).ai = h.ai := id rfl
theorem pj_sbw_aw (h : Hp) (a i : Nat) (v : Int64) : (h.sbw a i v).aw = h.aw := id rfl
theorem pj_sbw_ar (h : Hp) (a i : Nat) (v : Int64) : (h.sbw a i v).ar = h.ar := id rfl
theorem pj_sbw_gi (h : Hp) (a i : Nat) (v : Int64) : (h.sbw a i v).gi = h.gi := id rfl
theorem pj_sbw_gl (h : Hp) (a i : Nat) (v : Int64) : (h.sbw a i v).gl = h.gl := id rfl
theorem pj_sbw_gr (h : Hp) (a i : Nat) (v : Int64) : (h.sbw a i v).gr = h.gr := id rfl
theorem pj_sbw_bi (h : Hp) (a i : Nat) (v : Int64) : (h.sbw a i v).bi = h.bi := id rfl
theorem pj_sbw_bw (h : Hp) (a i : Nat) (v : Int64) (b j : Nat) : (h.sbw a i v).bw b j = if b = a then (if j = i then v else h.bw b j) else h.bw b j := by show va_up h.bw a (va_up (h.bw a) i v) b j = _; unfold va_up; by_cases q : b = a <;> simp [q]
theorem pj_tai_nx (h : Hp) (a : Nat) (v : Nat → Int32) : (h.tai a v).nx = h.nx := id rfl
theorem pj_tai_su (h : Hp) (a : Nat) (v : Nat → Int32) : (h.tai a v).su = h.su := id rfl
theorem pj_tai_se (h : Hp) (a : Nat) (v : Nat → Int32) : (h.tai a v).se = h.se := id rfl
theorem pj_tai_kd (h : Hp) (a : Nat) (v : Nat → Int32) : (h.tai a v).kd = h.kd := id rfl
theorem pj_tai_fi (h : Hp) (a : Nat) (v : Nat → Int32) : (h.tai a v).fi = h.fi := id rfl
theorem pj_tai_fl (h : Hp) (a : Nat) (v : Nat → Int32) : (h.tai a v).fl = h.fl := id rfl
theorem pj_tai_fr (h : Hp) (a : Nat) (v : Nat → Int32) : (h.tai a v).fr = h.fr := id rfl
theorem pj_tai_al (h : Hp) (a : Nat) (v : Nat → Int32) : (h.tai a v).al = h.al := id rfl
theorem pj_tai_ai (h : Hp) (a : Nat) (v : Nat → Int32) (b : Nat) : (h.tai a v).ai b = if b = a then v else h.ai b := id rfl
theorem pj_tai_aw (h : Hp) (a : Nat) (v : Nat → Int32) : (h.tai a v).aw = h.aw := id rfl
theorem pj_tai_ar (h : Hp) (a : Nat) (v : Nat → Int32) : (h.tai a v).ar = h.ar := id rfl
theorem pj_tai_gi (h : Hp) (a : Nat) (v : Nat → Int32) : (h.tai a v).gi = h.gi := id rfl
theorem pj_tai_gl (h : Hp) (a : Nat) (v : Nat → Int32) : (h.tai a v).gl = h.gl := id rfl
theorem pj_tai_gr (h : Hp) (a : Nat) (v : Nat → Int32) : (h.tai a v).gr = h.gr := id rfl
theorem pj_tai_bi (h : Hp) (a : Nat) (v : Nat → Int32) : (h.tai a v).bi = h.bi := id rfl
theorem pj_tai_bw (h : Hp) (a : Nat) (v : Nat → Int32) : (h.tai a v).bw = h.bw := id rfl
theorem pj_tar_nx (h : Hp) (a : Nat) (v : Nat → Option Nat) : (h.tar a v).nx = h.nx := id rfl
theorem pj_tar_su (h : Hp) (a : Nat) (v : Nat → Option Nat) : (h.tar a v).su = h.su := id rfl
theorem pj_tar_se (h : Hp) (a : Nat) (v : Nat → Option Nat) : (h.tar a v).se = h.se := id rfl
theorem pj_tar_kd (h : Hp) (a : Nat) (v : Nat → Option Nat) : (h.tar a v).kd = h.kd := id rfl
theorem pj_tar_fi (h : Hp) (a : Nat) (v : Nat → Option Nat) : (h.tar a v).fi = h.fi := id rfl
theorem pj_tar_fl (h : Hp) (a : Nat) (v : Nat → Option Nat) : (h.tar a v).fl = h.fl := id rfl
theorem pj_tar_fr (h : Hp) (a : Nat) (v : Nat → Option Nat) : (h.tar a v).fr = h.fr := id rfl
theorem pj_tar_al (h : Hp) (a : Nat) (v : Nat → Option Nat) : (h.tar a v).al = h.al := id rfl
theorem pj_tar_ai (h : Hp) (a : Nat) (v : Nat → Option Nat) : (h.tar a v).ai = h.ai := id rfl
theorem pj_tar_aw (h : Hp) (a : Nat) (v : Nat → Option Nat) : (h.tar a v).aw = h.aw := id rfl
theorem pj_tar_ar (h : Hp) (a : Nat) (v : Nat → Option Nat) (b : Nat) : (h.tar a v).ar b = if b = a then v else h.ar b := id rfl
theorem pj_tar_gi (h : Hp) (a : Nat) (v : Nat → Option Nat) : (h.tar a v).gi = h.gi := id rfl
theorem pj_tar_gl (h : Hp) (a : Nat) (v : Nat → Option Nat) : (h.tar a v).gl = h.gl := id rfl
theorem pj_tar_gr (h : Hp) (a : Nat) (v : Nat → Option Nat) : (h.tar a v).gr = h.gr := id rfl
theorem pj_tar_bi (h : Hp) (a : Nat) (v : Nat → Option Nat) : (h.tar a v).bi = h.bi := id rfl
theorem pj_tar_bw (h : Hp) (a : Nat) (v : Nat → Option Nat) : (h.tar a v).bw = h.bw := id rfl
theorem pj_new_nx (h : Hp) (k n sl : Nat) : (h.new k n sl).nx = h.nx + 1 := id rfl
theorem pj_new_su (h : Hp) (k n sl : Nat) : (h.new k n sl).su = h.su + sl := id rfl
theorem pj_new_se (h : Hp) (k n sl : Nat) : (h.new k n sl).se = h.se := id rfl
theorem pj_new_kd (h : Hp) (k n sl b : Nat) : (h.new k n sl).kd b = if b = h.nx then k else h.kd b := id rfl
theorem pj_new_fi (h : Hp) (k n sl f b : Nat) : (h.new k n sl).fi f b = if b = h.nx then 0 else h.fi f b := id rfl
theorem pj_new_fl (h : Hp) (k n sl f b : Nat) : (h.new k n sl).fl f b = if b = h.nx then 0 else h.fl f b := id rfl
theorem pj_new_fr (h : Hp) (k n sl f b : Nat) : (h.new k n sl).fr f b = if b = h.nx then none else h.fr f b := id rfl
theorem pj_new_al (h : Hp) (k n sl b : Nat) : (h.new k n sl).al b = if b = h.nx then n else h.al b := id rfl
theorem pj_new_ai (h : Hp) (k n sl b : Nat) : (h.new k n sl).ai b = if b = h.nx then (fun _ => 0) else h.ai b := id rfl
theorem pj_new_aw (h : Hp) (k n sl b : Nat) : (h.new k n sl).aw b = if b = h.nx then (fun _ => 0) else h.aw b := id rfl
theorem pj_new_ar (h : Hp) (k n sl b : Nat) : (h.new k n sl).ar b = if b = h.nx then (fun _ => none) else h.ar b := id rfl
theorem pj_new_gi (h : Hp) (k n sl f b : Nat) : (h.new k n sl).gi f b = if b = h.nx then 0 else h.gi f b := id rfl
theorem pj_new_gl (h : Hp) (k n sl f b : Nat) : (h.new k n sl).gl f b = if b = h.nx then 0 else h.gl f b := id rfl
theorem pj_new_gr (h : Hp) (k n sl f b : Nat) : (h.new k n sl).gr f b = if b = h.nx then none else h.gr f b := id rfl
theorem pj_new_bi (h : Hp) (k n sl b : Nat) : (h.new k n sl).bi b = if b = h.nx then (fun _ => 0) else h.bi b := id rfl
theorem pj_new_bw (h : Hp) (k n sl b : Nat) : (h.new k n sl).bw b = if b = h.nx then (fun _ => 0) else h.bw b := id rfl
theorem dr_sfi {β : Type} (h : Hp) (f a : Nat) (v : Int32) (k : Nat) (x : Option Nat) (F : Nat → Option β) : dr (h.sfi f a v) k x F = dr h k x F := id rfl
theorem ok_sfi (h : Hp) (f a : Nat) (v : Int32) (x : Option Nat) : okV (h.sfi f a v) x = okV h x := id rfl
theorem dr_sfl {β : Type} (h : Hp) (f a : Nat) (v : Int64) (k : Nat) (x : Option Nat) (F : Nat → Option β) : dr (h.sfl f a v) k x F = dr h k x F := id rfl
theorem ok_sfl (h : Hp) (f a : Nat) (v : Int64) (x : Option Nat) : okV (h.sfl f a v) x = okV h x := id rfl
theorem dr_sfr {β : Type} (h : Hp) (f a : Nat) (v : Option Nat) (k : Nat) (x : Option Nat) (F : Nat → Option β) : dr (h.sfr f a v) k x F = dr h k x F := id rfl
theorem ok_sfr (h : Hp) (f a : Nat) (v : Option Nat) (x : Option Nat) : okV (h.sfr f a v) x = okV h x := id rfl
theorem dr_sgi {β : Type} (h : Hp) (f a : Nat) (v : Int32) (k : Nat) (x : Option Nat) (F : Nat → Option β) : dr (h.sgi f a v) k x F = dr h k x F := id rfl
theorem ok_sgi (h : Hp) (f a : Nat) (v : Int32) (x : Option Nat) : okV (h.sgi f a v) x = okV h x := id rfl
theorem dr_sgl {β : Type} (h : Hp) (f a : Nat) (v : Int64) (k : Nat) (x : Option Nat) (F : Nat → Option β) : dr (h.sgl f a v) k x F = dr h k x F := id rfl
theorem ok_sgl (h : Hp) (f a : Nat) (v : Int64) (x : Option Nat) : okV (h.sgl f a v) x = okV h x := id rfl
theorem dr_sgr {β : Type} (h : Hp) (f a : Nat) (v : Option Nat) (k : Nat) (x : Option Nat) (F : Nat → Option β) : dr (h.sgr f a v) k x F = dr h k x F := id rfl
theorem ok_sgr (h : Hp) (f a : Nat) (v : Option Nat) (x : Option Nat) : okV (h.sgr f a v) x = okV h x := id rfl
theorem dr_sai {β : Type} (h : Hp) (a i : Nat) (v : Int32) (k : Nat) (x : Option Nat) (F : Nat → Option β) : dr (h.sai a i v) k x F = dr h k x F := id rfl
theorem ok_sai (h : Hp) (a i : Nat) (v : Int32) (x : Option Nat) : okV (h.sai a i v) x = okV h x := id rfl
theorem dr_saw {β : Type} (h : Hp) (a i : Nat) (v : Int64) (k : Nat) (x : Option Nat) (F : Nat → Option β) : dr (h.saw a i v) k x F = dr h k x F := id rfl
theorem ok_saw (h : Hp) (a i : Nat) (v : Int64) (x : Option Nat) : okV (h.saw a i v) x = okV h x := id rfl
theorem dr_sar {β : Type} (h : Hp) (a i : Nat) (v : Option Nat) (k : Nat) (x : Option Nat) (F : Nat → Option β) : dr (h.sar a i v) k x F = dr h k x F := id rfl
theorem ok_sar (h : Hp) (a i : Nat) (v : Option Nat) (x : Option Nat) : okV (h.sar a i v) x = okV h x := id rfl
theorem dr_sbi {β : Type} (h : Hp) (a i : Nat) (v : Int32) (k : Nat) (x : Option Nat) (F : Nat → Option β) : dr (h.sbi a i v) k x F = dr h k x F := id rfl
theorem ok_sbi (h : Hp) (a i : Nat) (v : Int32) (x : Option Nat) : okV (h.sbi a i v) x = okV h x := id rfl
theorem dr_sbw {β : Type} (h : Hp) (a i : Nat) (v : Int64) (k : Nat) (x : Option Nat) (F : Nat → Option β) : dr (h.sbw a i v) k x F = dr h k x F := id rfl
theorem ok_sbw (h : Hp) (a i : Nat) (v : Int64) (x : Option Nat) : okV (h.sbw a i v) x = okV h x := id rfl
theorem dr_tai {β : Type} (h : Hp) (a : Nat) (v : Nat → Int32) (k : Nat) (x : Option Nat) (F : Nat → Option β) : dr (h.tai a v) k x F = dr h k x F := id rfl
theorem ok_tai (h : Hp) (a : Nat) (v : Nat → Int32) (x : Option Nat) : okV (h.tai a v) x = okV h x := id rfl
theorem dr_tar {β : Type} (h : Hp) (a : Nat) (v : Nat → Option Nat) (k : Nat) (x : Option Nat) (F : Nat → Option β) : dr (h.tar a v) k x F = dr h k x F := id rfl
theorem ok_tar (h : Hp) (a : Nat) (v : Nat → Option Nat) (x : Option Nat) : okV (h.tar a v) x = okV h x := id rfl
/-! who belongs to whom: g says to which object a cell belongs; a root belongs to itself -/
def it (g : Nat → Nat) : Nat → Nat → Nat
  | 0, a => a
  | n + 1, a => it g n (g a)
/-- a lies under p -/
def Un (g : Nat → Nat) (p a : Nat) : Prop := ∃ n, it g n a = p
theorem Un.rf (g : Nat → Nat) (p : Nat) : Un g p p := ⟨0, rfl⟩
theorem Un.up {g : Nat → Nat} {p a : Nat} (q : Un g p (g a)) : Un g p a := q.elim fun n e => ⟨n + 1, e⟩
theorem Un.ch {g : Nat → Nat} {p a : Nat} (e : g a = p) : Un g p a := ⟨1, e⟩
theorem un_step {g : Nat → Nat} {p a : Nat} (q : Un g p a) : a = p ∨ Un g p (g a) := by
  obtain ⟨n, e⟩ := q
  cases n with
  | zero => exact Or.inl e
  | succ n => exact Or.inr ⟨n, e⟩
theorem it_add (g : Nat → Nat) : ∀ m n a, it g (m + n) a = it g n (it g m a) := by
  intro m
  induction m with
  | zero => intro n a; rw [Nat.zero_add]; rfl
  | succ m ih => intro n a; rw [Nat.add_right_comm]; exact ih n (g a)
theorem Un.tr {g : Nat → Nat} {p q a : Nat} (x : Un g q a) (y : Un g p q) : Un g p a := by
  obtain ⟨m, e⟩ := x
  obtain ⟨n, e2⟩ := y
  exact ⟨m + n, by rw [it_add, e]; exact e2⟩
theorem nun {g : Nat → Nat} {p a : Nat} (n1 : a ≠ p) (n2 : ¬ Un g p (g a)) : ¬ Un g p a := fun q => (un_step q).elim n1 n2
theorem it_root {g : Nat → Nat} {a : Nat} (hr : g a = a) : ∀ n, it g n a = a := by
  intro n
  induction n with
  | zero => rfl
  | succ n ih => show it g n (g a) = a; rw [hr]; exact ih
theorem nun_root {g : Nat → Nat} {p a : Nat} (hr : g a = a) (n1 : a ≠ p) : ¬ Un g p a := fun q => by
  obtain ⟨n, e⟩ := q
  rw [it_root hr] at e
  exact n1 e
/-- neither lies under the other -/
def Sep (g : Nat → Nat) (p q : Nat) : Prop := ¬ Un g p q ∧ ¬ Un g q p
theorem Sep.sy {g : Nat → Nat} {p q : Nat} (s : Sep g p q) : Sep g q p := ⟨s.2, s.1⟩
theorem Sep.ch {g : Nat → Nat} {p q c : Nat} (s : Sep g p q) (e : g c = q) : Sep g p c := ⟨fun u => (un_step u).elim (fun z => s.2 (by rw [← z]; exact Un.ch e)) (fun u => s.1 (by rw [e] at u; exact u)), fun u => s.2 (u.tr (Un.ch e))⟩
theorem Sep.un {g : Nat → Nat} {p q c : Nat} (s : Sep g p q) (u : Un g q c) : Sep g p c := by
  obtain ⟨n, e⟩ := u
  induction n generalizing c with
  | zero => rw [show c = q from e]; exact s
  | succ n ih => exact (ih e).ch rfl
theorem Sep.ne {g : Nat → Nat} {p q : Nat} (s : Sep g p q) : p ≠ q := fun e => s.1 (by rw [e]; exact Un.rf g q)
theorem sep_roots {g : Nat → Nat} {p q : Nat} (hp : g p = p) (hq : g q = q) (n : p ≠ q) : Sep g p q := ⟨nun_root hq (Ne.symm n), nun_root hp n⟩
/-- nothing behind the end; the static empty array isn't ours; an owner is elder -/
def Wf (g : Nat → Nat) (h : Hp) : Prop := (∀ a, h.nx ≤ a → h.kd a = 0) ∧ h.kd h.se.1 = 0 ∧ h.se.1 < h.nx ∧ (∀ a, g a ≤ a) ∧ ∀ a, h.nx ≤ a → g a = a
theorem Wf.lt {g : Nat → Nat} {h : Hp} (w : Wf g h) {a k : Nat} (hk : h.kd a = k) (h0 : k ≠ 0) : a < h.nx := Nat.lt_of_not_le fun q => h0 (hk ▸ w.1 a q)
theorem it_le {g : Nat → Nat} (w : ∀ a, g a ≤ a) : ∀ n a, it g n a ≤ a := by
  intro n
  induction n with
  | zero => intro a; exact Nat.le_refl _
  | succ n ih => intro a; exact Nat.le_trans (ih _) (w a)
theorem un_le {g : Nat → Nat} {h : Hp} (w : Wf g h) {p a : Nat} (u : Un g p a) : p ≤ a := by
  obtain ⟨n, e⟩ := u
  rw [← e]
  exact it_le w.2.2.2.1 n a
theorem un_lt {g : Nat → Nat} {h : Hp} (w : Wf g h) {p a : Nat} (ha : a < h.nx) (u : Un g p a) : p < h.nx := Nat.lt_of_le_of_lt (un_le w u) ha
/-- two that belong to the same third -/
theorem sep_sib {g : Nat → Nat} {h : Hp} (w : Wf g h) {p q r : Nat} (hp : g p = r) (hq : g q = r) (n : p ≠ q) (n1 : p ≠ r) (n2 : q ≠ r) : Sep g p q := by
  have a1 := w.2.2.2.1 p
  have a2 := w.2.2.2.1 q
  exact ⟨nun (Ne.symm n) (by rw [hq]; intro u; have := un_le w u; omega), nun n (by rw [hp]; intro u; have := un_le w u; omega)⟩
/-- a new thing is apart from the old ones -/
theorem sep_ge {g : Nat → Nat} {h : Hp} (w : Wf g h) {p s : Nat} (hp : h.nx ≤ p) (hs : s < h.nx) : Sep g p s := ⟨fun u => by have := un_le w u; omega, nun_root (w.2.2.2.2 p hp) (by omega)⟩
theorem kd_ge {g : Nat → Nat} {h : Hp} (w : Wf g h) {p k : Nat} (hp : h.nx ≤ p) (hk : k ≠ 0) : h.kd p ≠ k := fun z => hk (by rw [← z]; exact w.1 p hp)
/-- all that class code can write of the cell at b is the same -/
def AgC (h h' : Hp) (b : Nat) : Prop := (∀ f, h'.fi f b = h.fi f b) ∧ (∀ f, h'.fl f b = h.fl f b) ∧ (∀ f, h'.fr f b = h.fr f b) ∧ h'.ai b = h.ai b ∧ h'.aw b = h.aw b ∧ h'.ar b = h.ar b
theorem AgA.c {h h' : Hp} {b : Nat} (p : AgA h h' b) : AgC h h' b := ⟨p.1, p.2.1, p.2.2.1, p.2.2.2.2.1, p.2.2.2.2.2.1, p.2.2.2.2.2.2.1⟩
theorem AgC.rf (h : Hp) (a : Nat) : AgC h h a := ⟨fun _ => rfl, fun _ => rfl, fun _ => rfl, rfl, rfl, rfl⟩
theorem AgC.tr {h1 h2 h3 : Hp} {a : Nat} (p : AgC h1 h2 a) (q : AgC h2 h3 a) : AgC h1 h3 a := by
  obtain ⟨p1, p2, p3, p4, p5, p6⟩ := p
  obtain ⟨q1, q2, q3, q4, q5, q6⟩ := q
  exact ⟨fun f => (q1 f).trans (p1 f), fun f => (q2 f).trans (p2 f), fun f => (q3 f).trans (p3 f), q4.trans p4, q5.trans p5, q6.trans p6⟩
theorem AgC.fi {h h' : Hp} {a : Nat} (p : AgC h h' a) (f : Nat) : h'.fi f a = h.fi f a := p.1 f
theorem AgC.fl {h h' : Hp} {a : Nat} (p : AgC h h' a) (f : Nat) : h'.fl f a = h.fl f a := p.2.1 f
theorem AgC.fr {h h' : Hp} {a : Nat} (p : AgC h h' a) (f : Nat) : h'.fr f a = h.fr f a := p.2.2.1 f
theorem AgC.ai {h h' : Hp} {a : Nat} (p : AgC h h' a) : h'.ai a = h.ai a := p.2.2.2.1
theorem AgC.aw {h h' : Hp} {a : Nat} (p : AgC h h' a) : h'.aw a = h.aw a := p.2.2.2.2.1
theorem AgC.ar {h h' : Hp} {a : Nat} (p : AgC h h' a) : h'.ar a = h.ar a := p.2.2.2.2.2
/-- from h to h' only cells under p have changed, and new ones have come -/
def Fr (g g' : Nat → Nat) (p : Nat) (h h' : Hp) : Prop := (∀ a, a < h.nx → g' a = g a) ∧ (∀ a, a < h.nx → ¬ Un g p a → AgC h h' a) ∧ Mo h h' ∧ Wf g' h'
theorem Fr.rf {g : Nat → Nat} {h : Hp} (w : Wf g h) (p : Nat) : Fr g g p h h := ⟨fun _ _ => rfl, fun a _ _ => AgC.rf h a, Mo.rf h, w⟩
theorem Fr.itq {g g' : Nat → Nat} {p : Nat} {h h' : Hp} (F : Fr g g' p h h') (w : Wf g h) : ∀ n a, a < h.nx → it g' n a = it g n a := by
  intro n
  induction n with
  | zero => intro a _; rfl
  | succ n ih =>
    intro a ha
    show it g' n (g' a) = it g n (g a)
    rw [F.1 a ha]
    exact ih _ (Nat.lt_of_le_of_lt (w.2.2.2.1 a) ha)
theorem Fr.un {g g' : Nat → Nat} {p : Nat} {h h' : Hp} (F : Fr g g' p h h') (w : Wf g h) {q a : Nat} (ha : a < h.nx) : Un g' q a ↔ Un g q a := ⟨fun u => u.elim fun n e => ⟨n, by rw [← F.itq w n a ha]; exact e⟩, fun u => u.elim fun n e => ⟨n, by rw [F.itq w n a ha]; exact e⟩⟩
theorem Fr.sep {g g' : Nat → Nat} {p : Nat} {h h' : Hp} (F : Fr g g' p h h') (w : Wf g h) {a b : Nat} (ha : a < h.nx) (hb : b < h.nx) (s : Sep g a b) : Sep g' a b := ⟨fun u => s.1 ((F.un w hb).mp u), fun u => s.2 ((F.un w ha).mp u)⟩
/-- one change behind another; what the second touches of old cells lies under p too -/
theorem Fr.trq {g1 g2 g3 : Nat → Nat} {p q : Nat} {h1 h2 h3 : Hp} (P : Fr g1 g2 p h1 h2) (w : Wf g1 h1) (Q : Fr g2 g3 q h2 h3) (hq : ∀ a, a < h1.nx → Un g1 q a → Un g1 p a) : Fr g1 g3 p h1 h3 := by
  have lt : ∀ a, a < h1.nx → a < h2.nx := fun a ha => Nat.lt_of_lt_of_le ha P.2.2.1.2.1
  exact ⟨fun a ha => (Q.1 a (lt a ha)).trans (P.1 a ha), fun a ha n => (P.2.1 a ha n).tr (Q.2.1 a (lt a ha) (fun u => n (hq a ha ((P.un w ha).mp u)))), P.2.2.1.tr Q.2.2.1, Q.2.2.2⟩
theorem Fr.tr {g1 g2 g3 : Nat → Nat} {p : Nat} {h1 h2 h3 : Hp} (P : Fr g1 g2 p h1 h2) (w : Wf g1 h1) (Q : Fr g2 g3 p h2 h3) : Fr g1 g3 p h1 h3 := P.trq w Q (fun _ _ u => u)
/-- the second touches what is under a thing that lies under p -/
theorem Fr.tru {g1 g2 g3 : Nat → Nat} {p q : Nat} {h1 h2 h3 : Hp} (P : Fr g1 g2 p h1 h2) (w : Wf g1 h1) (Q : Fr g2 g3 q h2 h3) (u : Un g1 p q) : Fr g1 g3 p h1 h3 := P.trq w Q (fun _ _ x => x.tr u)
/-- the second touches new things alone -/
theorem Fr.trn {g1 g2 g3 : Nat → Nat} {p q : Nat} {h1 h2 h3 : Hp} (P : Fr g1 g2 p h1 h2) (w : Wf g1 h1) (Q : Fr g2 g3 q h2 h3) (hn : h1.nx ≤ q) : Fr g1 g3 p h1 h3 := P.trq w Q (fun a ha u => absurd (un_lt w ha u) (Nat.not_lt.mpr hn))
theorem Fr.mono {g g' : Nat → Nat} {p q : Nat} {h h' : Hp} (P : Fr g g' p h h') (u : Un g q p) : Fr g g' q h h' := ⟨P.1, fun a ha n => P.2.1 a ha (fun z => n (z.tr u)), P.2.2⟩
/-- what touches new things alone is a change under anything -/
theorem Fr.any {g g' : Nat → Nat} {p : Nat} {h h' : Hp} (P : Fr g g' p h h') (w : Wf g h) (hn : h.nx ≤ p) (q : Nat) : Fr g g' q h h' := ⟨P.1, fun a ha _ => P.2.1 a ha (fun z => absurd (un_lt w ha z) (Nat.not_lt.mpr hn)), P.2.2⟩
theorem Fr.wf {g g' : Nat → Nat} {p : Nat} {h h' : Hp} (F : Fr g g' p h h') : Wf g' h' := F.2.2.2
theorem Fr.mo {g g' : Nat → Nat} {p : Nat} {h h' : Hp} (F : Fr g g' p h h') : Mo h h' := F.2.2.1
theorem Fr.nx {g g' : Nat → Nat} {p : Nat} {h h' : Hp} (F : Fr g g' p h h') : h.nx ≤ h'.nx := F.2.2.1.2.1
theorem Fr.lt {g g' : Nat → Nat} {p : Nat} {h h' : Hp} (F : Fr g g' p h h') {a : Nat} (ha : a < h.nx) : a < h'.nx := Nat.lt_of_lt_of_le ha F.2.2.1.2.1
theorem Fr.se {g g' : Nat → Nat} {p : Nat} {h h' : Hp} (F : Fr g g' p h h') : h'.se = h.se := F.2.2.1.2.2.2.1
theorem Fr.kd {g g' : Nat → Nat} {p : Nat} {h h' : Hp} (F : Fr g g' p h h') (w : Wf g h) {a k : Nat} (hk : h.kd a = k) (h0 : k ≠ 0) : h'.kd a = k := (F.2.2.1.1 a (w.lt hk h0)).trans hk
theorem Fr.al {g g' : Nat → Nat} {p : Nat} {h h' : Hp} (F : Fr g g' p h h') (w : Wf g h) {a k : Nat} (hk : h.kd a = k) (h0 : k ≠ 0) : h'.al a = h.al a := F.2.2.1.2.2.2.2 a (w.lt hk h0)
theorem Fr.gg {g g' : Nat → Nat} {p : Nat} {h h' : Hp} (F : Fr g g' p h h') (w : Wf g h) {a k : Nat} (hk : h.kd a = k) (h0 : k ≠ 0) : g' a = g a := F.1 a (w.lt hk h0)
theorem Fr.ag {g g' : Nat → Nat} {p : Nat} {h h' : Hp} (F : Fr g g' p h h') (w : Wf g h) {a k : Nat} (hk : h.kd a = k) (h0 : k ≠ 0) (s : ¬ Un g p a) : AgC h h' a := F.2.1 a (w.lt hk h0) s
/-- a write into a cell under p -/
theorem Fr.wr {g : Nat → Nat} {p a : Nat} {h h' : Hp} (w : Wf g h) (u : Un g p a) (e1 : h'.nx = h.nx) (e2 : h.su ≤ h'.su) (e3 : h'.se = h.se) (e4 : h'.kd = h.kd) (e5 : h'.al = h.al) (ag : ∀ b, b ≠ a → AgC h h' b) : Fr g g p h h' := ⟨fun _ _ => rfl, fun b _ n => ag b (fun z => n (by rw [z]; exact u)), ⟨fun b _ => by rw [e4], by rw [e1]; exact Nat.le_refl _, e2, e3, fun b _ => by rw [e5]⟩, fun b hb => by rw [e4]; exact w.1 b (by rw [← e1]; exact hb), by rw [e3, e4]; exact w.2.1, by rw [e3, e1]; exact w.2.2.1, w.2.2.2.1, fun b hb => w.2.2.2.2 b (by rw [← e1]; exact hb)⟩
theorem Fr.sfi {g : Nat → Nat} {p a : Nat} {h : Hp} (w : Wf g h) (u : Un g p a) (f : Nat) (v : Int32) : Fr g g p h (h.sfi f a v) := Fr.wr w u rfl (Nat.le_refl _) rfl rfl rfl (fun _ n => (ag_sfi h f a v n).c)
theorem Fr.sfl {g : Nat → Nat} {p a : Nat} {h : Hp} (w : Wf g h) (u : Un g p a) (f : Nat) (v : Int64) : Fr g g p h (h.sfl f a v) := Fr.wr w u rfl (Nat.le_refl _) rfl rfl rfl (fun _ n => (ag_sfl h f a v n).c)
theorem Fr.sfr {g : Nat → Nat} {p a : Nat} {h : Hp} (w : Wf g h) (u : Un g p a) (f : Nat) (v : Option Nat) : Fr g g p h (h.sfr f a v) := Fr.wr w u rfl (Nat.le_refl _) rfl rfl rfl (fun _ n => (ag_sfr h f a v n).c)
theorem Fr.sai {g : Nat → Nat} {p a : Nat} {h : Hp} (w : Wf g h) (u : Un g p a) (i : Nat) (v : Int32) : Fr g g p h (h.sai a i v) := Fr.wr w u rfl (Nat.le_refl _) rfl rfl rfl (fun _ n => (ag_sai h a i v n).c)
theorem Fr.saw {g : Nat → Nat} {p a : Nat} {h : Hp} (w : Wf g h) (u : Un g p a) (i : Nat) (v : Int64) : Fr g g p h (h.saw a i v) := Fr.wr w u rfl (Nat.le_refl _) rfl rfl rfl (fun _ n => (ag_saw h a i v n).c)
theorem Fr.sar {g : Nat → Nat} {p a : Nat} {h : Hp} (w : Wf g h) (u : Un g p a) (i : Nat) (v : Option Nat) : Fr g g p h (h.sar a i v) := Fr.wr w u rfl (Nat.le_refl _) rfl rfl rfl (fun _ n => (ag_sar h a i v n).c)
theorem Fr.tai {g : Nat → Nat} {p a : Nat} {h : Hp} (w : Wf g h) (u : Un g p a) (f : Nat → Int32) : Fr g g p h (h.tai a f) := Fr.wr w u rfl (Nat.le_refl _) rfl rfl rfl (fun _ n => (ag_tai h a f n).c)
theorem Fr.tar {g : Nat → Nat} {p a : Nat} {h : Hp} (w : Wf g h) (u : Un g p a) (f : Nat → Option Nat) : Fr g g p h (h.tar a f) := Fr.wr w u rfl (Nat.le_refl _) rfl rfl rfl (fun _ n => (ag_tar h a f n).c)
/-- a new cell, which belongs to o -/
theorem Fr.new {g : Nat → Nat} {h : Hp} (w : Wf g h) (p k n sl o : Nat) (ho : o ≤ h.nx) : Fr g (va_up g h.nx o) p h (h.new k n sl) := by
  refine ⟨fun a ha => va_up_ne _ _ (Nat.ne_of_lt ha), fun a ha _ => (ag_new h k n sl (Nat.ne_of_lt ha)).c, Mo.new h k n sl, fun a ha => ?_, ?_, Nat.lt_succ_of_lt w.2.2.1, fun a => ?_, fun a ha => ?_⟩
  · have ha : h.nx + 1 ≤ a := ha
    show va_up h.kd h.nx k a = 0
    rw [va_up_ne _ _ (by omega)]
    exact w.1 a (by omega)
  · show va_up h.kd h.nx k h.se.1 = 0
    rw [va_up_ne _ _ (Nat.ne_of_lt w.2.2.1)]
    exact w.2.1
  · by_cases q : a = h.nx
    · rw [q, va_up_self]; exact ho
    · rw [va_up_ne _ _ q]
      exact w.2.2.2.1 a
  · have ha : h.nx + 1 ≤ a := ha
    rw [va_up_ne _ _ (by omega)]
    exact w.2.2.2.2 a (by omega)
theorem new_kd {h : Hp} {k n sl : Nat} : (h.new k n sl).kd h.nx = k := va_up_self _ _ _
theorem new_ne {h : Hp} {a k n sl : Nat} (ha : a ≠ h.nx) : (h.new k n sl).kd a = h.kd a := va_up_ne _ _ ha
theorem new_kd_ne {g : Nat → Nat} {h : Hp} (w : Wf g h) {a k0 k n sl : Nat} (hk : h.kd a = k0) (h0 : k0 ≠ 0) : (h.new k n sl).kd a = k0 := (va_up_ne _ _ (Nat.ne_of_lt (w.lt hk h0))).trans hk
theorem ne_kd {h : Hp} {a b k k' : Nat} (ha : h.kd a = k) (hb : h.kd b = k') (n : k ≠ k') : a ≠ b := fun z => n (by rw [← ha, ← hb, z])
theorem ni_m (x : Int32) : x + (-1 : Int32) = x - 1 := (Int32.sub_eq_add_neg x 1).symm
theorem ix_ok2 {i n : Nat} (hi : i < n) (hn : n < 2147483648) : ¬ (nI i < 0 ∨ n ≤ i) := fun q => q.elim (ni_nn (by omega)) (fun q => by omega)
