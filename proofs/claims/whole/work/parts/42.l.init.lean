/-! the object is made -/
/-- in the making: X's references so far -/
def XR (g : Nat → Nat) (h : Hp) (X : Nat) (L : List (Nat × Nat)) : Prop := h.kd X = 12 ∧ g X = X ∧ ∀ y ∈ L, h.fr y.1 X = some y.2
theorem XR.two {g g' : Nat → Nat} {h h1 : Hp} {X r f v : Nat} {L : List (Nat × Nat)} (q : XR g h X L) (w : Wf g h) (F1 : Fr g g' r h h1) (hr : h.nx ≤ r) (hf : ∀ y ∈ L, y.1 ≠ f) : XR g' (h1.sfr f X (some v)) X ((f, v) :: L) := by
  have hX := w.lt q.1 (by decide)
  have ag := F1.ag w q.1 (by decide) (sep_ge w hr hX).1
  refine ⟨F1.kd w q.1 (by decide), (F1.1 X hX).trans q.2.1, fun y hy => ?_⟩
  rcases List.mem_cons.mp hy with e | e
  · rw [e]; exact fr_same
  · rw [fr_oth (hf y e), ag.fr]
    exact q.2.2 y e
theorem KL.two {g g' : Nat → Nat} {h h1 : Hp} {X r f l : Nat} {v : Option Nat} {xs : List Nat} (q : KL g h l xs) (w : Wf g h) (F1 : Fr g g' r h h1) (hr : h.nx ≤ r) (kX : h1.kd X = 12) (gX : g' X = X) : KL g' (h1.sfr f X v) l xs := by
  have q1 := q.fr w F1 (rt_new (scr := 0) w hr).1 (fun z => by have := w.lt q.2.1 (by decide); omega)
  exact q1.fr F1.wf (Fr.sfr F1.wf (Un.rf g' X) f v) gX (ne_kd q1.2.1 kX (by decide))
theorem KS.two {g g' : Nat → Nat} {h h1 : Hp} {X r f : Nat} {v : Option Nat} {p : Nat → Nat} {B : Shf} {V : List Kv} (q : KS g h p B V) (w : Wf g h) (F1 : Fr g g' r h h1) (hr : h.nx ≤ r) (kX : h1.kd X = 12) (gX : g' X = X) : KS g' (h1.sfr f X v) p B V := by
  have q1 := q.fr w F1 (rt_new (scr := 0) w hr).1 (kd_ge w hr (by decide)) (fun z => by have := w.lt q.2.1.1 (by decide); omega)
  exact q1.fr F1.wf (Fr.sfr F1.wf (Un.rf g' X) f v) gX (by rw [kX]; decide) (ne_kd q1.2.1.1 kX (by decide))
theorem KA.two {g g' : Nat → Nat} {h h1 : Hp} {X r f a m : Nat} {v : Option Nat} {F : Nat → Int32} (q : KA g h a m F) (w : Wf g h) (F1 : Fr g g' r h h1) (hr : h.nx ≤ r) (kX : h1.kd X = 12) : KA g' (h1.sfr f X v) a m F := by
  have q1 := q.fr w F1 (fun z => by have := w.lt q.1 (by decide); omega)
  exact q1.fr F1.wf (Fr.sfr F1.wf (Un.rf g' X) f v) (ne_kd q1.1 kX (by decide))
theorem An.two {g g' : Nat → Nat} {h h1 : Hp} {X r f a n ka va : Nat} {v : Option Nat} {d : AnD} (q : An g h a n ka va d) (w : Wf g h) (F1 : Fr g g' r h h1) (hr : h.nx ≤ r) (kX : h1.kd X = 12) (gX : g' X = X) : An g' (h1.sfr f X v) a n ka va d := by
  have q1 := q.rt w F1 (rt_new (scr := 0) w hr).1 (fun z => by have := w.lt q.1 (by decide); omega)
  exact q1.rt F1.wf (Fr.sfr F1.wf (Un.rf g' X) f v) gX (ne_kd q1.1 kX (by decide))
/-- a new list, a root -/
theorem mk_list {g : Nat → Nat} {h : Hp} {X : Nat} (w : Wf g h) (kX : h.kd X = 12) (N f : Nat) (hf : f ≠ 201) : ∃ h1, J_Jx4a65c_init_da8c8 N h.nx (h.new 2 0 3) = some (h1, ()) ∧ Fr g (va_up g h.nx h.nx) h.nx h h1 ∧ h1.kd X = 12 ∧ KL (va_up g h.nx h.nx) (h1.sfr f X (some h.nx)) h.nx [] ∧ cap (h1.sfr f X (some h.nx)) h.nx = 0 ∧ Wf (va_up g h.nx h.nx) (h1.sfr f X (some h.nx)) ∧ (h1.sfr f X (some h.nx)).nx = h.nx + 1 ∧ (h1.sfr f X (some h.nx)).su = h.su + 3 := by
  have F1 := Fr.new w h.nx 2 0 3 h.nx (Nat.le_refl _)
  obtain ⟨h1, b1, b2, b3, b4, b5, b6⟩ := al_init (g := va_up g h.nx h.nx) (h := h.new 2 0 3) (l := h.nx) (new_kd (n := 0) (sl := 3)) (by rw [pj_new_fi, if_pos rfl]) F1.wf N
  have F2 := F1.tr w b3
  have k1 := F2.kd w kX (by decide)
  refine ⟨h1, b1, F2, k1, ⟨va_up_self _ _ _, b2.sfr (Or.inr hf)⟩, by rw [cap_sfr _ _ _ _ _ hf]; exact b4, (Fr.sfr F2.wf (Un.rf _ X) f _).wf, ?_, ?_⟩
  · rw [pj_sfr_nx, b5]; rfl
  · rw [pj_sfr_su, b6]; rfl
/-- a new array of ints, a root -/
theorem mk_ints {g : Nat → Nat} {h : Hp} {X : Nat} (w : Wf g h) (kX : h.kd X = 12) (n f : Nat) : Fr g (va_up g h.nx h.nx) h.nx h (h.new 20 n n) ∧ (h.new 20 n n).kd X = 12 ∧ KA (va_up g h.nx h.nx) ((h.new 20 n n).sfr f X (some h.nx)) h.nx n (fun _ => 0) ∧ Wf (va_up g h.nx h.nx) ((h.new 20 n n).sfr f X (some h.nx)) ∧ ((h.new 20 n n).sfr f X (some h.nx)).nx = h.nx + 1 ∧ ((h.new 20 n n).sfr f X (some h.nx)).su = h.su + n := by
  have F1 := Fr.new w h.nx 20 n n h.nx (Nat.le_refl _)
  have k1 := F1.kd w kX (by decide)
  refine ⟨F1, k1, ⟨?_, va_up_self _ _ _, ?_, fun i => ?_⟩, (Fr.sfr F1.wf (Un.rf _ X) f _).wf, rfl, rfl⟩
  · rw [pj_sfr_kd]; exact new_kd
  · rw [pj_sfr_al, pj_new_al, if_pos rfl]
  · rw [pj_sfr_ai, pj_new_ai, if_pos rfl]
theorem kr_init {g : Nat → Nat} {h : Hp} {X : Nat} (w : Wf g h) (kX : h.kd X = 12) (gX : g X = X) (N : Nat) (D : Nat → TD) : ∃ h' g' p G d0, J_X9_init N X h = some (h', ()) ∧ p 11 = X ∧ Kr g' h' p G 0 none [] [] [] D [] [] [] (fun _ => 0) (fun _ => 0) d0 [] 0 ∧ Wf g' h' ∧ G 1208 = 0 ∧ G 1209 = 0 ∧ G 1212 = 0 ∧ G 1213 = 0 ∧ h'.nx = h.nx + 11 ∧ h'.su = h.su + 236 := by
  -- the store
  have F0 := Fr.new w h.nx 8 0 1 h.nx (Nat.le_refl _)
  have k0 : (h.new 8 0 1).kd h.nx = 8 := new_kd (n := 0) (sl := 1)
  obtain ⟨h1, a1, a2, a3, a4, a5, a6⟩ := sh_init (g := va_up g h.nx h.nx) k0 F0.wf N
  have nx0 : (h.new 8 0 1).nx = h.nx + 1 := rfl
  have su0 : (h.new 8 0 1).su = h.su + 1 := rfl
  rw [nx0] at a2 a3 a4 a5
  have F1 := F0.tr w a3
  have gS1 : va_up (va_up g h.nx h.nx) (h.nx + 1) h.nx h.nx = h.nx := by rw [va_up_ne _ _ (by omega), va_up_self]
  have kX1 := F1.kd w kX (by decide)
  have hX := w.lt kX (by decide)
  have gX1 : va_up (va_up g h.nx h.nx) (h.nx + 1) h.nx X = X := (F1.1 X hX).trans gX
  have x1 : XR (va_up (va_up g h.nx h.nx) (h.nx + 1) h.nx) (h1.sfr 1200 X (some h.nx)) X [(1200, h.nx)] := XR.two (L := []) ⟨kX, gX, fun y hy => absurd hy List.not_mem_nil⟩ w F1 (Nat.le_refl _) (fun y hy => absurd hy List.not_mem_nil)
  have w1 := (Fr.sfr F1.wf (Un.rf _ X) 1200 (some h.nx)).wf
  have s1 : Sh (va_up (va_up g h.nx h.nx) (h.nx + 1) h.nx) (h1.sfr 1200 X (some h.nx)) h.nx (h.nx + 1) [] := sh_nil a2.1 ((fr_oth (by decide)).trans a2.2.1) a2.2.2.1 ((sh_nil_al a2).sfr (Or.inr (by decide)))
  have nx1 : (h1.sfr 1200 X (some h.nx)).nx = h.nx + 2 := a5
  have su1 : (h1.sfr 1200 X (some h.nx)).su = h.su + 4 := by rw [pj_sfr_su, a6, su0]
  have t1 : ∀ {z : Option (Hp × Unit)}, B_X9_init_19 N X ((h1.sfr 1200 X (some h.nx)).new 2 0 3) (some X) (some (h1.sfr 1200 X (some h.nx)).nx) = z → J_X9_init N X h = z := by
    intro z hz
    unfold J_X9_init B_X9_init_0 B_X9_init_8
    refine (dr_e (by exact rfl) (by exact k0)).trans ?_
    refine (bnd (by exact a1)).trans ?_
    unfold B_X9_init_12
    refine (dr_e (by exact rfl) (by exact kX1)).trans ?_
    exact hz
  generalize va_up (va_up g h.nx h.nx) (h.nx + 1) h.nx = g1 at *
  generalize h1.sfr 1200 X (some h.nx) = H1 at *
  -- begun
  obtain ⟨h2, b1, b2, b3, b4, b5, b6, b7, b8⟩ := mk_list w1 x1.1 N 1201 (by decide)
  have x2 := x1.two (f := 1201) (v := H1.nx) w1 b2 (Nat.le_refl _) (by simp)
  have S2 : KS (va_up g1 H1.nx H1.nx) (h2.sfr 1201 X (some H1.nx)) (fun i => if i = 0 then h.nx else h.nx + 1) [] [] := KS.two (p := fun i => if i = 0 then h.nx else h.nx + 1) ⟨gS1, s1, fun k => rfl, List.Pairwise.nil⟩ w1 b2 (Nat.le_refl _) b3 ((b2.1 X (w1.lt x1.1 (by decide))).trans x1.2.1)
  have t2 : ∀ {z : Option (Hp × Unit)}, B_X9_init_30 N X ((h2.sfr 1201 X (some H1.nx)).new 2 0 3) (some X) (some (h2.sfr 1201 X (some H1.nx)).nx) = z → J_X9_init N X h = z := by
    intro z hz
    refine t1 ?_
    unfold B_X9_init_19
    refine (dr_e (by exact rfl) (by exact new_kd (n := 0) (sl := 3))).trans ?_
    refine (bnd (by exact b1)).trans ?_
    unfold B_X9_init_23
    refine (dr_e (by exact rfl) (by exact b3)).trans ?_
    exact hz
  generalize va_up g1 H1.nx H1.nx = g2 at *
  generalize h2.sfr 1201 X (some H1.nx) = H2 at *
  -- active
  obtain ⟨h3, c1, c2, c3, c4, c5, c6, c7, c8⟩ := mk_list b6 x2.1 N 1202 (by decide)
  have x3 := x2.two (f := 1202) (v := H2.nx) b6 c2 (Nat.le_refl _) (by simp)
  have gX3 := (c2.1 X (b6.lt x2.1 (by decide))).trans x2.2.1
  have S3 := S2.two (f := 1202) (v := some H2.nx) b6 c2 (Nat.le_refl _) c3 gX3
  have L3 := b4.two (f := 1202) (v := some H2.nx) b6 c2 (Nat.le_refl _) c3 gX3
  have t3 : ∀ {z : Option (Hp × Unit)}, B_X9_init_41 N X ((h3.sfr 1202 X (some H2.nx)).new 2 0 3) (some X) (some (h3.sfr 1202 X (some H2.nx)).nx) = z → J_X9_init N X h = z := by
    intro z hz
    refine t2 ?_
    unfold B_X9_init_30
    refine (dr_e (by exact rfl) (by exact new_kd (n := 0) (sl := 3))).trans ?_
    refine (bnd (by exact c1)).trans ?_
    unfold B_X9_init_34
    refine (dr_e (by exact rfl) (by exact c3)).trans ?_
    exact hz
  generalize va_up g2 H2.nx H2.nx = g3 at *
  generalize h3.sfr 1202 X (some H2.nx) = H3 at *
  -- committed
  obtain ⟨h4, d1, d2, d3, d4, d5, d6, d7, d8⟩ := mk_list c6 x3.1 N 1203 (by decide)
  have x4 := x3.two (f := 1203) (v := H3.nx) c6 d2 (Nat.le_refl _) (by simp)
  have gX4 := (d2.1 X (c6.lt x3.1 (by decide))).trans x3.2.1
  have S4 := S3.two (f := 1203) (v := some H3.nx) c6 d2 (Nat.le_refl _) d3 gX4
  have L4 := L3.two (f := 1203) (v := some H3.nx) c6 d2 (Nat.le_refl _) d3 gX4
  have M4 := c4.two (f := 1203) (v := some H3.nx) c6 d2 (Nat.le_refl _) d3 gX4
  have t4 : ∀ {z : Option (Hp × Unit)}, B_X9_init_53 N X ((h4.sfr 1203 X (some H3.nx)).new 20 6 6) (some X) (some (h4.sfr 1203 X (some H3.nx)).nx) = z → J_X9_init N X h = z := by
    intro z hz
    refine t3 ?_
    unfold B_X9_init_41
    refine (dr_e (by exact rfl) (by exact new_kd (n := 0) (sl := 3))).trans ?_
    refine (bnd (by exact d1)).trans ?_
    unfold B_X9_init_45
    refine (dr_e (by exact rfl) (by exact d3)).trans ?_
    refine (ck_eq (by exact ⟨by decide, by decide⟩)).trans ?_
    exact hz
  generalize va_up g3 H3.nx H3.nx = g4 at *
  generalize h4.sfr 1203 X (some H3.nx) = H4 at *
  -- the counts
  obtain ⟨e2, e3, e4, e6, e7, e8⟩ := mk_ints (X := X) d6 x4.1 6 1204
  have x5 := x4.two (f := 1204) (v := H4.nx) d6 e2 (Nat.le_refl _) (by simp)
  have gX5 := (e2.1 X (d6.lt x4.1 (by decide))).trans x4.2.1
  have S5 := S4.two (f := 1204) (v := some H4.nx) d6 e2 (Nat.le_refl _) e3 gX5
  have L5 := L4.two (f := 1204) (v := some H4.nx) d6 e2 (Nat.le_refl _) e3 gX5
  have M5 := M4.two (f := 1204) (v := some H4.nx) d6 e2 (Nat.le_refl _) e3 gX5
  have C5 := d4.two (f := 1204) (v := some H4.nx) d6 e2 (Nat.le_refl _) e3 gX5
  have t5 : ∀ {z : Option (Hp × Unit)}, B_X9_init_60 N X (((H4.new 20 6 6).sfr 1204 X (some H4.nx)).new 20 4 4) (some X) (some ((H4.new 20 6 6).sfr 1204 X (some H4.nx)).nx) = z → J_X9_init N X h = z := by
    intro z hz
    refine t4 ?_
    unfold B_X9_init_53
    refine (dr_e (by exact rfl) (by exact e3)).trans ?_
    refine (ck_eq (by exact ⟨by decide, by decide⟩)).trans ?_
    exact hz
  generalize va_up g4 H4.nx H4.nx = g5 at *
  generalize (H4.new 20 6 6).sfr 1204 X (some H4.nx) = H5 at *
  -- the reason
  obtain ⟨f2, f3, f4, f6, f7, f8⟩ := mk_ints (X := X) e6 x5.1 4 1205
  have x6 := x5.two (f := 1205) (v := H5.nx) e6 f2 (Nat.le_refl _) (by simp)
  have gX6 := (f2.1 X (e6.lt x5.1 (by decide))).trans x5.2.1
  have S6 := S5.two (f := 1205) (v := some H5.nx) e6 f2 (Nat.le_refl _) f3 gX6
  have L6 := L5.two (f := 1205) (v := some H5.nx) e6 f2 (Nat.le_refl _) f3 gX6
  have M6 := M5.two (f := 1205) (v := some H5.nx) e6 f2 (Nat.le_refl _) f3 gX6
  have C6 := C5.two (f := 1205) (v := some H5.nx) e6 f2 (Nat.le_refl _) f3 gX6
  have I6 := e4.two (f := 1205) (v := some H5.nx) e6 f2 (Nat.le_refl _) f3
  have t6 : ∀ {z : Option (Hp × Unit)}, B_X9_init_67 N X (((H5.new 20 4 4).sfr 1205 X (some H5.nx)).new 3 0 10) (some X) (some ((H5.new 20 4 4).sfr 1205 X (some H5.nx)).nx) = z → J_X9_init N X h = z := by
    intro z hz
    refine t5 ?_
    unfold B_X9_init_60
    refine (dr_e (by exact rfl) (by exact f3)).trans ?_
    exact hz
  generalize va_up g5 H5.nx H5.nx = g6 at *
  generalize (H5.new 20 4 4).sfr 1205 X (some H5.nx) = H6 at *
  -- the scratch
  have G7 := Fr.new f6 H6.nx 3 0 10 H6.nx (Nat.le_refl _)
  obtain ⟨h7, g7, i1, i2, i3, i4, i5⟩ := an_init (a := H6.nx) (new_kd (h := H6) (k := 3) (n := 0) (sl := 10)) (va_up_self _ _ _) G7.wf N 100 (by decide)
  have i0 := G7.tr f6 i3
  have k7 := i0.kd f6 x6.1 (by decide)
  have gX7 := (i0.1 X (f6.lt x6.1 (by decide))).trans x6.2.1
  have x7 := x6.two (f := 1206) (v := H6.nx) f6 i0 (Nat.le_refl _) (by simp)
  have S7 := S6.two (f := 1206) (v := some H6.nx) f6 i0 (Nat.le_refl _) k7 gX7
  have L7 := L6.two (f := 1206) (v := some H6.nx) f6 i0 (Nat.le_refl _) k7 gX7
  have M7 := M6.two (f := 1206) (v := some H6.nx) f6 i0 (Nat.le_refl _) k7 gX7
  have C7 := C6.two (f := 1206) (v := some H6.nx) f6 i0 (Nat.le_refl _) k7 gX7
  have I7 := I6.two (f := 1206) (v := some H6.nx) f6 i0 (Nat.le_refl _) k7
  have R7 := f4.two (f := 1206) (v := some H6.nx) f6 i0 (Nat.le_refl _) k7
  have G8 := Fr.sfr i3.wf (Un.rf g7 X) 1206 (some H6.nx)
  have A7 := i2.rt i3.wf G8 gX7 (ne_kd i2.1 k7 (by decide))
  have nx7 : (h7.sfr 1206 X (some H6.nx)).nx = H6.nx + 3 := i4
  have su7 : (h7.sfr 1206 X (some H6.nx)).su = H6.su + 210 := i5
  have w7 := G8.wf
  have t7 : ∀ {z : Option (Hp × Unit)}, B_X9_init_80 N X ((h7.sfr 1206 X (some H6.nx)).new 2 0 3) (some X) (some (h7.sfr 1206 X (some H6.nx)).nx) = z → J_X9_init N X h = z := by
    intro z hz
    refine t6 ?_
    unfold B_X9_init_67
    refine (dr_e (by exact rfl) (by exact new_kd (n := 0) (sl := 10))).trans ?_
    refine (bnd (by exact i1)).trans ?_
    unfold B_X9_init_73
    refine (dr_e (by exact rfl) (by exact k7)).trans ?_
    exact hz
  generalize h7.sfr 1206 X (some H6.nx) = H7 at *
  -- the others
  obtain ⟨h8, j1, j2, j3, j4, j5, j6, j7, j8⟩ := mk_list w7 x7.1 N 1207 (by decide)
  have x8 := x7.two (f := 1207) (v := H7.nx) w7 j2 (Nat.le_refl _) (by simp)
  have gX8 := (j2.1 X (w7.lt x7.1 (by decide))).trans x7.2.1
  have S8 := S7.two (f := 1207) (v := some H7.nx) w7 j2 (Nat.le_refl _) j3 gX8
  have L8 := L7.two (f := 1207) (v := some H7.nx) w7 j2 (Nat.le_refl _) j3 gX8
  have M8 := M7.two (f := 1207) (v := some H7.nx) w7 j2 (Nat.le_refl _) j3 gX8
  have C8 := C7.two (f := 1207) (v := some H7.nx) w7 j2 (Nat.le_refl _) j3 gX8
  have I8 := I7.two (f := 1207) (v := some H7.nx) w7 j2 (Nat.le_refl _) j3
  have R8 := R7.two (f := 1207) (v := some H7.nx) w7 j2 (Nat.le_refl _) j3
  have A8 := A7.two (f := 1207) (v := some H7.nx) w7 j2 (Nat.le_refl _) j3 gX8
  have t8 : ∀ {z : Option (Hp × Unit)}, B_X9_init_102 N X ((((h8.sfr 1207 X (some H7.nx)).sfi 1208 X 0).sfi 1209 X 0).sfl 1210 X 0) = z → J_X9_init N X h = z := by
    intro z hz
    refine t7 ?_
    unfold B_X9_init_80
    refine (dr_e (by exact rfl) (by exact new_kd (n := 0) (sl := 3))).trans ?_
    refine (bnd (by exact j1)).trans ?_
    unfold B_X9_init_84
    refine (dr_e (by exact rfl) (by exact j3)).trans ?_
    exact hz
  generalize va_up g7 H7.nx H7.nx = g8 at *
  generalize h8.sfr 1207 X (some H7.nx) = H8 at *
  -- its own fields
  have P1 := Fr.sfi j6 (Un.rf g8 X) 1208 0
  have P2 := Fr.sfi P1.wf (Un.rf g8 X) 1209 0
  have P3 := Fr.sfl P2.wf (Un.rf g8 X) 1210 0
  have P13 := (P1.tr j6 P2).tr j6 P3
  have y1 : (((H8.sfi 1208 X 0).sfi 1209 X 0).sfl 1210 X 0).fi 1208 X = 0 := by rw [pj_sfl_fi, fi_oth (by decide)]; exact fi_same
  have y2 : (((H8.sfi 1208 X 0).sfi 1209 X 0).sfl 1210 X 0).fi 1209 X = 0 := by rw [pj_sfl_fi]; exact fi_same
  have y3 : (((H8.sfi 1208 X 0).sfi 1209 X 0).sfl 1210 X 0).fl 1210 X = 0 := fl_same
  have y4 : ∀ f, (((H8.sfi 1208 X 0).sfi 1209 X 0).sfl 1210 X 0).fr f X = H8.fr f X := fun f => by rw [pj_sfl_fr, pj_sfi_fr, pj_sfi_fr]
  have y5 : (((H8.sfi 1208 X 0).sfi 1209 X 0).sfl 1210 X 0).nx = H8.nx := by rw [pj_sfl_nx, pj_sfi_nx, pj_sfi_nx]
  have y6 : (((H8.sfi 1208 X 0).sfi 1209 X 0).sfl 1210 X 0).su = H8.su := by rw [pj_sfl_su, pj_sfi_su, pj_sfi_su]
  have t9 : ∀ {z : Option (Hp × Unit)}, B_X9_init_102 N X (((H8.sfi 1208 X 0).sfi 1209 X 0).sfl 1210 X 0) = z → J_X9_init N X h = z := t8
  generalize ((H8.sfi 1208 X 0).sfi 1209 X 0).sfl 1210 X 0 = H9 at *
  have Q1 := Fr.sfr P13.wf (Un.rf g8 X) 1211 none
  have Q2 := Fr.sfi Q1.wf (Un.rf g8 X) 1212 0
  have Q3 := Fr.sfi Q2.wf (Un.rf g8 X) 1213 0
  have Q := P13.tr j6 ((Q1.tr P13.wf Q2).tr P13.wf Q3)
  have rr : ∀ f v, f ≠ 1211 → (f, v) ∈ [(1207, H7.nx), (1206, H6.nx), (1205, H5.nx), (1204, H4.nx), (1203, H3.nx), (1202, H2.nx), (1201, H1.nx), (1200, h.nx)] → (((H9.sfr 1211 X none).sfi 1212 X 0).sfi 1213 X 0).fr f X = some v := fun f v hf hm => by
    rw [pj_sfi_fr, pj_sfi_fr, fr_oth hf, y4]
    exact x8.2.2 (f, v) hm
  have gg := Q.1 X (j6.lt x8.1 (by decide))
  have nn : ∀ {l xs}, KL g8 H8 l xs → l ≠ X := fun q => ne_kd q.2.1 x8.1 (by decide)
  refine ⟨((H9.sfr 1211 X none).sfi 1212 X 0).sfi 1213 X 0, g8, (fun i => if i = 0 then h.nx else if i = 1 then h.nx + 1 else if i = 2 then H1.nx else if i = 3 then H2.nx else if i = 4 then H3.nx else if i = 5 then H4.nx else if i = 6 then H5.nx else if i = 7 then H6.nx else if i = 8 then H6.nx + 1 else if i = 9 then H6.nx + 2 else if i = 10 then H7.nx else X), fun f => (((H9.sfr 1211 X none).sfi 1212 X 0).sfi 1213 X 0).fi f X, (0, none, [], none), t9 rfl, rfl, ⟨⟨?_, gX8, fun f => rfl, ?_, rr 1200 h.nx (by decide) (by simp), rr 1201 H1.nx (by decide) (by simp), rr 1202 H2.nx (by decide) (by simp), rr 1203 H3.nx (by decide) (by simp), rr 1204 H4.nx (by decide) (by simp), rr 1205 H5.nx (by decide) (by simp), rr 1206 H6.nx (by decide) (by simp), rr 1207 H7.nx (by decide) (by simp), ?_, Nat.lt_of_lt_of_le (j6.lt x8.1 (by decide)) Q.2.2.1.2.1, gX8⟩, ?_, L8.fr j6 Q gX8 (nn L8), M8.fr j6 Q gX8 (nn M8), C8.fr j6 Q gX8 (nn C8), ⟨⟨(j4.fr j6 Q gX8 (nn j4)).1, ?_⟩, (j4.fr j6 Q gX8 (nn j4)).2⟩, I8.fr j6 Q (ne_kd I8.1 x8.1 (by decide)), R8.fr j6 Q (ne_kd R8.1 x8.1 (by decide)), A8.rt j6 Q gX8 (ne_kd A8.1 x8.1 (by decide)), rfl, fun i t ht => by simp at ht, List.nodup_nil, ?_, ?_, ?_, ?_, ?_, ?_, ?_, fun i j hi => by simp at hi⟩, Q.wf, ?_, ?_, ?_, fi_same, ?_, ?_⟩
  · exact Q.kd j6 x8.1 (by decide)
  · rw [pj_sfi_fl, pj_sfi_fl, pj_sfr_fl]; exact y3
  · rw [pj_sfi_fr, pj_sfi_fr]; exact fr_same
  · have z := S8.fr j6 Q gX8 (by rw [x8.1]; decide) (ne_kd S8.2.1.1 x8.1 (by decide))
    exact z
  · exact (cap_fr j4.2 j6 Q (sep_roots gX8 j4.1 (Ne.symm (nn j4)))).trans j5
  · show H1.nx ≠ H2.nx; omega
  · show H1.nx ≠ H3.nx; omega
  · show H1.nx ≠ H7.nx; omega
  · show H2.nx ≠ H3.nx; omega
  · show H2.nx ≠ H7.nx; omega
  · show H3.nx ≠ H7.nx; omega
  · show H4.nx ≠ H5.nx; omega
  · show (((H9.sfr 1211 X none).sfi 1212 X 0).sfi 1213 X 0).fi 1208 X = 0
    rw [fi_oth (by decide), fi_oth (by decide), pj_sfr_fi]; exact y1
  · show (((H9.sfr 1211 X none).sfi 1212 X 0).sfi 1213 X 0).fi 1209 X = 0
    rw [fi_oth (by decide), fi_oth (by decide), pj_sfr_fi]; exact y2
  · show (((H9.sfr 1211 X none).sfi 1212 X 0).sfi 1213 X 0).fi 1212 X = 0
    rw [fi_oth (by decide)]; exact fi_same
  · rw [pj_sfi_nx, pj_sfi_nx, pj_sfr_nx, y5]; omega
  · rw [pj_sfi_su, pj_sfi_su, pj_sfr_su, y6]; omega
