/-! astray -/
section AS
variable {g : Nat → Nat} {h : Hp} {p : Nat → Nat} {G : Nat → Int32} {fv : Int64} {lr : Option Nat} {B : Shf} {V : List Kv} {ts : List Nat} {D : Nat → TD} {ac cm ot : List Nat} {ct rs : Nat → Int32} {d0 : AnD} {R : List (Int32 × Int64)} {cO : Nat}
/-- what astray answers: M who comes ahead of whom -/
def AstR (B : Shf) (D : Nat → TD) (cm : List Nat) (M : Nat → Nat → Prop) (r : Int32) : Prop := ∃ ord, LinS M cm.length ord ∧ ((ord.length < cm.length ∧ (∀ y, y < cm.length → ¬ Cand M ord y) ∧ r = nI (cnt (fun x => Pth M cm.length x x) cm.length)) ∨ (ord.length = cm.length ∧ ∃ W m, RepA D cm ord 0 [] 0 W m ∧ r = nI (m + B.countP (fun y => decide (thr1 y.2 ≠ thr1 (chn W y.1))))))
theorem linS_nodup {M : Nat → Nat → Prop} {n : Nat} {ord : List Nat} (l : LinS M n ord) : ord.Nodup := by
  rw [List.nodup_iff_pairwise_ne, List.pairwise_iff_getElem]
  intro i j hi hj hij e
  have h1 := (l j ord[j] (List.getElem?_eq_getElem hj)).2.1.1
  apply h1
  rw [← e]
  exact mem_iff_get.mpr ⟨i, by rw [List.getElem?_take, if_pos hij]; exact List.getElem?_eq_getElem hi⟩
/-- a sum over places without a double is at most the sum over all -/
theorem sum_sub (f : Nat → Nat) : ∀ (n : Nat) (xs : List Nat), xs.Nodup → (∀ x ∈ xs, x < n) → (xs.map f).sum ≤ ((List.range n).map f).sum := by
  intro n
  induction n with
  | zero =>
    intro xs _ h
    cases xs with
    | nil => exact Nat.le_refl _
    | cons a r => exact absurd (h a List.mem_cons_self) (by omega)
  | succ n ih =>
    intro xs hn h
    rw [List.range_succ, List.map_append, List.sum_append]
    by_cases c : n ∈ xs
    · have h1 := ih (xs.erase n) (hn.erase _) (fun x hx => by
        have := (hn.mem_erase_iff).mp hx
        have := h x this.2
        omega)
      have h2 : (xs.map f).sum = f n + ((xs.erase n).map f).sum := by
        clear ih h h1 hn
        induction xs with
        | nil => cases c
        | cons a r ih2 =>
          by_cases e : a = n
          · rw [e, List.erase_cons_head, List.map_cons, List.sum_cons]
          · have c2 : n ∈ r := (List.mem_cons.mp c).resolve_left (Ne.symm e)
            rw [List.erase_cons_tail (by simpa using e), List.map_cons, List.sum_cons, List.map_cons, List.sum_cons, ih2 c2]
            omega
      show _ ≤ _ + (f n + 0)
      omega
    · have h1 := ih xs hn (fun x hx => by
        have := h x hx
        by_cases e : x = n
        · exact absurd (by rw [← e]; exact hx) c
        · omega)
      omega
theorem kr_astray0 (q : Kr g h p G fv lr B V ts D ac cm ot ct rs d0 R cO) (N : Nat) (he : G 1212 = nI cm.length) : J_X9_astray N (p 11) h = some (h, G 1213) := by
  unfold J_X9_astray B_X9_astray_0
  refine (dr_e (by exact q.1.2.2.2.2.2.2.2.1) (by exact q.2.2.2.2.1.2.1)).trans ?_
  refine (bnd (by exact al_size q.2.2.2.2.1.2 N)).trans ?_
  unfold B_X9_astray_11
  rw [List.length_map]
  refine (if_pos (by rw [q.1.2.2.1]; exact he)).trans ?_
  unfold B_X9_astray_75
  rw [q.1.2.2.1]
theorem kr_astray1 (q : Kr g h p G fv lr B V ts D ac cm ot ct rs d0 R cO) (w : Wf g h) (N : Nat) (hN : 1000000 < N) (he : G 1212 ≠ nI cm.length) (hcl : cm.length ≤ 1000) (hst : ∀ y ∈ B, StM cm y.2) (hcm : ∀ i ∈ cm, i < ts.length) (hmo : ∀ m i, cm[m]? = some i → (D i).1 1007 = nI (m + 1)) {T : Nat} (hT : T < 80000) (hsum : ((List.range cm.length).map (ncl D cm)).sum ≤ T) (hok : ∀ j ∈ cm, OkC (D j).2.2.2.2.2.2.2 [] 0) : ∃ h' g' d' r, J_X9_astray N (p 11) h = some (h', r) ∧ AstR B D cm (Ahd B D cm) r ∧ Kr g' h' p (va_up (va_up G 1213 r) 1212 (nI cm.length)) fv lr B V ts D ac cm ot ct rs d' R cO ∧ Wf g' h' ∧ h'.nx ≤ h.nx + 6 + 4 * cm.length + 6 * T ∧ h'.su ≤ h.su + 80 + 80 * cm.length + 30 * T := by
  -- the audit is made
  have F1 := Fr.new w h.nx 4 0 6 h.nx (Nat.le_refl _)
  have k1 : (h.new 4 0 6).kd h.nx = 4 := new_kd (n := 0) (sl := 6)
  have g1 : va_up g h.nx h.nx h.nx = h.nx := va_up_self _ _ _
  have q1 := q.new w (Nat.le_refl _) F1
  obtain ⟨h2, g2, ah, od, a1, a2, a3, a4, a5, a6⟩ := au_init (S := p 0) k1 g1 F1.wf q1.2.2.2.2.1.2 (by rw [List.length_map]; exact hcl) N
  rw [List.length_map] at a2 a3 a6
  have nx1 : (h.new 4 0 6).nx = h.nx + 1 := rfl
  have su1 : (h.new 4 0 6).su = h.su + 6 := rfl
  have F2 : Fr g g2 h.nx h h2 := F1.tr w a4
  have ag2 : Ag g g2 h h2 p cm h.nx ah od (fun _ _ => False) := ⟨F2, Nat.le_refl _, a2, a3⟩
  have hB := sh_len q.2.1.2.1
  obtain ⟨h3, b1, b2, b3, b4⟩ := dv_out q w N (by omega) (by omega) hst B.length 0 N g2 h2 _ rfl (Nat.zero_le _) (by omega) ag2
  obtain ⟨h4, c1, c2, c3, c4⟩ := ls_out q w N (by omega) (by omega) hst hcm hmo cm.length 0 N g2 h3 _ rfl (Nat.zero_le _) (by omega) b2
  have m4 : Mx h4 ah cm.length (Ahd B D cm) := c2.2.2.2.cg (fun a b => by
    rw [List.drop_zero, List.drop_zero]
    unfold Ahd
    constructor
    · rintro ((z | z) | z)
      · exact z.elim
      · exact Or.inl z
      · exact Or.inr z
    · rintro (z | z)
      · exact Or.inl (Or.inr z)
      · exact Or.inr z)
  obtain ⟨h5, g5, ord, v, d1, d2, d3, d4, d5, d6, d7, d8, d9⟩ := au_lineUp w c2.1 (Nat.le_refl _) c2.2.2.1 m4 N (by omega)
  have q4 := q.new w (Nat.le_refl _) c2.1
  have q5 := q.new w (Nat.le_refl _) d7
  have wb : cm.length * wd cm.length ≤ 16 * cm.length := by
    have : wd cm.length ≤ 16 := by unfold wd; omega
    rw [Nat.mul_comm]
    exact Nat.mul_le_mul_right _ this
  have wl : wd cm.length ≤ 16 := by unfold wd; omega
  have start : ∀ {z : Option (Hp × Int32)}, B_X9_astray_43 N (p 11) h5 (some h.nx) (some (p 11)) v = z → J_X9_astray N (p 11) h = z := by
    intro z hz
    unfold J_X9_astray B_X9_astray_0
    refine (dr_e (by exact q.1.2.2.2.2.2.2.2.1) (by exact q.2.2.2.2.1.2.1)).trans ?_
    refine (bnd (by exact al_size q.2.2.2.2.1.2 N)).trans ?_
    unfold B_X9_astray_11
    rw [List.length_map]
    refine (if_neg (by rw [q.1.2.2.1]; exact he)).trans ?_
    unfold B_X9_astray_17
    refine (dr_e (by exact rfl) (by exact k1)).trans ?_
    rw [q1.1.2.2.2.2.1, q1.1.2.2.2.2.2.2.2.1]
    refine (bnd (by exact a1)).trans ?_
    unfold B_X9_astray_29
    refine (dr_e (by exact rfl) (by exact a2.1)).trans ?_
    refine (bnd (by exact b1)).trans ?_
    unfold B_X9_astray_34
    refine (dr_e (by exact rfl) (by exact b2.2.2.1.1)).trans ?_
    refine (bnd (by exact c1)).trans ?_
    unfold B_X9_astray_38
    refine (dr_e (by exact rfl) (by exact c2.2.2.1.1)).trans ?_
    refine (bnd (by exact d1)).trans ?_
    exact hz
  -- the verdict is kept
  have fin : ∀ {gx : Nat → Nat} {hx : Hp} {dx : AnD} (r : Int32), Kr gx hx p G fv lr B V ts D ac cm ot ct rs dx R cO → Wf gx hx → ∃ h', B_X9_astray_61 N (p 11) hx (some (p 11)) r = some (h', r) ∧ Kr gx h' p (va_up (va_up G 1213 r) 1212 (nI cm.length)) fv lr B V ts D ac cm ot ct rs dx R cO ∧ Wf gx h' ∧ h'.nx = hx.nx ∧ h'.su = hx.su := by
    intro gx hx dx r qx wx
    have G1 := Fr.sfi wx (Un.rf gx (p 11)) 1213 r
    have y1 := qx.sfi wx 1213 r
    have G2 := Fr.sfi G1.wf (Un.rf gx (p 11)) 1212 (nI cm.length)
    have y2 := y1.sfi G1.wf 1212 (nI cm.length)
    refine ⟨_, ?_, y2, G2.wf, by rw [pj_sfi_nx, pj_sfi_nx], by rw [pj_sfi_su, pj_sfi_su]⟩
    unfold B_X9_astray_61
    refine (dr_e (by exact rfl) (by exact qx.1.1)).trans ?_
    refine (dr_e (by exact y1.1.2.2.2.2.2.2.2.1) (by exact y1.2.2.2.2.1.2.1)).trans ?_
    refine (bnd (by exact al_size y1.2.2.2.2.1.2 N)).trans ?_
    unfold B_X9_astray_72
    rw [List.length_map]
    refine (dr_e (by exact rfl) (by exact y1.1.1)).trans ?_
    unfold B_X9_astray_75
    rw [y2.1.2.2.1 1213, va_up_ne _ _ (by decide), va_up_self]
  rcases d4 with ⟨z1, z2⟩ | ⟨z1, z2, z3⟩
  · have hox : ∀ x ∈ ord, x < cm.length := fun x hx => by
      obtain ⟨i, hi⟩ := mem_iff_get.mp hx
      exact (d2 i x hi).1
    obtain ⟨h6, g6, d', W, m, e1, e2, e3, e4, e5, e6⟩ := au_diff (T := T) q5 d7.wf d5 d3 z2 hox hcm hT (Nat.le_trans (sum_sub _ _ _ (linS_nodup d2) hox) hsum) hok N hN
    obtain ⟨h7, f1, f2, f3, f4, f5⟩ := fin (nI (m + B.countP (fun y => decide (thr1 y.2 ≠ thr1 (chn W y.1))))) e3 e4
    refine ⟨h7, g6, d', _, start ?_, ⟨ord, d2, Or.inr ⟨z2, W, m, e2, rfl⟩⟩, f2, f3, by omega, by omega⟩
    unfold B_X9_astray_43
    refine (if_neg (by rw [z1]; decide)).trans ?_
    refine (dr_e (by exact rfl) (by exact d5.1)).trans ?_
    rw [q5.1.2.2.2.2.2.2.2.2.2.2.1]
    refine (bnd (by exact e1)).trans ?_
    unfold B_X9_astray_54
    exact f1
  · obtain ⟨h6, e1, e2, e3, e4⟩ := au_onRings d5 d7.wf d6 N (by omega)
    have q6 := q5.out d7.wf d5.2.1 (Or.inr (Or.inr (Or.inl d5.1))) e2
    obtain ⟨h7, f1, f2, f3, f4, f5⟩ := fin (nI (cnt (fun x => Pth (Ahd B D cm) cm.length x x) cm.length)) q6 e2.wf
    refine ⟨h7, g5, d0, _, start ?_, ⟨ord, d2, Or.inl ⟨z2, z3, rfl⟩⟩, f2, f3, by omega, by omega⟩
    unfold B_X9_astray_43
    refine (if_pos (by exact z1)).trans ?_
    refine (dr_e (by exact rfl) (by exact d5.1)).trans ?_
    refine (bnd (by exact e1)).trans ?_
    exact f1
end AS
