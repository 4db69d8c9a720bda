/-! new calls -/
theorem nc_a {g : Nat → Nat} {h : Hp} {c : Nat} (w : Wf g h) (hr : h.kd c = 5) : Fr g g c h ((((h.sfi 502 c 0).sfi 503 c 0).sfi 504 c 0).sfl 505 c 0) ∧ ((((h.sfi 502 c 0).sfi 503 c 0).sfi 504 c 0).sfl 505 c 0).fi 502 c = 0 ∧ ((((h.sfi 502 c 0).sfi 503 c 0).sfi 504 c 0).sfl 505 c 0).fi 503 c = 0 ∧ ((((h.sfi 502 c 0).sfi 503 c 0).sfi 504 c 0).sfl 505 c 0).fi 504 c = 0 ∧ ((((h.sfi 502 c 0).sfi 503 c 0).sfi 504 c 0).sfl 505 c 0).fl 505 c = 0 ∧ ((((h.sfi 502 c 0).sfi 503 c 0).sfi 504 c 0).sfl 505 c 0).kd c = 5 ∧ ((((h.sfi 502 c 0).sfi 503 c 0).sfi 504 c 0).sfl 505 c 0).nx = h.nx ∧ ((((h.sfi 502 c 0).sfi 503 c 0).sfi 504 c 0).sfl 505 c 0).su = h.su := by
  have F1 := Fr.sfi w (Un.rf g c) 502 0
  have F2 := Fr.sfi F1.wf (Un.rf g c) 503 0
  have F3 := Fr.sfi F2.wf (Un.rf g c) 504 0
  have F4 := Fr.sfl F3.wf (Un.rf g c) 505 0
  refine ⟨((F1.tr w F2).tr w F3).tr w F4, ?_, ?_, ?_, fl_same, ?_, ?_, ?_⟩
  · rw [pj_sfl_fi, fi_oth (by decide), fi_oth (by decide)]; exact fi_same
  · rw [pj_sfl_fi, fi_oth (by decide)]; exact fi_same
  · rw [pj_sfl_fi]; exact fi_same
  · rw [pj_sfl_kd, pj_sfi_kd, pj_sfi_kd, pj_sfi_kd]; exact hr
  · rw [pj_sfl_nx, pj_sfi_nx, pj_sfi_nx, pj_sfi_nx]
  · rw [pj_sfl_su, pj_sfi_su, pj_sfi_su, pj_sfi_su]
theorem nc_init {g : Nat → Nat} {h : Hp} (w : Wf g h) (N : Nat) (k y : Int32) : ∃ h', J_X2_init N h.nx (h.new 5 0 7) k y = some (h', ()) ∧ Fr g (va_up g h.nx h.nx) h.nx h h' ∧ Cr h' h.nx (k, y, 0, 0, 0, 0) ∧ h'.fr 506 h.nx = none ∧ h'.nx = h.nx + 1 ∧ h'.su = h.su + 7 := by
  have F0 := Fr.new w h.nx 5 0 7 h.nx (Nat.le_refl _)
  obtain ⟨F1, a1, a2, a3, a4, a5, a6, a7⟩ := nc_a (c := h.nx) F0.wf (new_kd (n := 0) (sl := 7))
  unfold J_X2_init B_X2_init_0 B_X2_init_24
  generalize (((((h.new 5 0 7).sfi 502 h.nx 0).sfi 503 h.nx 0).sfi 504 h.nx 0).sfl 505 h.nx 0) = h1 at *
  have F2 := Fr.sfr F1.wf (Un.rf (va_up g h.nx h.nx) h.nx) 506 none
  have F3 := Fr.sfi F2.wf (Un.rf (va_up g h.nx h.nx) h.nx) 500 k
  have F4 := Fr.sfi F3.wf (Un.rf (va_up g h.nx h.nx) h.nx) 501 y
  refine ⟨_, rfl, (((F0.tr w F1).tr w F2).tr w F3).tr w F4, ⟨?_, ?_, fi_same, ?_, ?_, ?_, ?_⟩, ?_, ?_, ?_⟩
  · rw [pj_sfi_kd, pj_sfi_kd, pj_sfr_kd]; exact a5
  · rw [fi_oth (by decide)]; exact fi_same
  · rw [fi_oth (by decide), fi_oth (by decide), pj_sfr_fi]; exact a1
  · rw [fi_oth (by decide), fi_oth (by decide), pj_sfr_fi]; exact a2
  · rw [fi_oth (by decide), fi_oth (by decide), pj_sfr_fi]; exact a3
  · rw [pj_sfi_fl, pj_sfi_fl, pj_sfr_fl]; exact a4
  · rw [pj_sfi_fr, pj_sfi_fr]; exact fr_same
  · rw [pj_sfi_nx, pj_sfi_nx, pj_sfr_nx, a6]; rfl
  · rw [pj_sfi_su, pj_sfi_su, pj_sfr_su, a7]; rfl
theorem Cr.flag {h : Hp} {c : Nat} {k y a b : Int32} {z x : Int32} {l : Int64} (q : Cr h c (k, y, a, b, z, l)) : Cr (h.sfi 504 c x) c (k, y, a, b, x, l) := by
  obtain ⟨q1, q2, q3, q4, q5, q6, q7⟩ := q
  exact ⟨q1, (fi_oth (by decide)).trans q2, (fi_oth (by decide)).trans q3, (fi_oth (by decide)).trans q4, (fi_oth (by decide)).trans q5, fi_same, q7⟩
theorem Cr.val {h : Hp} {c : Nat} {k y a b : Int32} {z : Int32} {l x : Int64} (q : Cr h c (k, y, a, b, z, l)) : Cr (h.sfl 505 c x) c (k, y, a, b, z, x) := by
  obtain ⟨q1, q2, q3, q4, q5, q6, q7⟩ := q
  exact ⟨q1, q2, q3, q4, q5, q6, fl_same⟩
theorem Cr.to {h : Hp} {c : Nat} {k y a b : Int32} {z x : Int32} {l : Int64} (q : Cr h c (k, y, a, b, z, l)) : Cr (h.sfi 502 c x) c (k, y, x, b, z, l) := by
  obtain ⟨q1, q2, q3, q4, q5, q6, q7⟩ := q
  exact ⟨q1, (fi_oth (by decide)).trans q2, (fi_oth (by decide)).trans q3, fi_same, (fi_oth (by decide)).trans q5, (fi_oth (by decide)).trans q6, q7⟩
theorem Cr.num {h : Hp} {c : Nat} {k y a b : Int32} {z x : Int32} {l : Int64} (q : Cr h c (k, y, a, b, z, l)) : Cr (h.sfi 503 c x) c (k, y, a, x, z, l) := by
  obtain ⟨q1, q2, q3, q4, q5, q6, q7⟩ := q
  exact ⟨q1, (fi_oth (by decide)).trans q2, (fi_oth (by decide)).trans q3, (fi_oth (by decide)).trans q4, fi_same, (fi_oth (by decide)).trans q6, q7⟩
/-- a call ready to be carried out: c new, h1 the heap with it -/
def NewC (g : Nat → Nat) (h h1 : Hp) (d : Clq) : Prop := Fr g (va_up g h.nx h.nx) h.nx h h1 ∧ Cr h1 h.nx d ∧ h1.fr 506 h.nx = none ∧ h1.nx = h.nx + 1 ∧ h1.su = h.su + 7
theorem NewC.flag {g : Nat → Nat} {h h1 : Hp} {k y a b z x : Int32} {l : Int64} (q : NewC g h h1 (k, y, a, b, z, l)) (w : Wf g h) : NewC g h (h1.sfi 504 h.nx x) (k, y, a, b, x, l) := ⟨q.1.tr w (Fr.sfi q.1.wf (Un.rf _ _) 504 x), q.2.1.flag, q.2.2.1, q.2.2.2⟩
theorem NewC.val {g : Nat → Nat} {h h1 : Hp} {k y a b z : Int32} {l x : Int64} (q : NewC g h h1 (k, y, a, b, z, l)) (w : Wf g h) : NewC g h (h1.sfl 505 h.nx x) (k, y, a, b, z, x) := ⟨q.1.tr w (Fr.sfl q.1.wf (Un.rf _ _) 505 x), q.2.1.val, q.2.2.1, q.2.2.2⟩
theorem NewC.to {g : Nat → Nat} {h h1 : Hp} {k y a b z x : Int32} {l : Int64} (q : NewC g h h1 (k, y, a, b, z, l)) (w : Wf g h) : NewC g h (h1.sfi 502 h.nx x) (k, y, x, b, z, l) := ⟨q.1.tr w (Fr.sfi q.1.wf (Un.rf _ _) 502 x), q.2.1.to, q.2.2.1, q.2.2.2⟩
theorem NewC.num {g : Nat → Nat} {h h1 : Hp} {k y a b z x : Int32} {l : Int64} (q : NewC g h h1 (k, y, a, b, z, l)) (w : Wf g h) : NewC g h (h1.sfi 503 h.nx x) (k, y, a, x, z, l) := ⟨q.1.tr w (Fr.sfi q.1.wf (Un.rf _ _) 503 x), q.2.1.num, q.2.2.1, q.2.2.2⟩
/-- the pure conditions on the class's state; nr: how many records have been taken -/
def Ki (nr : Nat) (G : Nat → Int32) (B : Shf) (V : List Kv) (ts : List Nat) (D : Nat → TD) (ac cm : List Nat) : Prop :=
  G 1208 = nI nr ∧ ts.length ≤ nr ∧ (∀ i ∈ ac, i < ts.length) ∧ ac.Pairwise (fun a b => a < b) ∧ (∀ i ∈ cm, i < ts.length) ∧ cm.Nodup ∧ (∀ i ∈ ac, i ∉ cm) ∧ (∀ x ∈ V, ∃ m, 1 ≤ m ∧ m ≤ cm.length ∧ x.2.1 = nI m) ∧ V.length + (ac.map (fun i => (D i).2.2.2.2.2.1)).sum ≤ nr ∧
  ∀ i, i < ts.length → (D i).2.2.2.1.length ≤ (D i).2.2.2.2.2.1 ∧ (D i).2.2.2.2.2.1 ≤ nr ∧ StB (D i).2.2.2.1 (D i).2.2.2.2.2.1 ∧ (D i).2.2.2.2.2.2.1.length ≤ nr ∧ (D i).2.2.2.2.2.2.2.length ≤ nr
/-- the entries of a shelf are those of its log -/
theorem bk_mem {B : Shf} {V : List Kv} (hs : Srt B) (b : BkL B V) {y : Int32 × List Ent} (hy : y ∈ B) {e : Ent} (he : e ∈ y.2) : (y.1, e) ∈ V := by
  obtain ⟨i, hi⟩ := mem_iff_get.mp hy
  have := look_get hs hi
  rw [b y.1] at this
  rw [← this] at he
  exact chn_mem.mp he
theorem Ki.st {nr : Nat} {G : Nat → Int32} {B : Shf} {V : List Kv} {ts : List Nat} {D : Nat → TD} {ac cm : List Nat} (k : Ki nr G B V ts D ac cm) (hs : Srt B) (b : BkL B V) : ∀ y ∈ B, StM cm y.2 := fun _ hy _ he => k.2.2.2.2.2.2.2.1 _ (bk_mem hs b hy he)
/-- all entries of a shelf are as many as its log has -/
def tot (B : Shf) : Nat := (B.map (fun y => y.2.length)).sum
theorem tot_len : ∀ (V : List Kv) (B : Shf), Srt B → (∀ k, look B k = chn V k) → tot B ≤ V.length := by
  intro V
  induction V with
  | nil =>
    intro B hs h
    have : ∀ y ∈ B, y.2.length = 0 := fun y hy => by
      obtain ⟨i, hi⟩ := mem_iff_get.mp hy
      rw [← look_get hs hi, h]
      rfl
    unfold tot
    have e : B.map (fun y => y.2.length) = B.map (fun _ => 0) := List.map_congr_left this
    rw [e]
    clear e this h hs
    induction B with
    | nil => exact Nat.le_refl _
    | cons a r ih => rw [List.map_cons, List.sum_cons]; omega
  | cons x V ih =>
    intro B hs h
    -- without x: the last of its chain goes
    have hx : chn (x :: V) x.1 = chn V x.1 ++ [x.2] := by
      unfold chn
      rw [List.filter_cons_of_pos (by simp), List.map_cons, List.reverse_cons]
    have ho : ∀ k, k ≠ x.1 → chn (x :: V) k = chn V k := fun k hk => by
      unfold chn
      rw [List.filter_cons_of_neg (by simpa using Ne.symm hk)]
    have hne : look B x.1 ≠ [] := by rw [h, hx]; simp
    obtain ⟨i, hi⟩ := look_some hs hne
    have hs2 := hs.set (b := chn V x.1) hi
    have := ih (B.set i (x.1, chn V x.1)) hs2 (fun k => by
      rw [look_set hs hi]
      by_cases c : k = x.1
      · rw [if_pos c, c]
      · rw [if_neg c, h, ho k c])
    have hl : (look B x.1).length = (chn V x.1).length + 1 := by rw [h, hx, List.length_append]; rfl
    have hil := (List.getElem?_eq_some_iff.mp hi).1
    have sm : ∀ (M : Shf) (j : Nat) (a b : Int32 × List Ent), M[j]? = some a → tot (M.set j b) + a.2.length = tot M + b.2.length := by
      intro M
      induction M with
      | nil => intro j a b hj; simp at hj
      | cons m r ih2 =>
        intro j a b hj
        cases j with
        | zero =>
          injection hj with hj
          show (b.2.length + _) + a.2.length = (m.2.length + _) + b.2.length
          rw [hj]
          show b.2.length + (List.map (fun y => y.2.length) r).sum + _ = _ + (List.map (fun y => y.2.length) r).sum + _
          omega
        | succ j =>
          have := ih2 j a b hj
          show (m.2.length + tot (r.set j b)) + a.2.length = (m.2.length + tot r) + b.2.length
          omega
    have e2 := sm B i _ (x.1, chn V x.1) hi
    rw [List.length_cons]
    show tot B ≤ V.length + 1
    have e3 : (look B x.1).length = (chn V x.1).length + 1 := hl
    have e2 : tot (B.set i (x.1, chn V x.1)) + (look B x.1).length = tot B + (chn V x.1).length := e2
    omega
theorem takeW_len (st : Int32) (L : List Ent) : (takeW st L).length ≤ L.length := (List.takeWhile_prefix _).length_le
theorem ovs_len (B : Shf) (st hi : Int32) (k : Nat) : (ovs B st hi k).length ≤ tot B := by
  have sub : ∀ (M : Shf), (M.flatMap (fun y => takeW st y.2)).length ≤ tot M := by
    intro M
    induction M with
    | nil => exact Nat.le_refl _
    | cons m r ih =>
      rw [List.flatMap_cons, List.length_append]
      show _ ≤ m.2.length + tot r
      have := takeW_len st m.2
      omega
  have mono : ∀ (M M' : Shf), M.Sublist M' → tot M ≤ tot M' := by
    intro M M' hs
    unfold tot
    induction hs with
    | slnil => exact Nat.le_refl _
    | cons a _ ih => rw [List.map_cons, List.sum_cons]; omega
    | cons_cons a _ ih => rw [List.map_cons, List.sum_cons, List.map_cons, List.sum_cons]; omega
  unfold ovs
  refine Nat.le_trans (sub _) (mono _ _ ?_)
  exact (List.takeWhile_prefix _).sublist.trans (List.drop_sublist _ _)
def Rc2 (h h' : Hp) (c c' : Nat) : Prop := h'.nx + c ≤ h.nx + c' + 10 ∧ h'.su + 4 * c ≤ h.su + 4 * c' + 4400 ∧ c ≤ c' ∧ c' ≤ max c 1034
section KCC
variable {g : Nat → Nat} {h h1 : Hp} {p : Nat → Nat} {G : Nat → Int32} {fv : Int64} {lr : Option Nat} {B : Shf} {V : List Kv} {ts : List Nat} {D : Nat → TD} {ac cm ot : List Nat} {ct rs : Nat → Int32} {d0 : AnD} {R : List (Int32 × Int64)} {cO nr : Nat}
/-- a new call, carried out -/
theorem kr_call (q : Kr g h p G fv lr B V ts D ac cm ot ct rs d0 R cO) (w : Wf g h) (k : Ki nr G B V ts D ac cm) (hnr : nr < 512) (N : Nat) (hN : 1000000 < N) {i t j : Nat} {d : Clq} (hi : ts[i]? = some t) (hj : ac[j]? = some i) (nc : NewC g h h1 d) (ok : ClOk (D i).2.2.2.2.1 d) (hsc : d.1 = 2 → d.2.1.toInt ≤ d.2.2.1.toInt) : ∃ h' g' A' L' P' n' e v c', J_X9_carryOut N (p 11) h1 (some t) (some h.nx) = some (h', v) ∧ CallR (D i).2.2.2.1 V ((D i).1 1001) ((D i).1 1000) (D i).2.2.2.2.1 (D i).2.2.2.2.2.1 d L' P' n' e ∧ StB L' n' ∧ Wf g' h' ∧ Rc2 h h' cO c' ∧ CarR g' h' p (va_up G 1208 (nI (nr + 1))) fv lr B V ts (vwD D i A' L' P' n') ac cm ot ct rs R cO c' i j h.nx d e v := by
  obtain ⟨n1, n2, n3, n4, n5⟩ := nc
  have q1 := q.new w (Nat.le_refl _) n1
  have gi : va_up g h.nx h.nx h.nx = h.nx := va_up_self _ _ _
  have hil := (List.getElem?_eq_some_iff.mp hi).1
  obtain ⟨k1, k2, k3, k4, k5, k6, k7, k8, k9, k10⟩ := id k
  obtain ⟨m1, m2, m3, m4, m5⟩ := k10 i hil
  have hfr : ∀ (j u : Nat), ts[j]? = some u → ∀ y ∈ (D j).2.2.2.2.2.2.2, y.1 ≠ h.nx := fun j u hu y hy z => by
    have tj := q.2.2.2.2.2.2.2.2.2.2.1 j u hu
    have := w.lt (tj.2.2.2.2.2.2.2.2 y hy).1.1 (by decide)
    omega
  have hV : V.length ≤ nr := by omega
  have hov : ∀ hh k, (ovs B ((D i).1 1001) hh k).length ≤ 512 := fun hh x => by
    have a1 := ovs_len B ((D i).1 1001) hh x
    have a2 := tot_len V B q.2.1.2.1.2.2.2.1 q.2.1.2.2.1
    omega
  obtain ⟨h', g', A', L', P', n', e, v, c', r1, r2, r3, r4, r5, r6⟩ := kr_carry (n := 512) (nr := nr) q1 n1.wf N hN hi gi n2 n3 hfr ok hsc (by omega) (by omega) m3 (by omega) k1 hnr k5 (by omega) (k.st q.2.1.2.1.2.2.2.1 q.2.1.2.2.1) hov (k7 i (List.mem_of_getElem? hj)) hj (k4.imp (fun z => Nat.ne_of_lt z)) k3 (by omega)
  refine ⟨h', g', A', L', P', n', e, v, c', r1, r2, r3, r4, ?_, r6⟩
  unfold Rcl at r5
  unfold Rc2
  omega
end KCC
