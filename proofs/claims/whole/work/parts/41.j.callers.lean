/-! the methods that make a call -/
section KCA
variable {g : Nat → Nat} {h : Hp} {p : Nat → Nat} {G : Nat → Int32} {fv : Int64} {lr : Option Nat} {B : Shf} {V : List Kv} {ts : List Nat} {D : Nat → TD} {ac cm ot : List Nat} {ct rs : Nat → Int32} {d0 : AnD} {R : List (Int32 × Int64)} {cO : Nat}
theorem kr_read (q : Kr g h p G fv lr B V ts D ac cm ot ct rs d0 R cO) (w : Wf g h) (N : Nat) {x : Int32} {i t : Nat} (hx : x = nI (i + 1)) (hi : ts[i]? = some t) (hs : (D i).1 1006 = 1) (k : Int32) : ∃ h1, NewC g h h1 (0, k, 0, 0, 0, 0) ∧ ∀ h' v, J_X9_carryOut N (p 11) h1 (some t) (some h.nx) = some (h', v) → J_X9_read N (p 11) h x k = some (h', v) := by
  obtain ⟨h1, e1, e2, e3, e4, e5, e6⟩ := nc_init w N 0 k
  refine ⟨h1, ⟨e2, e3, e4, e5, e6⟩, fun h' v z => ?_⟩
  unfold J_X9_read B_X9_read_0
  refine (bnd (by exact kr_active q N hx hi hs)).trans ?_
  unfold B_X9_read_5 B_X9_read_11
  refine (dr_e (by exact rfl) (by exact new_kd (n := 0) (sl := 7))).trans ?_
  refine (bnd (by exact e1)).trans ?_
  unfold B_X9_read_17
  refine (dr_e (by exact rfl) (by exact e2.kd w q.1.1 (by decide))).trans ?_
  refine (bnd (by exact z)).trans ?_
  rfl
theorem kr_near (q : Kr g h p G fv lr B V ts D ac cm ot ct rs d0 R cO) (w : Wf g h) (N : Nat) {x : Int32} {i t : Nat} (hx : x = nI (i + 1)) (hi : ts[i]? = some t) (hs : (D i).1 1006 = 1) (k f : Int32) (hf : f = 0 ∨ f = 1) : ∃ h1, NewC g h h1 (1, k, 0, 0, f, 0) ∧ ∀ h' v, J_X9_carryOut N (p 11) h1 (some t) (some h.nx) = some (h', v) → J_X9_near N (p 11) h x k f = some (h', v) := by
  obtain ⟨h1, e1, e2, e3, e4, e5, e6⟩ := nc_init w N 1 k
  refine ⟨_, NewC.flag (x := f) ⟨e2, e3, e4, e5, e6⟩ w, fun h' v z => ?_⟩
  unfold J_X9_near B_X9_near_0
  refine (bnd (by exact kr_active q N hx hi hs)).trans ?_
  unfold B_X9_near_5 B_X9_near_10
  refine (dr_e (by exact rfl) (by exact new_kd (n := 0) (sl := 7))).trans ?_
  refine (bnd (by exact e1)).trans ?_
  unfold B_X9_near_16
  refine (dr_e (by exact rfl) (by exact e3.1)).trans ?_
  refine (ck_eq (by exact hf)).trans ?_
  refine (bnd (by exact z)).trans ?_
  rfl
theorem kr_scan (q : Kr g h p G fv lr B V ts D ac cm ot ct rs d0 R cO) (w : Wf g h) (N : Nat) {x : Int32} {i t : Nat} (hx : x = nI (i + 1)) (hi : ts[i]? = some t) (hs : (D i).1 1006 = 1) (a b m : Int32) (hab : a ≤ b) (hm1 : ¬ m < 1) (hm2 : m ≤ 100) : ∃ h1, NewC g h h1 (2, a, b, m, 0, 0) ∧ ∀ h' v, J_X9_carryOut N (p 11) h1 (some t) (some h.nx) = some (h', v) → J_X9_scan N (p 11) h x a b m = some (h', v) := by
  obtain ⟨h1, e1, e2, e3, e4, e5, e6⟩ := nc_init w N 2 a
  refine ⟨_, NewC.num (x := m) (NewC.to (x := b) ⟨e2, e3, e4, e5, e6⟩ w) w, fun h' v z => ?_⟩
  unfold J_X9_scan B_X9_scan_0
  refine (bnd (by exact kr_active q N hx hi hs)).trans ?_
  unfold B_X9_scan_5
  refine (if_pos (by exact hab)).trans ?_
  refine (if_neg (by exact hm1)).trans ?_
  refine (if_pos (by exact hm2)).trans ?_
  unfold B_X9_scan_48
  refine (dr_e (by exact rfl) (by exact new_kd (n := 0) (sl := 7))).trans ?_
  refine (bnd (by exact e1)).trans ?_
  unfold B_X9_scan_54
  refine (dr_e (by exact rfl) (by exact e3.1)).trans ?_
  refine (bnd (by exact z)).trans ?_
  rfl
theorem kr_write (q : Kr g h p G fv lr B V ts D ac cm ot ct rs d0 R cO) (w : Wf g h) (N : Nat) {x : Int32} {i t : Nat} (hx : x = nI (i + 1)) (hi : ts[i]? = some t) (hs : (D i).1 1006 = 1) (hk : (D i).1 1005 = 0) (k : Int32) (l : Int64) : ∃ h1, NewC g h h1 (3, k, 0, 0, 1, l) ∧ ∀ h' v, J_X9_carryOut N (p 11) h1 (some t) (some h.nx) = some (h', v) → J_X9_write N (p 11) h x k l = some (h', v) := by
  obtain ⟨h1, e1, e2, e3, e4, e5, e6⟩ := nc_init w N 3 k
  refine ⟨_, NewC.val (x := l) (NewC.flag (x := 1) ⟨e2, e3, e4, e5, e6⟩ w) w, fun h' v z => ?_⟩
  unfold J_X9_write B_X9_write_0
  refine (bnd (by exact kr_writing q N hx hi hs hk)).trans ?_
  unfold B_X9_write_5 B_X9_write_10
  refine (dr_e (by exact rfl) (by exact new_kd (n := 0) (sl := 7))).trans ?_
  refine (bnd (by exact e1)).trans ?_
  unfold B_X9_write_16
  refine (dr_e (by exact rfl) (by exact e3.1)).trans ?_
  refine (bnd (by exact z)).trans ?_
  rfl
theorem kr_remove (q : Kr g h p G fv lr B V ts D ac cm ot ct rs d0 R cO) (w : Wf g h) (N : Nat) {x : Int32} {i t : Nat} (hx : x = nI (i + 1)) (hi : ts[i]? = some t) (hs : (D i).1 1006 = 1) (hk : (D i).1 1005 = 0) (k : Int32) : ∃ h1, NewC g h h1 (3, k, 0, 0, 0, 0) ∧ ∀ h' v, J_X9_carryOut N (p 11) h1 (some t) (some h.nx) = some (h', v) → J_X9_remove N (p 11) h x k = some (h', v) := by
  obtain ⟨h1, e1, e2, e3, e4, e5, e6⟩ := nc_init w N 3 k
  refine ⟨h1, ⟨e2, e3, e4, e5, e6⟩, fun h' v z => ?_⟩
  unfold J_X9_remove B_X9_remove_0
  refine (bnd (by exact kr_writing q N hx hi hs hk)).trans ?_
  unfold B_X9_remove_5 B_X9_remove_11
  refine (dr_e (by exact rfl) (by exact new_kd (n := 0) (sl := 7))).trans ?_
  refine (bnd (by exact e1)).trans ?_
  unfold B_X9_remove_17
  refine (dr_e (by exact rfl) (by exact e2.kd w q.1.1 (by decide))).trans ?_
  refine (bnd (by exact z)).trans ?_
  rfl
theorem kr_save (q : Kr g h p G fv lr B V ts D ac cm ot ct rs d0 R cO) (w : Wf g h) (N : Nat) {x : Int32} {i t : Nat} (hx : x = nI (i + 1)) (hi : ts[i]? = some t) (hs : (D i).1 1006 = 1) : ∃ h1, NewC g h h1 (4, 0, 0, 0, 0, 0) ∧ ∀ h' v, J_X9_carryOut N (p 11) h1 (some t) (some h.nx) = some (h', v) → J_X9_save N (p 11) h x = some (h', v) := by
  obtain ⟨h1, e1, e2, e3, e4, e5, e6⟩ := nc_init w N 4 0
  refine ⟨h1, ⟨e2, e3, e4, e5, e6⟩, fun h' v z => ?_⟩
  unfold J_X9_save B_X9_save_0
  refine (bnd (by exact kr_active q N hx hi hs)).trans ?_
  unfold B_X9_save_5 B_X9_save_11
  refine (dr_e (by exact rfl) (by exact new_kd (n := 0) (sl := 7))).trans ?_
  refine (bnd (by exact e1)).trans ?_
  unfold B_X9_save_17
  refine (dr_e (by exact rfl) (by exact e2.kd w q.1.1 (by decide))).trans ?_
  refine (bnd (by exact z)).trans ?_
  rfl
theorem kr_undo (q : Kr g h p G fv lr B V ts D ac cm ot ct rs d0 R cO) (w : Wf g h) (N : Nat) {x : Int32} {i t : Nat} (hx : x = nI (i + 1)) (hi : ts[i]? = some t) (hs : (D i).1 1006 = 1) (n : Int32) (h1n : 1 ≤ n.toInt) (h2n : n.toInt ≤ (D i).2.2.2.2.1.length) : ∃ h1, NewC g h h1 (5, 0, 0, n, 0, 0) ∧ ∀ h' v, J_X9_carryOut N (p 11) h1 (some t) (some h.nx) = some (h', v) → J_X9_undo N (p 11) h x n = some (h', v) := by
  have tt := q.2.2.2.2.2.2.2.2.2.2.1 i t hi
  obtain ⟨h1, e1, e2, e3, e4, e5, e6⟩ := nc_init w N 5 0
  refine ⟨_, NewC.num (x := n) ⟨e2, e3, e4, e5, e6⟩ w, fun h' v z => ?_⟩
  unfold J_X9_undo B_X9_undo_0
  refine (bnd (by exact kr_active q N hx hi hs)).trans ?_
  unfold B_X9_undo_5
  refine (dr_e (by exact rfl) (by exact tt.1)).trans ?_
  refine (dr_e (by exact tt.2.2.2.1.1) (by exact tt.2.2.2.1.2.2.1.1.1)).trans ?_
  refine (bnd (by exact vw_hasPlace tt.2.2.2.1.2.2.1.1 N n)).trans ?_
  unfold B_X9_undo_14
  rw [if_pos (show 1 ≤ n.toInt ∧ n.toInt ≤ (D i).2.2.2.2.1.length from ⟨h1n, h2n⟩)]
  refine (if_neg (by show ¬ (1 : Int32) = 0; decide)).trans ?_
  unfold B_X9_undo_30
  refine (dr_e (by exact rfl) (by exact new_kd (n := 0) (sl := 7))).trans ?_
  refine (bnd (by exact e1)).trans ?_
  unfold B_X9_undo_36
  refine (dr_e (by exact rfl) (by exact e3.1)).trans ?_
  refine (bnd (by exact z)).trans ?_
  rfl
theorem kr_abort (q : Kr g h p G fv lr B V ts D ac cm ot ct rs d0 R cO) (w : Wf g h) (N : Nat) (hN : 100000 < N) {x : Int32} {i t j : Nat} (hx : x = nI (i + 1)) (hi : ts[i]? = some t) (hs : (D i).1 1006 = 1) (hj : ac[j]? = some i) (hnd : ac.Nodup) (hac : ∀ j ∈ ac, j < ts.length) : ∃ h', J_X9_abort N (p 11) h x = some (h', ()) ∧ Kr g h' p G fv lr B V ts (endD D i (nI 3) (ac.eraseIdx j)) (ac.eraseIdx j) cm ot (endC ct 3) rs d0 R cO ∧ Wf g h' ∧ h'.nx = h.nx ∧ h'.su = h.su := by
  obtain ⟨h', e1, e2, e3, e4, e5⟩ := kr_end q w N hN (s := 3) hi hj hnd hac (by decide)
  refine ⟨h', ?_, e2, e3.1, e4, e5⟩
  unfold J_X9_abort B_X9_abort_0
  refine (bnd (by exact kr_active q N hx hi hs)).trans ?_
  unfold B_X9_abort_6
  refine (dr_e (by exact rfl) (by exact q.1.1)).trans ?_
  refine (bnd (by exact e1)).trans ?_
  rfl
end KCA
