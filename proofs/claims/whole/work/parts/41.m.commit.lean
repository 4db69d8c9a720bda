def nr1 (D : Nat → TD) (i j : Nat) : Nat → TD := if (D j).1 1006 = 1 then va_up (va_up D i (va_up (D i).1 1009 1, (D i).2)) j (noteOutF (D j).1 ((D i).1 1007), (D j).2) else va_up D i (va_up (D i).1 1009 1, (D i).2)
def nrD (D : Nat → TD) (i : Nat) (xs : List Nat) : Nat → TD := xs.foldl (fun D j => nr1 D i j) D
section KW
variable {g : Nat → Nat} {h : Hp} {p : Nat → Nat} {G : Nat → Int32} {fv : Int64} {lr : Option Nat} {B : Shf} {V : List Kv} {ts : List Nat} {D : Nat → TD} {ac cm ot : List Nat} {ct rs : Nat → Int32} {d0 : AnD} {R : List (Int32 × Int64)} {cO nr : Nat}
theorem nr_loop (N : Nat) (hot : ∀ j ∈ ot, j < ts.length) (hol : ot.length < 100000) {i t : Nat} (hi : ts[i]? = some t) (hio : i ∉ ot) : ∀ (m k F : Nat) (h : Hp), m = ot.length - k → k ≤ ot.length → m < F → Kr g h p G fv lr B V ts (nrD D i (ot.take k)) ac cm ot ct rs d0 R cO → Wf g h → ∃ h', L_X9_noteReaders_2 N (p 11) F h (some t) (nI k) = some (h', ()) ∧ Kr g h' p G fv lr B V ts (nrD D i ot) ac cm ot ct rs d0 R cO ∧ Wf g h' ∧ h'.nx = h.nx ∧ h'.su = h.su := by
  intro m
  induction m with
  | zero =>
    intro k F h hm hk hF q w
    obtain ⟨F, rfl⟩ : ∃ F', F = F' + 1 := ⟨F - 1, by omega⟩
    rw [List.take_of_length_le (by omega)] at q
    refine ⟨h, ?_, q, w, rfl, rfl⟩
    show B_X9_noteReaders_2 N _ (p 11) h (some t) (nI k) = _
    unfold B_X9_noteReaders_2
    refine (dr_e (by exact q.1.2.2.2.2.2.2.2.2.2.2.2.1) (by exact q.2.2.2.2.2.1.2.1)).trans ?_
    refine (bnd (by exact al_size q.2.2.2.2.2.1.2 N)).trans ?_
    unfold B_X9_noteReaders_10
    rw [List.length_map]
    refine (if_pos (by exact (ni_le (by omega) (by omega)).mpr (by omega))).trans ?_
    rfl
  | succ m ih =>
    intro k F h hm hk hF q w
    obtain ⟨F, rfl⟩ : ∃ F', F = F' + 1 := ⟨F - 1, by omega⟩
    have hlt : k < ot.length := by omega
    have hj : ot[k]? = some ot[k] := List.getElem?_eq_getElem hlt
    have hjm := List.mem_of_getElem? hj
    have tk : ot.take (k + 1) = ot.take k ++ [ot[k]] := by rw [List.take_succ, hj]; rfl
    generalize ot[k] = j at hj hjm tk
    generalize hD : nrD D i (ot.take k) = D' at q
    have hD2 : nrD D i (ot.take (k + 1)) = nr1 D' i j := by
      rw [tk]
      unfold nrD
      rw [List.foldl_append]
      show nr1 (nrD D i (ot.take k)) i j = _
      rw [hD]
    have hu := adr_get (hot j hjm)
    have nij : j ≠ i := fun z => hio (by rw [← z]; exact hjm)
    have tt := q.2.2.2.2.2.2.2.2.2.2.1 i t hi
    have tj := q.2.2.2.2.2.2.2.2.2.2.1 _ _ hu
    have F1 := Fr.sfi w (Un.rf g t) 1009 1
    have q1 := q.tx w hi F1 (x := (va_up (D' i).1 1009 1, (D' i).2)) (tt.sfi 1009 1 (by decide) (by decide))
    have t1 := q1.2.2.2.2.2.2.2.2.2.2.1 i t hi
    rw [va_up_self] at t1
    have j1 := q1.2.2.2.2.2.2.2.2.2.2.1 _ _ hu
    rw [va_up_ne _ _ nij] at j1
    have m7 : (h.sfi 1009 t 1).fi 1007 t = (D' i).1 1007 := by
      rw [t1.2.2.1 1007]
      show va_up (D' i).1 1009 1 1007 = _
      rw [va_up_ne _ _ (by decide)]
    have start : ∀ {z : Option (Hp × Unit)}, (if (D' j).1 1006 = 1 then ((J_X7_noteOut N (adr ts j) (h.sfi 1009 t 1) ((D' i).1 1007)).bind (fun z => B_X9_noteReaders_46 N (L_X9_noteReaders_2 N (p 11) F) (p 11) z.1 (some t) (nI k))) else B_X9_noteReaders_46 N (L_X9_noteReaders_2 N (p 11) F) (p 11) (h.sfi 1009 t 1) (some t) (nI k)) = z → L_X9_noteReaders_2 N (p 11) (F + 1) h (some t) (nI k) = z := by
      intro z hz
      show B_X9_noteReaders_2 N (L_X9_noteReaders_2 N (p 11) F) (p 11) h (some t) (nI k) = _
      unfold B_X9_noteReaders_2
      refine (dr_e (by exact q.1.2.2.2.2.2.2.2.2.2.2.2.1) (by exact q.2.2.2.2.2.1.2.1)).trans ?_
      refine (bnd (by exact al_size q.2.2.2.2.2.1.2 N)).trans ?_
      unfold B_X9_noteReaders_10
      rw [List.length_map]
      refine (if_neg (by exact fun z => by rw [ni_le (by omega) (by omega)] at z; omega)).trans ?_
      refine (dr_e (by exact q.1.2.2.2.2.2.2.2.2.2.2.2.1) (by exact q.2.2.2.2.2.1.2.1)).trans ?_
      refine (bnd (by exact al_get q.2.2.2.2.2.1.2 N (map_get (ts := ts) hj))).trans ?_
      unfold B_X9_noteReaders_21
      refine (dr_e (by exact rfl) (by exact tj.1)).trans ?_
      refine (dr_e (by exact rfl) (by exact tt.1)).trans ?_
      rw [j1.2.2.1 1006, m7]
      exact hz
    by_cases c : (D' j).1 1006 = 1
    · obtain ⟨h2, e1, e2, e3, e4, e5⟩ := tx_noteOut j1 F1.wf N ((D' i).1 1007)
      have q2 := q1.tx F1.wf hu e3 (x := (noteOutF (D' j).1 ((D' i).1 1007), (D' j).2)) e2 (by rw [va_up_ne _ _ nij])
      have hn1 : nr1 D' i j = va_up (va_up D' i (va_up (D' i).1 1009 1, (D' i).2)) j (noteOutF (D' j).1 ((D' i).1 1007), (D' j).2) := by unfold nr1; rw [if_pos c]
      obtain ⟨h3, r1, r2, r3, r4, r5⟩ := ih (k + 1) F h2 (by omega) (by omega) (by omega) (by rw [hD2, hn1]; exact q2) e3.wf
      refine ⟨h3, start ?_, r2, r3, r4.trans (e4.trans (pj_sfi_nx _ _ _ _)), r5.trans (e5.trans (pj_sfi_su _ _ _ _))⟩
      rw [if_pos c]
      refine (bnd (by exact e1)).trans ?_
      unfold B_X9_noteReaders_46
      rw [ni_inc]
      exact r1
    · have hn1 : nr1 D' i j = va_up D' i (va_up (D' i).1 1009 1, (D' i).2) := by unfold nr1; rw [if_neg c]
      obtain ⟨h3, r1, r2, r3, r4, r5⟩ := ih (k + 1) F (h.sfi 1009 t 1) (by omega) (by omega) (by omega) (by rw [hD2, hn1]; exact q1) F1.wf
      refine ⟨h3, start ?_, r2, r3, r4.trans (pj_sfi_nx _ _ _ _), r5.trans (pj_sfi_su _ _ _ _)⟩
      rw [if_neg c]
      unfold B_X9_noteReaders_46
      rw [ni_inc]
      exact r1
/-- what a commit leaves -/
def ComR (g' : Nat → Nat) (h' : Hp) (p : Nat → Nat) (G : Nat → Int32) (fv : Int64) (lr : Option Nat) (B : Shf) (V : List Kv) (ts : List Nat) (D : Nat → TD) (ac cm ot : List Nat) (ct rs : Nat → Int32) (d0 : AnD) (R : List (Int32 × Int64)) (cO c' i j s : Nat) (v : Int32) : Prop :=
  (v = 1 ∧ ∃ y e, CfR (D i).2.2.1 B ((D i).1 1001) (some (y, e)) ∧ c' = cO ∧ Kr g' h' p G fv lr B V ts (endD D i (nI 4) (ac.eraseIdx j)) (ac.eraseIdx j) cm ot (endC ct 4) (va_up (va_up (va_up (va_up rs 0 1) 1 ((D i).1 1000)) 2 e.2.1) 3 y) d0 R c') ∨
  (CfR (D i).2.2.1 B ((D i).1 1001) none ∧ ∃ ot', GaR D i (cm.drop s ++ ac) ot' ∧
    ((v = 2 ∧ ∃ b, Fdq D ((D i).1 1008) ot' (some b) ∧ Kr g' h' p G fv lr B V ts (endD D i (nI 5) (ac.eraseIdx j)) (ac.eraseIdx j) cm ot' (endC ct 5) (va_up (va_up (va_up (va_up rs 0 2) 1 ((D b).1 1000)) 2 ((D i).1 1000)) 3 (nmOf ts D cm ((D i).1 1008))) d0 R c') ∨
     (v = 0 ∧ Fdq D ((D i).1 1008) ot' none ∧ ∃ B', Kr g' h' p G fv lr B' (V ++ inst (D i).2.2.1 (nI (cm.length + 1)) ((D i).1 1000)) ts (endD (nrD (va_up D i (va_up (D i).1 1007 (nI (cm.length + 1)), (D i).2)) i ot') i (nI 2) (ac.eraseIdx j)) (ac.eraseIdx j) (cm ++ [i]) ot' (endC ct 2) rs d0 R c')))
theorem inst_asc {V : List Kv} {cm : List Nat} (a : Asc V) (hV : ∀ x ∈ V, ∃ m, 1 ≤ m ∧ m ≤ cm.length ∧ x.2.1 = nI m) (hc : cm.length < 100000) (A : Shf) (ow : Int32) : Asc (V ++ inst A (nI (cm.length + 1)) ow) := by
  refine List.pairwise_append.mpr ⟨a, ?_, fun x hx y hy => ?_⟩
  · unfold inst
    rw [List.pairwise_map]
    exact List.Pairwise.imp (fun _ => Int32.le_refl _) (List.pairwise_of_forall (R := fun _ _ => True) (fun _ _ => trivial))
  · obtain ⟨m, m1, m2, m3⟩ := hV x hx
    obtain ⟨z, hz, rfl⟩ := List.mem_map.mp hy
    show x.2.1 ≤ nI (cm.length + 1)
    rw [m3]
    exact (ni_le (by omega) (by omega)).mpr (by omega)
theorem sum_mem (f : Nat → Nat) {i : Nat} : ∀ {xs : List Nat}, i ∈ xs → f i ≤ (xs.map f).sum := by
  intro xs
  induction xs with
  | nil => intro h; cases h
  | cons a r ih =>
    intro h
    rw [List.map_cons, List.sum_cons]
    rcases List.mem_cons.mp h with z | z
    · rw [← z]; omega
    · have := ih z; omega
def Rco (h h' : Hp) (c c' : Nat) (a : Nat) : Prop := h'.nx + c ≤ h.nx + c' + 1 + 3 * a ∧ h'.su + 4 * c ≤ h.su + 4 * c' + 9000 ∧ c ≤ c' ∧ c' ≤ max c 1200
theorem kr_commit (q : Kr g h p G fv lr B V ts D ac cm ot ct rs d0 R cO) (w : Wf g h) (k : Ki nr G B V ts D ac cm) (hnr : nr ≤ 512) (N : Nat) (hN : 100000 < N) {x : Int32} {i t j s : Nat} (hx : x = nI (i + 1)) (hi : ts[i]? = some t) (hs1 : (D i).1 1006 = 1) (hj : ac[j]? = some i) (hs : (D i).1 1001 = nI s) (hsc : s ≤ cm.length) (hal : ac.length ≤ 24) (hcl : cm.length ≤ 512) : ∃ h' g' v c', J_X9_commit N (p 11) h x = some (h', v) ∧ Wf g' h' ∧ Rco h h' cO c' (D i).2.2.1.length ∧ ComR g' h' p G fv lr B V ts D ac cm ot ct rs d0 R cO c' i j s v := by
  obtain ⟨k1, k2, k3, k4, k5, k6, k7, k8, k9, k10⟩ := id k
  have hil := (List.getElem?_eq_some_iff.mp hi).1
  have hnd : ac.Nodup := k4.imp (fun z => Nat.ne_of_lt z)
  have tt := q.2.2.2.2.2.2.2.2.2.2.1 i t hi
  have hia := List.mem_of_getElem? hj
  have hic := k7 i hia
  obtain ⟨m1, m2, m3, m4, m5⟩ := k10 i hil
  have hAl : (D i).2.2.1.length ≤ (D i).2.2.2.1.length := by
    rw [bk_len tt.2.2.2.1.2.2.1.2.2.2.2.1 tt.2.2.2.1.2.2.1.2.2.2.2.2.1 tt.2.2.2.1.2.2.2.1]
    exact nk_le _
  have hsum := sum_mem (fun i => (D i).2.2.2.2.2.1) hia
  obtain ⟨h1, r, e1, e2, q1, w1, e5, e6⟩ := kr_conf q w N hN hi
  have start : ∀ {z : Option (Hp × Int32)}, B_X9_commit_11 N (p 11) h1 (some t) (if r = none then 0 else 1) = z → J_X9_commit N (p 11) h x = z := by
    intro z hz
    unfold J_X9_commit B_X9_commit_0
    refine (bnd (by exact kr_active q N hx hi hs1)).trans ?_
    unfold B_X9_commit_5
    refine (bnd (by exact e1)).trans ?_
    exact hz
  cases r with
  | some y =>
    obtain ⟨y, e⟩ := y
    obtain ⟨h2, f1, f2, f3, f4, f5⟩ := kr_end q1 w1 N hN (s := 4) hi hj hnd k3 (by decide)
    refine ⟨h2, g, 1, cO, start ?_, f3.1, ?_, Or.inl ⟨rfl, y, e, e2, rfl, f2⟩⟩
    · unfold B_X9_commit_11
      rw [show (if (some (y, e) : Option (Int32 × Ent)) = none then (0 : Int32) else 1) = 1 from if_neg (by simp)]
      refine (if_neg (by decide)).trans ?_
      refine (bnd (by exact f1)).trans ?_
      rfl
    · unfold Rco; omega
  | none =>
    obtain ⟨h2, g2, ot2, f1, f2, q2, f4, f5⟩ := kr_readers (n := 540) q1 w1 N hN hi k3 k5 (by decide) (by omega) hs hsc
    have hot : ∀ x ∈ ot2, x < ts.length := fun x hx => by
      have := ((f2.1 x).mp hx).1
      rcases List.mem_append.mp this with z | z
      · exact k5 x (List.mem_of_mem_drop z)
      · exact k3 x z
    have hio : i ∉ ot2 := fun z => ((f2.1 i).mp z).2.1 rfl
    have hcO : cap h1 (p 10) = cO := q1.2.2.2.2.2.1.1.2
    obtain ⟨h3, r3, d1, d2, q3, w3, d5, d6⟩ := kr_danger q2 f4 N hN k5 hot hi
    have start2 : ∀ {z : Option (Hp × Int32)}, B_X9_commit_32 N (p 11) h3 (some t) (if r3 = none then 0 else 1) = z → J_X9_commit N (p 11) h x = z := by
      intro z hz
      refine start ?_
      unfold B_X9_commit_11
      rw [show (if (none : Option (Int32 × Ent)) = none then (0 : Int32) else 1) = 0 from if_pos rfl]
      refine (if_pos (by rfl)).trans ?_
      refine (bnd (by exact f1)).trans ?_
      unfold B_X9_commit_27
      refine (bnd (by exact d1)).trans ?_
      exact hz
    cases r3 with
    | some b =>
      obtain ⟨h4, a1, a2, a3, a4, a5⟩ := kr_end q3 w3 N hN (s := 5) hi hj hnd k3 (by decide)
      refine ⟨h4, g2, 2, cap h2 (p 10), start2 ?_, a3.1, ?_, Or.inr ⟨e2, ot2, f2, Or.inl ⟨rfl, b, d2, a2⟩⟩⟩
      · unfold B_X9_commit_32
        rw [show (if (some b : Option Nat) = none then (0 : Int32) else 1) = 1 from if_neg (by simp)]
        refine (if_neg (by decide)).trans ?_
        refine (bnd (by exact a1)).trans ?_
        rfl
      · unfold Grn at f5
        unfold Rco; omega
    | none =>
      have t3 := q3.2.2.2.2.2.2.2.2.2.2.1 i t hi
      have F4 := Fr.sfi w3 (Un.rf g2 t) 1007 (nI (cm.length + 1))
      have q4 := q3.tx w3 hi F4 (x := (va_up (D i).1 1007 (nI (cm.length + 1)), (D i).2)) (t3.sfi 1007 _ (by decide) (by decide))
      have t4 := q4.2.2.2.2.2.2.2.2.2.2.1 i t hi
      rw [va_up_self] at t4
      obtain ⟨h5, g5, b1, b2, b3, b4⟩ := al_add q4.2.2.2.2.1.2 F4.wf (x := t) (Or.inr (Or.inr t4.1)) (by rw [List.length_map]; omega) N
      rw [show cm.map (adr ts) ++ [t] = (cm ++ [i]).map (adr ts) by rw [List.map_append, List.map_singleton, adr_eq hi]] at b2
      have q5 := q4.com F4.wf b3 b2
      have t5 := q5.2.2.2.2.2.2.2.2.2.2.1 i t hi
      rw [va_up_self] at t5
      have k25 := q5.2.1
      have sp5 : Sep g5 (p 0) (D i).2.1.1 := sep_roots k25.1 t5.2.2.2.1.2.1 (ne_kd k25.2.1.1 t5.2.2.2.1.2.2.1.1.1 (by decide))
      obtain ⟨h6, g6, B6, c1, c2, c3, c4, c5⟩ := vw_install t5.2.2.2.1.2.2.1 k25.2.1 k25.2.2.1 b3.wf sp5 N hN (nI (cm.length + 1)) (show V.length + (D i).2.2.1.length < 90000 by omega)
      have hst0 : va_up (D i).1 1007 (nI (cm.length + 1)) 1000 = (D i).1 1000 := va_up_ne _ _ (by decide)
      have c3' : BkL B6 (V ++ inst (D i).2.2.1 (nI (cm.length + 1)) ((D i).1 1000)) := by rw [← hst0]; exact c3
      have q6 := q5.store b3.wf c4 c2 c3' (inst_asc q.2.1.2.2.2 k8 (by omega) _ _)
      obtain ⟨h7, n1, q7, w7, n4, n5⟩ := nr_loop (D := va_up D i (va_up (D i).1 1007 (nI (cm.length + 1)), (D i).2)) N hot (by have := f2.2; rw [List.length_append, List.length_drop] at this; omega) hi hio ot2.length 0 N h6 rfl (Nat.zero_le _) (by have := f2.2; rw [List.length_append, List.length_drop] at this; omega) q6 c4.wf
      obtain ⟨h8, a1, a2, a3, a4, a5⟩ := kr_end q7 w7 N hN (s := 2) hi hj hnd k3 (by decide)
      refine ⟨h8, g6, 0, cap h2 (p 10), start2 ?_, a3.1, ?_, Or.inr ⟨e2, ot2, f2, Or.inr ⟨rfl, d2, B6, a2⟩⟩⟩
      · unfold B_X9_commit_32
        rw [show (if (none : Option Nat) = none then (0 : Int32) else 1) = 0 from if_pos rfl]
        refine (if_pos (by rfl)).trans ?_
        refine (dr_e (by exact q3.1.2.2.2.2.2.2.2.1) (by exact q3.2.2.2.2.1.2.1)).trans ?_
        refine (bnd (by exact al_size q3.2.2.2.2.1.2 N)).trans ?_
        unfold B_X9_commit_51
        rw [List.length_map]
        refine (dr_e (by exact rfl) (by exact t3.1)).trans ?_
        rw [ni_inc]
        refine (dr_e (by exact q4.1.2.2.2.2.2.2.2.1) (by exact q4.2.2.2.2.1.2.1)).trans ?_
        refine (bnd (by exact b1)).trans ?_
        unfold B_X9_commit_64
        refine (dr_e (by exact rfl) (by exact t5.1)).trans ?_
        refine (dr_e (by exact t5.2.2.2.1.1) (by exact t5.2.2.2.1.2.2.1.1.1)).trans ?_
        rw [t5.2.2.1 1007, show ((va_up (D i).1 1007 (nI (cm.length + 1)), (D i).2) : TD).1 1007 = nI (cm.length + 1) from by show va_up (D i).1 1007 (nI (cm.length + 1)) 1007 = _; rw [va_up_self]]
        refine (bnd (by exact c1)).trans ?_
        unfold B_X9_commit_76 J_X9_noteReaders B_X9_noteReaders_0
        refine (bnd (by exact n1)).trans ?_
        unfold B_X9_commit_81
        refine (bnd (by exact a1)).trans ?_
        rfl
      · have z1 := b4.2.2.2.1
        have z2 := b4.2.2.2.2.1
        rw [List.length_map] at z2
        rw [pj_sfi_nx] at z1
        rw [pj_sfi_su] at z2
        have c5 : Ins h5 h6 (p 1) (D i).2.2.1.length (V.length + (D i).2.2.1.length) := c5
        unfold Ins at c5
        unfold Grn at f5
        unfold Rco
        omega
end KW
