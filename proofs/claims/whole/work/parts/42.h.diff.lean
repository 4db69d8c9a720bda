/-! all done again -/
/-- what a call makes of the places and the count of writes -/
def stepP (P : List Nat) (n : Nat) (c : Clq) : List Nat × Nat := if c.1 = 3 then (P, n + 1) else if c.1 = 4 then (if P.length < 10 then P ++ [n] else P, n) else if c.1 = 5 then (P.take c.2.2.2.1.toInt.toNat, n) else (P, n)
theorem callR_P {L V : List Kv} {st ow : Int32} {P : List Nat} {n : Nat} {c : Clq} {L' : List Kv} {P' : List Nat} {n' : Nat} {d : AnD} (q : CallR L V st ow P n c L' P' n' d) (hP : P.length ≤ 10) : P' = (stepP P n c).1 ∧ n' = (stepP P n c).2 := by
  unfold stepP
  rcases q with ⟨k, -, h2, h3, -⟩ | ⟨k, -, h2, h3, -⟩ | ⟨k, -, h2, h3, -⟩ | ⟨k, -, h2, h3, -⟩ | ⟨k, -, h3, h2, -⟩ | ⟨k, h3, m, s, k1, k2, k3, -, h2, -⟩
  · rw [k, if_neg (by decide), if_neg (by decide), if_neg (by decide)]; exact ⟨h2, h3⟩
  · rw [k, if_neg (by decide), if_neg (by decide), if_neg (by decide)]; exact ⟨h2, h3⟩
  · rw [k, if_neg (by decide), if_neg (by decide), if_neg (by decide)]; exact ⟨h2, h3⟩
  · rw [if_pos k]; exact ⟨h2, h3⟩
  · rw [k, if_neg (by decide), if_pos rfl]; exact ⟨h2, h3⟩
  · rw [k, if_neg (by decide), if_neg (by decide), if_pos rfl]
    have := (List.getElem?_eq_some_iff.mp k3).1
    refine ⟨?_, h3⟩
    rw [h2, k1, nI_toInt (by omega)]
    rfl
def OkC : List (Nat × Ck) → List Nat → Nat → Prop
  | [], _, _ => True
  | c :: r, P, n => ClOk P c.2.1 ∧ OkC r (stepP P n c.2.1).1 (stepP P n c.2.1).2
/-- whether it tells otherwise than then -/
def Df (th : Option AnD) (d : AnD) (m m1 : Nat) : Prop := (th = none ∧ m1 = m) ∨ ∃ t, th = some t ∧ ((same3 d t ∧ m1 = m) ∨ (¬ same3 d t ∧ m1 = m + 1))
/-- the calls of one, done again -/
def RepT (V : List Kv) (st ow : Int32) : List (Nat × Ck) → List Kv → List Nat → Nat → Nat → List Kv → Nat → Prop
  | [], L, _, _, m, L', m' => L' = L ∧ m' = m
  | c :: r, L, P, n, m, L', m' => ∃ L1 P1 n1 d m1, CallR L V st ow P n c.2.1 L1 P1 n1 d ∧ Df c.2.2 d m m1 ∧ RepT V st ow r L1 P1 n1 m1 L' m'
theorem callR_L {L V : List Kv} {st ow : Int32} {P : List Nat} {n : Nat} {c : Clq} {L' : List Kv} {P' : List Nat} {n' : Nat} {d : AnD} (q : CallR L V st ow P n c L' P' n' d) (hL : L.length ≤ n) (hP : P.length ≤ 10) : L'.length ≤ n' ∧ n' ≤ n + 1 ∧ P'.length ≤ 10 := by
  rcases q with ⟨k, h1, h2, h3, -⟩ | ⟨k, h1, h2, h3, -⟩ | ⟨k, h1, h2, h3, -⟩ | ⟨k, h1, h2, h3, -⟩ | ⟨k, h1, h3, h2, -⟩ | ⟨k, h3, m, s, k1, k2, k3, h1, h2, -⟩
  · rw [h1, h2, h3]; omega
  · rw [h1, h2, h3]; omega
  · rw [h1, h2, h3]; omega
  · rw [h1, h2, h3, List.length_append]; show _ + 1 ≤ _ ∧ _; omega
  · rw [h1, h3]
    refine ⟨hL, by omega, ?_⟩
    rw [h2]
    by_cases c : P.length < 10
    · rw [if_pos c, List.length_append]; show _ + 1 ≤ 10; omega
    · rw [if_neg c]; exact hP
  · rw [h1, h2, h3, List.length_take]
    have : (cutS (nI s) L).length ≤ L.length := List.length_filter_le _ _
    omega
/-- only what lies under v or s has changed -/
def Fr2 (g g' : Nat → Nat) (v s : Nat) (h h' : Hp) : Prop := (∀ a, a < h.nx → g' a = g a) ∧ (∀ a, a < h.nx → ¬ Un g v a → ¬ Un g s a → AgC h h' a) ∧ Mo h h' ∧ Wf g' h'
theorem Fr2.rf {g : Nat → Nat} {h : Hp} (w : Wf g h) (v s : Nat) : Fr2 g g v s h h := ⟨fun _ _ => rfl, fun a _ _ _ => AgC.rf h a, Mo.rf h, w⟩
theorem Fr2.itq {g g' : Nat → Nat} {v s : Nat} {h h' : Hp} (F : Fr2 g g' v s h h') (w : Wf g h) : ∀ n a, a < h.nx → it g' n a = it g n a := by
  intro n
  induction n with
  | zero => intro a _; rfl
  | succ n ih =>
    intro a ha
    show it g' n (g' a) = it g n (g a)
    rw [F.1 a ha]
    exact ih _ (Nat.lt_of_le_of_lt (w.2.2.2.1 a) ha)
theorem Fr2.un {g g' : Nat → Nat} {v s : Nat} {h h' : Hp} (F : Fr2 g g' v s h h') (w : Wf g h) {q a : Nat} (ha : a < h.nx) (u : Un g' q a) : Un g q a := u.elim fun n e => ⟨n, by rw [← F.itq w n a ha]; exact e⟩
theorem Fr2.tr {g1 g2 g3 : Nat → Nat} {v s : Nat} {h1 h2 h3 : Hp} (P : Fr2 g1 g2 v s h1 h2) (w : Wf g1 h1) (Q : Fr2 g2 g3 v s h2 h3) : Fr2 g1 g3 v s h1 h3 := by
  have lt : ∀ a, a < h1.nx → a < h2.nx := fun a ha => Nat.lt_of_lt_of_le ha P.2.2.1.2.1
  exact ⟨fun a ha => (Q.1 a (lt a ha)).trans (P.1 a ha), fun a ha n1 n2 => (P.2.1 a ha n1 n2).tr (Q.2.1 a (lt a ha) (fun u => n1 (P.un w ha u)) (fun u => n2 (P.un w ha u))), P.2.2.1.tr Q.2.2.1, Q.2.2.2⟩
theorem Fr.l2 {g g' : Nat → Nat} {v : Nat} {h h' : Hp} (F : Fr g g' v h h') (s : Nat) : Fr2 g g' v s h h' := ⟨F.1, fun a ha n _ => F.2.1 a ha n, F.2.2.1, F.2.2.2⟩
theorem Fr.r2 {g g' : Nat → Nat} {s : Nat} {h h' : Hp} (F : Fr g g' s h h') (v : Nat) : Fr2 g g' v s h h' := ⟨F.1, fun a ha _ n => F.2.1 a ha n, F.2.2.1, F.2.2.2⟩
theorem Au.fr2 {g g' : Nat → Nat} {v s : Nat} {h h' : Hp} {au S lc n ah od : Nat} (q : Au g h au S lc n ah od) (w : Wf g h) (F : Fr2 g g' v s h h') (s1 : Sep g v au) (s2 : Sep g s au) : Au g' h' au S lc n ah od ∧ h'.ai od = h.ai od ∧ h'.aw ah = h.aw ah := by
  obtain ⟨a1, a2, a3, a4, a5, a6, a7, a8, a9, a10, a11, a12, a13, a14, a15⟩ := q
  have l1 := w.lt a1 (by decide)
  have l2 := w.lt a8 (by decide)
  have l3 := w.lt a12 (by decide)
  have ag := F.2.1 au l1 s1.1 s2.1
  have ag2 := F.2.1 ah l2 (s1.ch a9).1 (s2.ch a9).1
  have ag3 := F.2.1 od l3 (s1.ch a13).1 (s2.ch a13).1
  exact ⟨⟨(F.2.2.1.1 au l1).trans a1, (F.1 au l1).trans a2, (ag.fr _).trans a3, (ag.fr _).trans a4, (ag.fi _).trans a5, (ag.fi _).trans a6, (ag.fr _).trans a7, (F.2.2.1.1 ah l2).trans a8, (F.1 ah l2).trans a9, (F.2.2.1.2.2.2.2 ah l2).trans a10, (ag.fr _).trans a11, (F.2.2.1.1 od l3).trans a12, (F.1 od l3).trans a13, (F.2.2.1.2.2.2.2 od l3).trans a14, a15⟩, ag3.ai, ag2.aw⟩
section DI
variable {p : Nat → Nat} {G : Nat → Int32} {fv : Int64} {lr : Option Nat} {B : Shf} {V : List Kv} {ts : List Nat} {D : Nat → TD} {ac cm ot : List Nat} {ct rs : Nat → Int32} {R : List (Int32 × Int64)} {cO : Nat}
/-- a root that is none of the object's changes -/
theorem Kr.out {g g' : Nat → Nat} {h h' : Hp} {d0 : AnD} (q : Kr g h p G fv lr B V ts D ac cm ot ct rs d0 R cO) (w : Wf g h) {r : Nat} (hr : g r = r) (hk : (h.kd r = 11 ∧ ∀ (j u : Nat), ts[j]? = some u → (D j).2.1.1 ≠ r) ∨ (h.kd r = 8 ∧ p 0 ≠ r) ∨ h.kd r = 4 ∨ h.kd r = 21) (F : Fr g g' r h h') : Kr g' h' p G fv lr B V ts D ac cm ot ct rs d0 R cO := by
  obtain ⟨k1, k2, k3, k4, k5, k6, k7, k8, k9, k10, k11, k12⟩ := q
  have hk' : h.kd r = 11 ∨ h.kd r = 8 ∨ h.kd r = 4 ∨ h.kd r = 21 := hk.imp And.left (Or.imp And.left id)
  have rt : Rt g h (p 7) r := ⟨hr, by omega, by omega, fun z => by omega⟩
  have ne : ∀ {a k : Nat}, h.kd a = k → k ≠ 11 → k ≠ 8 → k ≠ 4 → k ≠ 21 → a ≠ r := fun ha n1 n2 n3 n4 z => by rw [z] at ha; omega
  have n0 : p 0 ≠ r := by
    rcases hk with z | z | z | z
    · exact ne_kd k2.2.1.1 z.1 (by decide)
    · exact z.2
    · exact ne_kd k2.2.1.1 z (by decide)
    · exact ne_kd k2.2.1.1 z (by decide)
  refine ⟨k1.fr w F hr (ne k1.1 (by decide) (by decide) (by decide) (by decide)), k2.fr w F hr (by omega) n0, k3.fr w F hr (ne k3.2.1 (by decide) (by decide) (by decide) (by decide)), k4.fr w F hr (ne k4.2.1 (by decide) (by decide) (by decide) (by decide)), k5.fr w F hr (ne k5.2.1 (by decide) (by decide) (by decide) (by decide)), k6.fr w F hr (ne k6.2.1 (by decide) (by decide) (by decide) (by decide)), k7.fr w F (ne k7.1 (by decide) (by decide) (by decide) (by decide)), k8.fr w F (ne k8.1 (by decide) (by decide) (by decide) (by decide)), k9.rt w F hr (ne k9.1 (by decide) (by decide) (by decide) (by decide)), k10.fr w F hr (fun z => by omega), fun i t ht => (k11 i t ht).fr w F rt (ne (k11 i t ht).1 (by decide) (by decide) (by decide) (by decide)) ?_, k12⟩
  rcases hk with z | z | z | z
  · exact z.2 i t ht
  · exact ne_kd (k11 i t ht).2.2.2.1.2.2.1.1.1 z.1 (by decide)
  · exact ne_kd (k11 i t ht).2.2.2.1.2.2.1.1.1 z (by decide)
  · exact ne_kd (k11 i t ht).2.2.2.1.2.2.1.1.1 z (by decide)
def Rdi (h h' : Hp) (l c n : Nat) : Prop := h'.su + 4 * cap h l ≤ h.su + 7 * c + 4 * cap h' l ∧ cap h l ≤ cap h' l ∧ cap h' l ≤ max (cap h l) (2 * n + 10) ∧ h'.nx ≤ h.nx + 3 * c
theorem di_in {v S lS O lO pl au n0 : Nat} {st ow : Int32} {W : List Kv} {i t : Nat} (hi : ts[i]? = some t) (hv : ∀ (j u : Nat), ts[j]? = some u → (D j).2.1.1 ≠ v) (hS : p 0 ≠ S) (hn0 : n0 < 90000) (N : Nat) (hN : 1000000 < N) (x2 : Option Nat) (x4 : Int32) (k13 : Hp → Option Nat → Option Nat → Int32 → Int32 → Option (Hp × Int32)) : ∀ (c k F : Nat) (g : Nat → Nat) (h : Hp) (d0 : AnD) (A BS : Shf) (L : List Kv) (P : List Nat) (n m : Nat), c = (D i).2.2.2.2.2.2.2.length - k → k ≤ (D i).2.2.2.2.2.2.2.length → c < F → Kr g h p G fv lr B V ts D ac cm ot ct rs d0 R cO → Wf g h → g v = v → g S = S → VW g h v S O lO pl st ow A P n → Sh g h S lS BS → BkL A L → BkL BS W → Asc L → StB L n → L.length ≤ n → P.length ≤ 10 → n + c ≤ n0 → OkC ((D i).2.2.2.2.2.2.2.drop k) P n → ∃ h' g' d' A' L' P' n' m', L_X1_differences_61 N k13 au F h (some (p 7)) x2 (nI m) x4 (some t) (some v) (nI k) = (J_X8_install N v h' (x4 + 1)).bind (fun z => B_X1_differences_135 N k13 au z.1 (some (p 7)) x2 (nI m') x4) ∧ RepT W st ow ((D i).2.2.2.2.2.2.2.drop k) L P n m L' m' ∧ Kr g' h' p G fv lr B V ts D ac cm ot ct rs d' R cO ∧ Wf g' h' ∧ g' v = v ∧ g' S = S ∧ VW g' h' v S O lO pl st ow A' P' n' ∧ Sh g' h' S lS BS ∧ BkL A' L' ∧ L'.length ≤ n0 ∧ m' ≤ m + c ∧ Rdi h h' lO c n0 ∧ Fr2 g g' v (p 7) h h' := by
  intro c
  induction c with
  | zero =>
    intro k F g h d0 A BS L P n m hc hk hF q w gv gS vw sh bA bS as sb hL hP hnc ok
    obtain ⟨F, rfl⟩ : ∃ F', F = F' + 1 := ⟨F - 1, by omega⟩
    have tt := q.2.2.2.2.2.2.2.2.2.2.1 i t hi
    have hl := tt.2.2.2.2.2.2.2.1.2.1
    rw [List.length_map] at hl
    refine ⟨h, g, d0, A, L, P, n, m, ?_, by rw [List.drop_eq_nil_of_le (by omega)]; exact ⟨rfl, rfl⟩, q, w, gv, gS, vw, sh, bA, by omega, Nat.le_refl _, ⟨by omega, Nat.le_refl _, Nat.le_max_left _ _, Nat.le_refl _⟩, Fr2.rf w v (p 7)⟩
    show B_X1_differences_61 N k13 _ au h (some (p 7)) x2 (nI m) x4 (some t) (some v) (nI k) = _
    unfold B_X1_differences_61
    refine (dr_e (by exact rfl) (by exact tt.1)).trans ?_
    refine (dr_e (by exact tt.2.2.2.2.2.1) (by exact tt.2.2.2.2.2.2.2.1.1)).trans ?_
    refine (bnd (by exact al_size tt.2.2.2.2.2.2.2.1 N)).trans ?_
    unfold B_X1_differences_71
    rw [List.length_map]
    refine (if_pos (by exact (ni_le (by omega) (by omega)).mpr (by omega))).trans ?_
    refine (dr_e (by exact rfl) (by exact vw.1.1)).trans ?_
    rfl
  | succ c ih =>
    intro k F g h d0 A BS L P n m hc hk hF q w gv gS vw sh bA bS as sb hL hP hnc ok
    obtain ⟨F, rfl⟩ : ∃ F', F = F' + 1 := ⟨F - 1, by omega⟩
    have tt := q.2.2.2.2.2.2.2.2.2.2.1 i t hi
    have k9 := q.2.2.2.2.2.2.2.2.1
    have hl := tt.2.2.2.2.2.2.2.1.2.1
    rw [List.length_map] at hl
    have hlt : k < (D i).2.2.2.2.2.2.2.length := by omega
    have hy : (D i).2.2.2.2.2.2.2[k]? = some (D i).2.2.2.2.2.2.2[k] := List.getElem?_eq_getElem hlt
    have dk : (D i).2.2.2.2.2.2.2.drop k = (D i).2.2.2.2.2.2.2[k] :: (D i).2.2.2.2.2.2.2.drop (k + 1) := List.drop_eq_getElem_cons hlt
    generalize (D i).2.2.2.2.2.2.2[k] = y at hy dk
    have ca := tt.2.2.2.2.2.2.2.2 y (List.mem_of_getElem? hy)
    obtain ⟨x, cd, th⟩ := y
    obtain ⟨cr, gx, cth⟩ := ca
    rw [dk] at ok
    obtain ⟨ok1, ok2⟩ := ok
    have n7 : x ≠ p 7 := ne_kd cr.1 k9.1 (by decide)
    have s1 : Sep g (p 7) v := sep_roots k9.2.1 gv (ne_kd k9.1 vw.1.1 (by decide))
    have s2 : Sep g (p 7) S := sep_roots k9.2.1 gS (ne_kd k9.1 sh.1 (by decide))
    have s3 : Sep g v S := sep_roots gv gS (ne_kd vw.1.1 sh.1 (by decide))
    obtain ⟨h1, h2, h3, g3, A', L', P', n', e, j1, j2, j3, j4, j5, j6, j7, j8, j9, r1, r2, r3, r4, r5, r6, r7⟩ := cl_carry cr vw sh k9 w bA bS as s1 s2 s3 (nun_root gx n7) ok1 N hN (by omega) (by omega)
    have a1 := q.scr w j2 j3
    have hk1 : h1.kd v = 11 := j2.kd w vw.1.1 (by decide)
    have gv1 : g v = v := gv
    have a2 := a1.out j2.wf gv (Or.inl ⟨hk1, hv⟩) j4
    have a3 := a2.scr j4.wf j7 j8
    have sh1 := sh.fr w j2 (by rw [k9.1]; decide) s2
    have s31 : Sep g v S := s3
    have sh2 := sh1.fr j2.wf j4 (by rw [hk1]; decide) s31
    have gS3 : g3 S = S := (j4.gg j2.wf sh1.1 (by decide)).trans gS
    have gv3 : g3 v = v := (j4.gg j2.wf hk1 (by decide)).trans gv
    have k92 := a2.2.2.2.2.2.2.2.2.1
    have s23 : Sep g3 (p 7) S := sep_roots k92.2.1 gS3 (ne_kd k92.1 sh2.1 (by decide))
    have s13 : Sep g3 (p 7) v := sep_roots k92.2.1 gv3 (ne_kd k92.1 j5.1.1 (by decide))
    have sh3 := sh2.fr j4.wf j7 (by rw [k92.1]; decide) s23
    have vw3 := j5.fr j4.wf j7 (by rw [k92.1]; decide) s13
    obtain ⟨c1, c2⟩ := callR_asc j9 as sb (by omega)
    obtain ⟨c3, c4, c5⟩ := callR_L j9 hL hP
    obtain ⟨p1, p2⟩ := callR_P j9 hP
    have tt3 := a3.2.2.2.2.2.2.2.2.2.2.1 i t hi
    obtain ⟨cr3, gx3, cth3⟩ := tt3.2.2.2.2.2.2.2.2 (x, cd, th) (List.mem_of_getElem? hy)
    have k93 := a3.2.2.2.2.2.2.2.2.1
    have nx3 : h3.nx ≤ h.nx + 3 := by unfold Rm2 at r4; omega
    -- whether it tells otherwise
    have tell : ∃ m1, Df th e m m1 ∧ m1 ≤ m + 1 ∧ B_X1_differences_97 N k13 (L_X1_differences_61 N k13 au F) au h3 (some (p 7)) x2 (nI m) x4 (some t) (some v) (nI k) (some x) = L_X1_differences_61 N k13 au F h3 (some (p 7)) x2 (nI m1) x4 (some t) (some v) (nI (k + 1)) := by
      cases th with
      | none =>
        refine ⟨m, Or.inl ⟨rfl, rfl⟩, by omega, ?_⟩
        unfold B_X1_differences_97
        refine (dr_e (by exact rfl) (by exact cr3.1)).trans ?_
        refine (nl_ne (by exact cth3)).trans ?_
        unfold B_X1_differences_120
        rw [ni_inc]
      | some u =>
        obtain ⟨b, kb, vb, z1, z2, z3⟩ := cth3
        obtain ⟨vv, t1, t2⟩ := an_tells k93 z3 N (by omega)
        have go : ∀ {z : Option (Hp × Int32)}, B_X1_differences_114 N k13 (L_X1_differences_61 N k13 au F) au h3 (some (p 7)) x2 (nI m) x4 (some t) (some v) (nI k) vv = z → B_X1_differences_97 N k13 (L_X1_differences_61 N k13 au F) au h3 (some (p 7)) x2 (nI m) x4 (some t) (some v) (nI k) (some x) = z := by
          intro z hz
          unfold B_X1_differences_97
          refine (dr_e (by exact rfl) (by exact cr3.1)).trans ?_
          refine (nl_so (by exact z1)).trans ?_
          refine (dr_e (by exact rfl) (by exact k93.1)).trans ?_
          rw [z1]
          refine (bnd (by exact t1)).trans ?_
          exact hz
        rcases t2 with ⟨y1, y2⟩ | ⟨y1, y2⟩
        · refine ⟨m, Or.inr ⟨u, rfl, Or.inl ⟨y2, rfl⟩⟩, by omega, go ?_⟩
          unfold B_X1_differences_114
          refine (if_neg (by rw [y1]; decide)).trans ?_
          unfold B_X1_differences_120
          rw [ni_inc]
        · refine ⟨m + 1, Or.inr ⟨u, rfl, Or.inr ⟨y2, rfl⟩⟩, Nat.le_refl _, go ?_⟩
          unfold B_X1_differences_114
          refine (if_pos (by exact y1)).trans ?_
          unfold B_X1_differences_120
          rw [ni_inc, ni_inc]
    obtain ⟨m1, d1, d2, d3⟩ := tell
    obtain ⟨h4, g4, d4, A4, L4, P4, n4, m4, f1, f2, f3, f4, f5, f6, f7, f8, f9, f10, f11, f12, f13⟩ := ih (k + 1) F g3 h3 e A' BS L' P' n' m1 (by omega) (by omega) (by omega) a3 j7.wf gv3 gS3 vw3 sh3 j6 bS c1 c2 c3 c5 (by omega) (by rw [p1, p2]; exact ok2)
    refine ⟨h4, g4, d4, A4, L4, P4, n4, m4, ?_, by rw [dk]; exact ⟨L', P', n', e, m1, j9, d1, f2⟩, f3, f4, f5, f6, f7, f8, f9, f10, by omega, ?_, ?_⟩
    · show B_X1_differences_61 N k13 (L_X1_differences_61 N k13 au F) au h (some (p 7)) x2 (nI m) x4 (some t) (some v) (nI k) = _
      unfold B_X1_differences_61
      refine (dr_e (by exact rfl) (by exact tt.1)).trans ?_
      refine (dr_e (by exact tt.2.2.2.2.2.1) (by exact tt.2.2.2.2.2.2.2.1.1)).trans ?_
      refine (bnd (by exact al_size tt.2.2.2.2.2.2.2.1 N)).trans ?_
      unfold B_X1_differences_71
      rw [List.length_map]
      refine (if_neg (by exact fun z => by rw [ni_le (by omega) (by omega)] at z; omega)).trans ?_
      refine (dr_e (by exact rfl) (by exact tt.1)).trans ?_
      refine (dr_e (by exact tt.2.2.2.2.2.1) (by exact tt.2.2.2.2.2.2.2.1.1)).trans ?_
      refine (bnd (by exact al_get tt.2.2.2.2.2.2.2.1 N (show ((D i).2.2.2.2.2.2.2.map (fun y => y.1))[k]? = some x by rw [List.getElem?_map, hy]; rfl))).trans ?_
      unfold B_X1_differences_84
      refine (dr_e (by exact rfl) (by exact cr.1)).trans ?_
      refine (bnd (by exact j1)).trans ?_
      refine d3.trans ?_
      exact f1
    · unfold Rm2 at r4
      unfold Rdi at *
      omega
    · exact (((j2.r2 v).tr w (j4.l2 (p 7))).tr w (j7.r2 v)).tr w f13
end DI
