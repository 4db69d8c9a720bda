/-! a call of a transaction: kind, key, to, number, flag, value -/
abbrev Clq : Type := Int32 × Int32 × Int32 × Int32 × Int32 × Int64
def Cr (h : Hp) (c : Nat) (d : Clq) : Prop := h.kd c = 5 ∧ h.fi 500 c = d.1 ∧ h.fi 501 c = d.2.1 ∧ h.fi 502 c = d.2.2.1 ∧ h.fi 503 c = d.2.2.2.1 ∧ h.fi 504 c = d.2.2.2.2.1 ∧ h.fl 505 c = d.2.2.2.2.2
theorem Cr.fr {g g' : Nat → Nat} {p : Nat} {h h' : Hp} {c : Nat} {d : Clq} (q : Cr h c d) (w : Wf g h) (F : Fr g g' p h h') (s : ¬ Un g p c) : Cr h' c d := by
  obtain ⟨q1, q2, q3, q4, q5, q6, q7⟩ := q
  have ag := F.ag w q1 (by decide) s
  exact ⟨F.kd w q1 (by decide), (ag.fi _).trans q2, (ag.fi _).trans q3, (ag.fi _).trans q4, (ag.fi _).trans q5, (ag.fi _).trans q6, (ag.fl _).trans q7⟩
def visC (a b : List Ent) (st : Int32) : Option Int64 := visE (match a with
  | e :: _ => some e
  | [] => (dropW st b).head?)
def visL (L V : List Kv) (st k : Int32) : Option Int64 := visC (chn L k) (chn V k) st
theorem vis_L {A B : Shf} {L V : List Kv} (a : BkL A L) (b : BkL B V) (st : Int32) : vis A B st = visL L V st := by
  funext k
  unfold visL
  rw [← a k, ← b k]
  rfl
/-- what a call does to a view's own writes L, places P and count n, and what it answers -/
def CallR (L V : List Kv) (st ow : Int32) (P : List Nat) (n : Nat) (c : Clq) (L' : List Kv) (P' : List Nat) (n' : Nat) (d : AnD) : Prop :=
  (c.1 = 0 ∧ L' = L ∧ P' = P ∧ n' = n ∧ d = readD (visL L V st c.2.1) (decide (chn L c.2.1 ≠ [])) c.2.1) ∨
  (c.1 = 1 ∧ L' = L ∧ P' = P ∧ n' = n ∧ NearA c.2.2.2.2.1 (visL L V st) c.2.1 d) ∨
  (c.1 = 2 ∧ L' = L ∧ P' = P ∧ n' = n ∧ ∃ most, c.2.2.2.1 = nI most ∧ 1 ≤ most ∧ most ≤ 100 ∧ ScanA (visL L V st) c.2.1 c.2.2.1 most d) ∨
  (c.1 = 3 ∧ L' = L ++ [(c.2.1, nI (n + 1), ow, c.2.2.2.2.1, c.2.2.2.2.2)] ∧ P' = P ∧ n' = n + 1 ∧ d = (nI (nk L'), none, [], none)) ∨
  (c.1 = 4 ∧ L' = L ∧ n' = n ∧ P' = (if P.length < 10 then P ++ [n] else P) ∧ d = (if P.length < 10 then nI (P.length + 1) else -1, none, [], none)) ∨
  (c.1 = 5 ∧ n' = n ∧ ∃ m s, c.2.2.2.1 = nI m ∧ 1 ≤ m ∧ P[m - 1]? = some s ∧ L' = cutS (nI s) L ∧ P' = P.take m ∧ d = (nI (nk L'), none, [], none))
/-- a call that can be carried out -/
def ClOk (P : List Nat) (c : Clq) : Prop := c.1 = 0 ∨ c.1 = 1 ∨ (c.1 = 2 ∧ ∃ most, c.2.2.2.1 = nI most ∧ 1 ≤ most ∧ most ≤ 100) ∨ (c.1 = 3 ∧ (c.2.2.2.2.1 = 0 ∨ c.2.2.2.2.1 = 1)) ∨ c.1 = 4 ∨ (c.1 = 5 ∧ ∃ m s, c.2.2.2.1 = nI m ∧ 1 ≤ m ∧ P[m - 1]? = some s)
def Rm2 (h h' : Hp) (l n : Nat) : Prop := h'.su + 4 * cap h l ≤ h.su + 7 + 4 * cap h' l ∧ cap h l ≤ cap h' l ∧ cap h' l ≤ max (cap h l) (2 * n + 10) ∧ h'.nx ≤ h.nx + 3 ∧ h'.su ≤ h.su + 2 * n + 17
theorem cl_carry {g : Nat → Nat} {h : Hp} {c v S lS O lO pl a ka va : Nat} {st ow : Int32} {A B : Shf} {P : List Nat} {n : Nat} {L V : List Kv} {d : Clq} {d0 : AnD} (cr : Cr h c d) (q : VW g h v S O lO pl st ow A P n) (s : Sh g h S lS B) (r : An g h a 100 ka va d0) (w : Wf g h) (bA : BkL A L) (bB : BkL B V) (as : Asc L) (sav : Sep g a v) (saS : Sep g a S) (svS : Sep g v S) (sac : ¬ Un g a c) (ok : ClOk P d) (N : Nat) (hN : 1000000 < N) (hL : L.length < 90000) (hn : n < 90000) :
    ∃ h1 h2 h' g' A' L' P' n' d', J_X2_carryOut N c h (some v) (some a) = some (h', ()) ∧ Fr g g a h h1 ∧ An g h1 a 100 ka va (0, none, [], none) ∧ Fr g g' v h1 h2 ∧ VW g' h2 v S O lO pl st ow A' P' n' ∧ BkL A' L' ∧ Fr g' g' a h2 h' ∧ An g' h' a 100 ka va d' ∧ CallR L V st ow P n d L' P' n' d' ∧ h1.nx = h.nx ∧ h1.su = h.su ∧ cap h1 lO = cap h lO ∧ Rm2 h1 h2 lO L.length ∧ h'.nx = h2.nx ∧ h'.su = h2.su ∧ cap h' lO = cap h2 lO := by
  obtain ⟨h1, e1, e2, e3, e4, e5⟩ := an_clear r w N
  have hv := w.lt q.1.1 (by decide)
  have hS := w.lt s.1 (by decide)
  have ha := w.lt r.1 (by decide)
  have q1 := q.fr w e3 (by rw [r.1]; decide) sav
  have s1 := s.fr w e3 (by rw [r.1]; decide) saS
  have cr1 := cr.fr w e3 sac
  have sO : Sep g a O := sav.ch q.1.2.2.2.2.2.1
  have c1 : cap h1 lO = cap h lO := by
    obtain ⟨-, -, b3, -, -, cs, b6, -⟩ := q.2
    exact cap_fr b6 w e3 (sO.ch b3)
  have hAl : A.length ≤ L.length := by rw [bk_len q.2.2.2.2.1 q.2.2.2.2.2.1 bA]; exact nk_le L
  have vr := q1.vr s1
  have go : ∀ {h' : Hp}, B_X2_carryOut_4 N c h1 (some v) (some a) = some (h', ()) → J_X2_carryOut N c h (some v) (some a) = some (h', ()) := by
    intro h' z
    unfold J_X2_carryOut B_X2_carryOut_0
    refine (dr_e (by exact rfl) (by exact r.1)).trans ?_
    refine (bnd (by exact e1)).trans ?_
    exact z
  have capa : ∀ {h2 : Hp}, Fr g g a h1 h2 → cap h2 lO = cap h1 lO := by
    intro h2 F
    obtain ⟨-, -, b3, -, -, cs, b6, -⟩ := q1.2
    exact cap_fr b6 e3.wf F (sO.ch b3)
  have rm0 : Rm2 h1 h1 lO L.length := by unfold Rm2; omega
  rcases ok with k | k | ⟨k, most, m1, m2, m3⟩ | ⟨k, k2⟩ | k | ⟨k, m, p, m1, m2, m3⟩
  · obtain ⟨h2, j1, j2, j3, j4, j5⟩ := vw_read vr e2 e3.wf sav.1 sO saS N (by omega) d.2.1
    refine ⟨h1, h1, h2, g, A, L, P, n, _, go ?_, e3, e2, Fr.rf e3.wf v, q1, bA, j3, j2, Or.inl ⟨k, rfl, rfl, rfl, ?_⟩, e4, e5, c1, rm0, j4, j5, capa j3⟩
    · unfold B_X2_carryOut_4
      refine (if_pos (by rw [cr1.2.1]; exact k)).trans ?_
      refine (dr_e (by exact rfl) (by exact q1.1.1)).trans ?_
      rw [cr1.2.2.1]
      refine (bnd (by exact j1)).trans ?_
      rfl
    · rw [vis_L bA bB, bA]
  · obtain ⟨h2, d2, j1, j2, j3, j4, j5, j6⟩ := vw_near vr e2 e3.wf N hN d.2.1 d.2.2.2.2.1
    refine ⟨h1, h1, h2, g, A, L, P, n, d2, go ?_, e3, e2, Fr.rf e3.wf v, q1, bA, j4, j2, Or.inr (Or.inl ⟨k, rfl, rfl, rfl, ?_⟩), e4, e5, c1, rm0, j5, j6, capa j4⟩
    · unfold B_X2_carryOut_4
      refine (if_neg (by rw [cr1.2.1, k]; decide)).trans ?_
      refine (if_pos (by rw [cr1.2.1]; exact k)).trans ?_
      refine (dr_e (by exact rfl) (by exact q1.1.1)).trans ?_
      rw [cr1.2.2.1, cr1.2.2.2.2.2.1]
      refine (bnd (by exact j1)).trans ?_
      rfl
    · rw [vis_L bA bB] at j3; exact j3
  · obtain ⟨h2, d2, j1, j2, j3, j4, j5, j6⟩ := vw_scan vr e2 e3.wf sav.1 sO saS N hN d.2.1 d.2.2.1 most ⟨m2, m3⟩ m3
    refine ⟨h1, h1, h2, g, A, L, P, n, d2, go ?_, e3, e2, Fr.rf e3.wf v, q1, bA, j4, j2, Or.inr (Or.inr (Or.inl ⟨k, rfl, rfl, rfl, most, m1, m2, m3, ?_⟩)), e4, e5, c1, rm0, j5, j6, capa j4⟩
    · unfold B_X2_carryOut_4
      refine (if_neg (by rw [cr1.2.1, k]; decide)).trans ?_
      refine (if_neg (by rw [cr1.2.1, k]; decide)).trans ?_
      refine (if_pos (by rw [cr1.2.1]; exact k)).trans ?_
      refine (dr_e (by exact rfl) (by exact q1.1.1)).trans ?_
      rw [cr1.2.2.1, cr1.2.2.2.1, cr1.2.2.2.2.1, m1]
      refine (bnd (by exact j1)).trans ?_
      rfl
    · rw [vis_L bA bB] at j3; exact j3
  · have hlk : (look A d.2.1).length ≤ L.length := by rw [bA]; exact chn_le _ _
    obtain ⟨h2, g2, A2, j1, j2, j3, j4, j5, j6⟩ := vw_putOwn q1 e3.wf N (by omega) d.2.1 d.2.2.2.2.1 d.2.2.2.2.2 k2 (by omega) (by omega) (by omega)
    have r2 := e2.sep e3.wf j5 sav.sy
    have F3 := Fr.sfi j5.wf (Un.rf g2 a) 300 (nI A2.length)
    have bA2 : BkL A2 (L ++ [(d.2.1, nI (n + 1), ow, d.2.2.2.2.1, d.2.2.2.2.2)]) := fun k' => by rw [j3 k', chn_add, bA, bA]
    refine ⟨h1, h2, h2.sfi 300 a (nI A2.length), g2, A2, _, P, n + 1, _, go ?_, e3, e2, j5, j2, bA2, F3, an_res r2 _, Or.inr (Or.inr (Or.inr (Or.inl ⟨k, rfl, rfl, rfl, ?_⟩))), e4, e5, c1, ?_, rfl, rfl, rfl⟩
    · unfold B_X2_carryOut_4
      refine (if_neg (by rw [cr1.2.1, k]; decide)).trans ?_
      refine (if_neg (by rw [cr1.2.1, k]; decide)).trans ?_
      refine (if_neg (by rw [cr1.2.1, k]; decide)).trans ?_
      refine (if_pos (by rw [cr1.2.1]; exact k)).trans ?_
      refine (dr_e (by exact rfl) (by exact q1.1.1)).trans ?_
      rw [cr1.2.2.1, cr1.2.2.2.2.2.1, cr1.2.2.2.2.2.2]
      refine (bnd (by exact j1)).trans ?_
      unfold B_X2_carryOut_113
      refine (dr_e (by exact rfl) (by exact r2.1)).trans ?_
      rfl
    · rw [bk_len j2.2.2.2.2.1 j2.2.2.2.2.2.1 bA2]
    · unfold Pt at j6
      unfold Rm2
      omega
  · obtain ⟨h2, j1, j2, j3, j4, j5, j6⟩ := vw_addPlace q1 e3.wf N
    have r2 := e2.sep e3.wf j3 sav.sy
    have F3 := Fr.sfi j3.wf (Un.rf g a) 300 (if P.length < 10 then nI (P.length + 1) else -1)
    refine ⟨h1, h2, h2.sfi 300 a (if P.length < 10 then nI (P.length + 1) else -1), g, A, L, _, n, _, go ?_, e3, e2, j3, j2, bA, F3, an_res r2 _, Or.inr (Or.inr (Or.inr (Or.inr (Or.inl ⟨k, rfl, rfl, rfl, rfl⟩)))), e4, e5, c1, ?_, rfl, rfl, rfl⟩
    · unfold B_X2_carryOut_4
      refine (if_neg (by rw [cr1.2.1, k]; decide)).trans ?_
      refine (if_neg (by rw [cr1.2.1, k]; decide)).trans ?_
      refine (if_neg (by rw [cr1.2.1, k]; decide)).trans ?_
      refine (if_neg (by rw [cr1.2.1, k]; decide)).trans ?_
      refine (if_pos (by rw [cr1.2.1]; exact k)).trans ?_
      refine (dr_e (by exact rfl) (by exact q1.1.1)).trans ?_
      refine (bnd (by exact j1)).trans ?_
      unfold B_X2_carryOut_124
      refine (dr_e (by exact rfl) (by exact r2.1)).trans ?_
      rfl
    · unfold Rm2; omega
  · obtain ⟨h2, A2, j1, j2, j3, j4, j5, j6, j7⟩ := vw_comeBack q1 e3.wf N (by omega) m p m2 m3
    have r2 := e2.sep e3.wf j4 sav.sy
    have F3 := Fr.sfi j4.wf (Un.rf g a) 300 (nI A2.length)
    have bA2 : BkL A2 (cutS (nI p) L) := fun k' => by rw [j3 k', chn_cut as, bA]
    refine ⟨h1, h2, h2.sfi 300 a (nI A2.length), g, A2, _, _, n, _, go ?_, e3, e2, j4, j2, bA2, F3, an_res r2 _, Or.inr (Or.inr (Or.inr (Or.inr (Or.inr ⟨k, rfl, m, p, m1, m2, m3, rfl, rfl, ?_⟩)))), e4, e5, c1, ?_, rfl, rfl, rfl⟩
    · unfold B_X2_carryOut_4
      refine (if_neg (by rw [cr1.2.1, k]; decide)).trans ?_
      refine (if_neg (by rw [cr1.2.1, k]; decide)).trans ?_
      refine (if_neg (by rw [cr1.2.1, k]; decide)).trans ?_
      refine (if_neg (by rw [cr1.2.1, k]; decide)).trans ?_
      refine (if_neg (by rw [cr1.2.1, k]; decide)).trans ?_
      refine (if_pos (by rw [cr1.2.1]; exact k)).trans ?_
      refine (dr_e (by exact rfl) (by exact q1.1.1)).trans ?_
      rw [cr1.2.2.2.2.1, m1]
      refine (bnd (by exact j1)).trans ?_
      unfold B_X2_carryOut_139
      refine (dr_e (by exact rfl) (by exact r2.1)).trans ?_
      rfl
    · rw [bk_len j2.2.2.2.2.1 j2.2.2.2.2.2.1 bA2]
    · unfold Rm2; omega
