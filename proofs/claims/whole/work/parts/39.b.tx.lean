/-- its smaller methods -/
def noteOutF (F : Nat → Int32) (x : Int32) : Nat → Int32 := if F 1008 = 0 then va_up F 1008 x else if F 1008 ≤ x then F else va_up F 1008 x
def safeF (F : Nat → Int32) : Nat → Int32 := if F 1005 = 1 ∧ F 1010 = 0 then va_up (va_up F 1005 2) 1008 0 else F
def heed1 (F E : Nat → Int32) : Nat → Int32 := if F 1005 = 1 ∧ E 1006 = 2 ∧ ¬ E 1008 = 0 ∧ ¬ F 1001 < E 1008 then va_up F 1005 3 else F
def heedF (F E : Nat → Int32) : Nat → Int32 := if F 1005 = 0 then F else if E 1000 ≤ F 1000 then safeF (heed1 (va_up F 1010 (F 1010 - 1)) E) else F
def mayNotF (F : Nat → Int32) (x : Int32) : Prop := ¬ x = 0 ∧ (if F 1005 = 0 then (F 1006 = 1 ∨ ¬ F 1007 < x) else ¬ F 1001 < x)
theorem tx_noteOut {g : Nat → Nat} {h : Hp} {S scr t : Nat} {F : Nat → Int32} {a : Ad} {d : Td} (q : Tr g h S scr t F a d) (w : Wf g h) (N : Nat) (x : Int32) : ∃ h', J_X7_noteOut N t h x = some (h', ()) ∧ Tr g h' S scr t (noteOutF F x) a d ∧ Fr g g t h h' ∧ h'.nx = h.nx ∧ h'.su = h.su := by
  have e := q.2.2.1 1008
  unfold J_X7_noteOut B_X7_noteOut_0 B_X7_noteOut_15 B_X7_noteOut_20 noteOutF
  rw [e]
  by_cases c1 : F 1008 = 0
  · rw [if_pos c1, if_pos c1]
    exact ⟨_, rfl, q.sfi 1008 x (by decide) (by decide), Fr.sfi w (Un.rf g t) 1008 x, rfl, rfl⟩
  · rw [if_neg c1, if_neg c1]
    by_cases c2 : F 1008 ≤ x
    · rw [if_pos c2, if_pos c2]
      exact ⟨_, rfl, q, Fr.rf w t, rfl, rfl⟩
    · rw [if_neg c2, if_neg c2]
      exact ⟨_, rfl, q.sfi 1008 x (by decide) (by decide), Fr.sfi w (Un.rf g t) 1008 x, rfl, rfl⟩
theorem tx_safe {g : Nat → Nat} {h : Hp} {S scr t : Nat} {F : Nat → Int32} {a : Ad} {d : Td} (q : Tr g h S scr t F a d) (w : Wf g h) (N : Nat) : ∃ h', J_X7_becomeSafeIfDone N t h = some (h', ()) ∧ Tr g h' S scr t (safeF F) a d ∧ Fr g g t h h' ∧ h'.nx = h.nx ∧ h'.su = h.su := by
  unfold J_X7_becomeSafeIfDone B_X7_becomeSafeIfDone_0 B_X7_becomeSafeIfDone_25 safeF
  rw [q.2.2.1 1005, q.2.2.1 1010]
  by_cases c1 : F 1005 = 1
  · by_cases c2 : F 1010 = 0
    · rw [if_pos c1, if_pos c2, if_pos ⟨c1, c2⟩]
      have F1 := Fr.sfi w (Un.rf g t) 1005 2
      exact ⟨_, rfl, (q.sfi 1005 2 (by decide) (by decide)).sfi 1008 0 (by decide) (by decide), F1.tr w (Fr.sfi F1.wf (Un.rf g t) 1008 0), rfl, rfl⟩
    · rw [if_pos c1, if_neg c2, if_neg (fun z => c2 z.2)]
      exact ⟨_, rfl, q, Fr.rf w t, rfl, rfl⟩
  · rw [if_neg c1, if_neg (fun z => c1 z.1)]
    exact ⟨_, rfl, q, Fr.rf w t, rfl, rfl⟩
theorem tx_wait {g : Nat → Nat} {h : Hp} {S scr t : Nat} {F : Nat → Int32} {a : Ad} {d : Td} (q : Tr g h S scr t F a d) (w : Wf g h) (N : Nat) (x : Int32) : ∃ h', J_X7_waitFor N t h x = some (h', ()) ∧ Tr g h' S scr t (safeF (va_up F 1010 x)) a d ∧ Fr g g t h h' ∧ h'.nx = h.nx ∧ h'.su = h.su := by
  have F1 := Fr.sfi w (Un.rf g t) 1010 x
  obtain ⟨h2, e1, e2, e3, e4, e5⟩ := tx_safe (q.sfi 1010 x (by decide) (by decide)) F1.wf N
  refine ⟨h2, ?_, e2, F1.tr w e3, e4, e5⟩
  unfold J_X7_waitFor B_X7_waitFor_0
  refine (bnd (by exact e1)).trans ?_
  rfl
theorem tx_heed {g : Nat → Nat} {h : Hp} {S scr t t2 : Nat} {F E : Nat → Int32} {a : Ad} {d : Td} (q : Tr g h S scr t F a d) (k2 : h.kd t2 = 10) (e2 : ∀ f, h.fi f t2 = E f) (n : t ≠ t2) (w : Wf g h) (N : Nat) : ∃ h', J_X7_heedEndOf N t h (some t2) = some (h', ()) ∧ Tr g h' S scr t (heedF F E) a d ∧ Fr g g t h h' ∧ h'.nx = h.nx ∧ h'.su = h.su := by
  unfold heedF
  by_cases c1 : F 1005 = 0
  · rw [if_pos c1]
    refine ⟨h, ?_, q, Fr.rf w t, rfl, rfl⟩
    unfold J_X7_heedEndOf B_X7_heedEndOf_0
    refine (if_pos (by rw [q.2.2.1]; exact c1)).trans ?_
    rfl
  · rw [if_neg c1]
    by_cases c2 : E 1000 ≤ F 1000
    · rw [if_pos c2]
      have F1 := Fr.sfi w (Un.rf g t) 1010 (F 1010 - 1)
      have q1 := q.sfi 1010 (F 1010 - 1) (by decide) (by decide)
      have ee : ∀ f, (h.sfi 1010 t (F 1010 - 1)).fi f t2 = E f := fun f => by
        rw [pj_sfi_fi]
        by_cases z : f = 1010
        · rw [if_pos z, if_neg (Ne.symm n), z]; exact e2 1010
        · rw [if_neg z]; exact e2 f
      have key : ∃ h1, Tr g h1 S scr t (heed1 (va_up F 1010 (F 1010 - 1)) E) a d ∧ Fr g g t h h1 ∧ h1.nx = h.nx ∧ h1.su = h.su ∧ J_X7_heedEndOf N t h (some t2) = B_X7_heedEndOf_68 N t h1 := by
        have go : J_X7_heedEndOf N t h (some t2) = if (va_up F 1010 (F 1010 - 1)) 1005 = 1 then (if E 1006 = 2 then (if E 1008 = 0 then B_X7_heedEndOf_68 N t (h.sfi 1010 t (F 1010 - 1)) else if (va_up F 1010 (F 1010 - 1)) 1001 < E 1008 then B_X7_heedEndOf_68 N t (h.sfi 1010 t (F 1010 - 1)) else B_X7_heedEndOf_68 N t ((h.sfi 1010 t (F 1010 - 1)).sfi 1005 t 3)) else B_X7_heedEndOf_68 N t (h.sfi 1010 t (F 1010 - 1))) else B_X7_heedEndOf_68 N t (h.sfi 1010 t (F 1010 - 1)) := by
          unfold J_X7_heedEndOf B_X7_heedEndOf_0
          refine (if_neg (by rw [q.2.2.1]; exact c1)).trans ?_
          refine (dr_e (by exact rfl) (by exact k2)).trans ?_
          refine (if_pos (by rw [q.2.2.1, e2]; exact c2)).trans ?_
          rw [q.2.2.1 1010, q1.2.2.1 1005, q1.2.2.1 1001, ee 1006, ee 1008]
        unfold heed1
        by_cases d1 : (va_up F 1010 (F 1010 - 1)) 1005 = 1
        · by_cases d2 : E 1006 = 2
          · by_cases d3 : E 1008 = 0
            · refine ⟨_, ?_, F1, rfl, rfl, go.trans (by rw [if_pos d1, if_pos d2, if_pos d3])⟩
              rw [if_neg (fun z => z.2.2.1 d3)]; exact q1
            · by_cases d4 : (va_up F 1010 (F 1010 - 1)) 1001 < E 1008
              · refine ⟨_, ?_, F1, rfl, rfl, go.trans (by rw [if_pos d1, if_pos d2, if_neg d3, if_pos d4])⟩
                rw [if_neg (fun z => z.2.2.2 d4)]; exact q1
              · refine ⟨_, ?_, F1.tr w (Fr.sfi F1.wf (Un.rf g t) 1005 3), rfl, rfl, go.trans (by rw [if_pos d1, if_pos d2, if_neg d3, if_neg d4])⟩
                rw [if_pos ⟨d1, d2, d3, d4⟩]; exact q1.sfi 1005 3 (by decide) (by decide)
          · refine ⟨_, ?_, F1, rfl, rfl, go.trans (by rw [if_pos d1, if_neg d2])⟩
            rw [if_neg (fun z => d2 z.2.1)]; exact q1
        · refine ⟨_, ?_, F1, rfl, rfl, go.trans (by rw [if_neg d1])⟩
          rw [if_neg (fun z => d1 z.1)]; exact q1
      obtain ⟨h1, k1, k2, k3, k4, k5⟩ := key
      obtain ⟨h2, j1, j2, j3, j4, j5⟩ := tx_safe k1 k2.wf N
      refine ⟨h2, ?_, j2, k2.tr w j3, j4.trans k3, j5.trans k4⟩
      rw [k5]
      unfold B_X7_heedEndOf_68
      refine (bnd (by exact j1)).trans ?_
      rfl
    · rw [if_neg c2]
      refine ⟨h, ?_, q, Fr.rf w t, rfl, rfl⟩
      unfold J_X7_heedEndOf B_X7_heedEndOf_0
      refine (if_neg (by rw [q.2.2.1]; exact c1)).trans ?_
      refine (dr_e (by exact rfl) (by exact k2)).trans ?_
      refine (if_neg (by rw [q.2.2.1, e2]; exact c2)).trans ?_
      rfl
theorem tx_mayNot {g : Nat → Nat} {h : Hp} {S scr t : Nat} {F : Nat → Int32} {a : Ad} {d : Td} (q : Tr g h S scr t F a d) (N : Nat) (x : Int32) : ∃ v, J_X7_mayNotPrecede N t h x = some (h, v) ∧ ((v = 1 ∧ mayNotF F x) ∨ (v = 0 ∧ ¬ mayNotF F x)) := by
  unfold J_X7_mayNotPrecede B_X7_mayNotPrecede_0 B_X7_mayNotPrecede_29 B_X7_mayNotPrecede_34 B_X7_mayNotPrecede_48 mayNotF
  rw [q.2.2.1 1005, q.2.2.1 1006, q.2.2.1 1007, q.2.2.1 1001]
  by_cases c1 : x = 0
  · rw [if_pos c1]
    exact ⟨0, rfl, Or.inr ⟨rfl, fun z => z.1 c1⟩⟩
  · rw [if_neg c1]
    by_cases c2 : F 1005 = 0
    · rw [if_pos c2, if_pos c2]
      by_cases c3 : F 1006 = 1
      · rw [if_pos c3]
        exact ⟨1, rfl, Or.inl ⟨rfl, c1, Or.inl c3⟩⟩
      · rw [if_neg c3]
        by_cases c4 : F 1007 < x
        · rw [if_pos c4]
          exact ⟨0, rfl, Or.inr ⟨rfl, fun z => z.2.elim c3 (fun y => y c4)⟩⟩
        · rw [if_neg c4]
          exact ⟨1, rfl, Or.inl ⟨rfl, c1, Or.inr c4⟩⟩
    · rw [if_neg c2, if_neg c2]
      by_cases c4 : F 1001 < x
      · rw [if_pos c4]
        exact ⟨0, rfl, Or.inr ⟨rfl, fun z => z.2 c4⟩⟩
      · rw [if_neg c4]
        exact ⟨1, rfl, Or.inl ⟨rfl, c1, c4⟩⟩
theorem tx_hasRead {g : Nat → Nat} {h : Hp} {S scr t : Nat} {F : Nat → Int32} {a : Ad} {d : Td} (q : Tr g h S scr t F a d) (N : Nat) (hN : 100000 < N) (k : Int32) : ∃ v, J_X7_hasReadKey N t h k = some (h, v) ∧ ((v = 1 ∧ F 1005 ≠ 2 ∧ InS d.2.2.2.2.1 k) ∨ (v = 0 ∧ ¬ (F 1005 ≠ 2 ∧ InS d.2.2.2.2.1 k))) := by
  obtain ⟨q1, q2, q3, -, ⟨s1, s2, s3, s4⟩, -⟩ := q
  by_cases c : F 1005 = 2
  · refine ⟨0, ?_, Or.inr ⟨rfl, fun z => z.1 c⟩⟩
    unfold J_X7_hasReadKey B_X7_hasReadKey_0
    refine (if_pos (by rw [q3]; exact c)).trans ?_
    rfl
  · obtain ⟨v, e1, e2⟩ := sn_contains s3 s4 N hN k
    rcases e2 with ⟨z1, z2⟩ | ⟨z1, z2⟩
    · refine ⟨1, ?_, Or.inl ⟨rfl, c, z2⟩⟩
      unfold J_X7_hasReadKey B_X7_hasReadKey_0
      refine (if_neg (by rw [q3]; exact c)).trans ?_
      refine (dr_e (by exact s1) (by exact s3.1)).trans ?_
      refine (bnd (by exact e1)).trans ?_
      rw [z1]
      rfl
    · refine ⟨0, ?_, Or.inr ⟨rfl, fun z => z2 z.2⟩⟩
      unfold J_X7_hasReadKey B_X7_hasReadKey_0
      refine (if_neg (by rw [q3]; exact c)).trans ?_
      refine (dr_e (by exact s1) (by exact s3.1)).trans ?_
      refine (bnd (by exact e1)).trans ?_
      rw [z1]
      rfl
theorem tx_runs {g : Nat → Nat} {h : Hp} {S scr t : Nat} {F : Nat → Int32} {a : Ad} {d : Td} (q : Tr g h S scr t F a d) (N : Nat) : J_X7_runs N t h = some (h, if F 1005 = 2 then 0 else nI d.2.2.2.2.1.length) := by
  obtain ⟨q1, q2, q3, -, ⟨s1, s2, s3, s4⟩, -⟩ := q
  unfold J_X7_runs B_X7_runs_0 B_X7_runs_19
  rw [q3]
  by_cases c : F 1005 = 2
  · rw [if_pos c, if_pos c]
  · rw [if_neg c, if_neg c]
    refine (dr_e (by exact s1) (by exact s3.1)).trans ?_
    rw [s3.2.2.2.2.2.2.2.2.2.2.2.2.1]
/-- the parts of a transaction lie apart -/
theorem Tr.sib {g : Nat → Nat} {h : Hp} {S scr t : Nat} {F : Nat → Int32} {a : Ad} {d : Td} (q : Tr g h S scr t F a d) (w : Wf g h) : Sep g a.1 a.2.2.2.2.1 ∧ Sep g a.1 a.2.2.2.2.2.2.2 ∧ Sep g a.2.2.2.2.1 a.2.2.2.2.2.2.2 ∧ ¬ Un g a.1 t ∧ ¬ Un g a.2.2.2.2.1 t ∧ ¬ Un g a.2.2.2.2.2.2.2 t := by
  obtain ⟨q1, q2, q3, ⟨v1, v2, v3, v4, v5⟩, ⟨s1, s2, s3, s4⟩, c1, c2, c3⟩ := q
  have kl : h.kd a.2.2.2.2.2.2.2 = 2 := c3.1.1
  have n1 := ne_kd v3.1.1 s3.1 (by decide)
  have n2 := ne_kd v3.1.1 kl (by decide)
  have n3 := ne_kd s3.1 kl (by decide)
  have m1 := ne_kd v3.1.1 q1 (by decide)
  have m2 := ne_kd s3.1 q1 (by decide)
  have m3 := ne_kd kl q1 (by decide)
  have sv := sep_roots v2 q2 m1
  exact ⟨sv.ch s2, sv.ch c2, sep_sib w s2 c2 n3 m2 m3, sv.1, nun_par w s2 m2, nun_par w c2 m3⟩
/-- the calls kept are no part of it -/
theorem CA.in {g g' : Nat → Nat} {p r : Nat} {h h' : Hp} {scr c : Nat} {d : Ck} (q : CA g h scr c d) (w : Wf g h) (F : Fr g g' p h h') (hp : g p = r) (hr : g r = r) (n : r ≠ p) (k : h.kd r = 10) : CA g' h' scr c d := by
  have up : Un g r p := Un.ch hp
  have F' := F.mono up
  exact q.fr w F' ⟨hr, by omega, by omega, fun z => by omega⟩
theorem CsL.in {g g' : Nat → Nat} {p r : Nat} {h h' : Hp} {scr l : Nat} {cs : List (Nat × Ck)} (q : CsL g h scr l cs) (w : Wf g h) (F : Fr g g' p h h') (hp : g p = r) (hr : g r = r) (n : r ≠ p) (k : h.kd r = 10) (s : Sep g p l) : CsL g' h' scr l cs := ⟨q.1.fr w F s, fun y hy => (q.2 y hy).in w F hp hr n k⟩
/-- its view has changed -/
theorem Tr.view {g g' : Nat → Nat} {h h' : Hp} {S scr t : Nat} {F : Nat → Int32} {a : Ad} {d : Td} (q : Tr g h S scr t F a d) (w : Wf g h) (Fv : Fr g g' a.1 h h') {A' : Shf} {L' : List Kv} {P' : List Nat} {n' : Nat} (v : VW g' h' a.1 S a.2.1 a.2.2.1 a.2.2.2.1 (F 1001) (F 1000) A' P' n') (b : BkL A' L') (as : Asc L') : Tr g' h' S scr t F a (A', L', P', n', d.2.2.2.2) := by
  have sb := q.sib w
  obtain ⟨q1, q2, q3, ⟨v1, v2, v3, v4, v5⟩, ⟨s1, s2, s3, s4⟩, c1, c2, c3⟩ := q
  have kl : h.kd a.2.2.2.2.2.2.2 = 2 := c3.1.1
  have ag := Fv.ag w q1 (by decide) sb.2.2.2.1
  exact ⟨Fv.kd w q1 (by decide), (Fv.gg w q1 (by decide)).trans q2, fun f => (ag.fi f).trans (q3 f), ⟨(ag.fr _).trans v1, (Fv.gg w v3.1.1 (by decide)).trans v2, v, b, as⟩, ⟨(ag.fr _).trans s1, (Fv.gg w s3.1 (by decide)).trans s2, s3.fr w Fv sb.1, s4⟩, (ag.fr _).trans c1, (Fv.gg w kl (by decide)).trans c2, c3.fr w Fv ⟨v2, by rw [v3.1.1]; decide, by rw [v3.1.1]; decide, fun z => by rw [v3.1.1] at z; cases z⟩ sb.2.1⟩
/-- its spans have changed -/
theorem Tr.spans {g g' : Nat → Nat} {h h' : Hp} {S scr t : Nat} {F : Nat → Int32} {a : Ad} {d : Td} (q : Tr g h S scr t F a d) (w : Wf g h) (Fv : Fr g g' a.2.2.2.2.1 h h') {la ha : Nat} {sp : List Iv} (s : Sn g' h' a.2.2.2.2.1 la ha sp) (cn : Can sp) : Tr g' h' S scr t F (a.1, a.2.1, a.2.2.1, a.2.2.2.1, a.2.2.2.2.1, la, ha, a.2.2.2.2.2.2.2) (d.1, d.2.1, d.2.2.1, d.2.2.2.1, sp, d.2.2.2.2.2) := by
  have sb := q.sib w
  obtain ⟨q1, q2, q3, ⟨v1, v2, v3, v4, v5⟩, ⟨s1, s2, s3, s4⟩, c1, c2, c3⟩ := q
  have kl : h.kd a.2.2.2.2.2.2.2 = 2 := c3.1.1
  have ag := Fv.ag w q1 (by decide) sb.2.2.2.2.1
  exact ⟨Fv.kd w q1 (by decide), (Fv.gg w q1 (by decide)).trans q2, fun f => (ag.fi f).trans (q3 f), ⟨(ag.fr _).trans v1, (Fv.gg w v3.1.1 (by decide)).trans v2, v3.fr w Fv (by rw [s3.1]; decide) sb.1.sy, v4, v5⟩, ⟨(ag.fr _).trans s1, (Fv.gg w s3.1 (by decide)).trans s2, s, cn⟩, (ag.fr _).trans c1, (Fv.gg w kl (by decide)).trans c2, c3.in w Fv s2 q2 (Ne.symm (ne_kd s3.1 q1 (by decide))) q1 sb.2.2.1⟩
/-- its list of calls has changed -/
theorem Tr.calls {g g' : Nat → Nat} {h h' : Hp} {S scr t : Nat} {F : Nat → Int32} {a : Ad} {d : Td} (q : Tr g h S scr t F a d) (w : Wf g h) (Fv : Fr g g' a.2.2.2.2.2.2.2 h h') {cs : List (Nat × Ck)} (c : CsL g' h' scr a.2.2.2.2.2.2.2 cs) : Tr g' h' S scr t F a (d.1, d.2.1, d.2.2.1, d.2.2.2.1, d.2.2.2.2.1, cs) := by
  have sb := q.sib w
  obtain ⟨q1, q2, q3, ⟨v1, v2, v3, v4, v5⟩, ⟨s1, s2, s3, s4⟩, c1, c2, c3⟩ := q
  have kl : h.kd a.2.2.2.2.2.2.2 = 2 := c3.1.1
  have ag := Fv.ag w q1 (by decide) sb.2.2.2.2.2
  exact ⟨Fv.kd w q1 (by decide), (Fv.gg w q1 (by decide)).trans q2, fun f => (ag.fi f).trans (q3 f), ⟨(ag.fr _).trans v1, (Fv.gg w v3.1.1 (by decide)).trans v2, v3.fr w Fv (by rw [kl]; decide) sb.2.1.sy, v4, v5⟩, ⟨(ag.fr _).trans s1, (Fv.gg w s3.1 (by decide)).trans s2, s3.fr w Fv sb.2.2.1.sy, s4⟩, (ag.fr _).trans c1, (Fv.gg w kl (by decide)).trans c2, c⟩
