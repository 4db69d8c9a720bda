/-! doing again: isAgain -/
section RF35
variable {h : Hp} {M m : Nat}
def PlR (h : Hp) (M : Nat) (L : Ow) (Pl : List Nat) : Prop := h.gi 1365 M = nI Pl.length ∧ Pl.length ≤ 10 ∧ (∀ (i x : Nat), Pl[i]? = some x → h.bi (M + 45) i = nI x ∧ x ≤ L.length) ∧ ∀ (i j x y : Nat), i ≤ j → Pl[i]? = some x → Pl[j]? = some y → x ≤ y
/-- a row of a call: what it does to own writes and places -/
def stR (h : Hp) (M k : Nat) (s : Ow × List Nat) : Ow × List Nat := if h.bi (M + 23) k = 5 then (s.1 ++ [(h.bi (M + 25) k, some (h.bw (M + 28) k))], s.2) else if h.bi (M + 23) k = 6 then (s.1 ++ [(h.bi (M + 25) k, none)], s.2) else if h.bi (M + 23) k = 7 then (s.1, s.2 ++ [s.1.length]) else if h.bi (M + 23) k = 8 then (s.1.take (s.2.getD ((h.bi (M + 25) k).toInt.toNat - 1) 0), s.2.take (h.bi (M + 25) k).toInt.toNat) else s
/-- a row that can be done -/
def okR (h : Hp) (M m k : Nat) (Pl : List Nat) : Prop := h.bi (M + 23) k = 1 ∨ h.bi (M + 23) k = 2 ∨ h.bi (M + 23) k = 3 ∨ (h.bi (M + 23) k = 4 ∧ ∃ mo an rr, h.bi (M + 27) k = nI mo ∧ h.bi (M + 29) k = nI an ∧ h.bi (M + 32) k = nI rr ∧ 1 ≤ mo ∧ mo ≤ 100 ∧ an ≤ 100 ∧ rr + an ≤ 42000) ∨ ((h.bi (M + 23) k = 5 ∨ h.bi (M + 23) k = 6) ∧ ∃ j, j < m ∧ h.bi (M + 35) j = h.bi (M + 25) k) ∨ (h.bi (M + 23) k = 7 ∧ Pl.length < 10) ∨ (h.bi (M + 23) k = 8 ∧ ∃ n, h.bi (M + 25) k = nI n ∧ 1 ≤ n ∧ n ≤ Pl.length)
/-- a row that comes out as it did -/
def gdR (h : Hp) (M m : Nat) (L : Ow) (mp : Int32 → Option Int64) (k : Nat) : Prop := (h.bi (M + 23) k = 1 → (nowF L mp (h.bi (M + 25) k) = none ∧ h.bi (M + 29) k = 0) ∨ (h.bi (M + 29) k = 1 ∧ nowF L mp (h.bi (M + 25) k) = some (h.bw (M + 31) k))) ∧ (h.bi (M + 23) k = 2 → NgR h M m L mp k 1) ∧ (h.bi (M + 23) k = 3 → NgR h M m L mp k 0) ∧ (h.bi (M + 23) k = 4 → ∃ mo an rr, h.bi (M + 27) k = nI mo ∧ h.bi (M + 29) k = nI an ∧ h.bi (M + 32) k = nI rr ∧ mo ≤ 100 ∧ an ≤ 100 ∧ rr + an ≤ 42000 ∧ SgR h M m L mp k mo an rr)
theorem gdR.con {A G : List Nat} {h' : Hp} {L : Ow} {mp : Int32 → Option Int64} {k : Nat} (f : RfO A G M h h') (hA : ∀ x ∈ [23, 25, 26, 27, 29, 30, 31, 32, 33, 34, 35], x ∉ A) : gdR h' M m L mp k ↔ gdR h M m L mp k := by
  unfold gdR NgR SgR sgS sgP
  rw [f.bi (hA 23 (by decide)), f.bi (hA 25 (by decide)), f.bi (hA 26 (by decide)), f.bi (hA 27 (by decide)), f.bi (hA 29 (by decide)), f.bi (hA 30 (by decide)), f.bw (hA 31 (by decide)), f.bi (hA 32 (by decide)), f.bi (hA 33 (by decide)), f.bw (hA 34 (by decide)), f.bi (hA 35 (by decide))]
theorem stR.con {A G : List Nat} {h' : Hp} {s : Ow × List Nat} {k : Nat} (f : RfO A G M h h') (hA : ∀ x ∈ [23, 25, 28], x ∉ A) : stR h' M k s = stR h M k s := by
  unfold stR
  rw [f.bi (hA 23 (by decide)), f.bi (hA 25 (by decide)), f.bw (hA 28 (by decide))]
theorem okR.con {A G : List Nat} {h' : Hp} {Pl : List Nat} {k : Nat} (f : RfO A G M h h') (hA : ∀ x ∈ [23, 25, 27, 29, 32, 35], x ∉ A) : okR h' M m k Pl ↔ okR h M m k Pl := by
  unfold okR
  rw [f.bi (hA 23 (by decide)), f.bi (hA 25 (by decide)), f.bi (hA 27 (by decide)), f.bi (hA 29 (by decide)), f.bi (hA 32 (by decide)), f.bi (hA 35 (by decide))]
theorem PlR.con {A G : List Nat} {h' : Hp} {L : Ow} {Pl : List Nat} (f : RfO A G M h h') (hA : 45 ∉ A) (hG : 1365 ∉ G) (s : PlR h M L Pl) : PlR h' M L Pl := by
  unfold PlR at s ⊢
  rw [f.gi hG, f.bi hA]
  exact s
/-- the heap that a row's write leaves -/
def owH (h : Hp) (M o : Nat) (key : Int32) (x : Int64) (is : Int32) : Hp := (((h.sbi (M + 42) o key).sbw (M + 43) o x).sbi (M + 44) o is).sgi 1363 M (nI (o + 1))
theorem owH.ro {o : Nat} {key is : Int32} {x : Int64} : RfO [42, 43, 44, 45] [1351, 1363, 1365] M h (owH h M o key x is) := (((RfO.sbi (k := 42) (by decide) _ _).tr (RfO.sbw (k := 43) (by decide) _ _)).tr (RfO.sbi (k := 44) (by decide) _ _)).tr (RfO.sgi (by decide) _)
theorem owH.a {o : Nat} {key is : Int32} {x : Int64} (j : Nat) : (owH h M o key x is).bi (M + 42) j = (if j = o then key else h.bi (M + 42) j) ∧ (owH h M o key x is).bw (M + 43) j = (if j = o then x else h.bw (M + 43) j) ∧ (owH h M o key x is).bi (M + 44) j = (if j = o then is else h.bi (M + 44) j) ∧ (owH h M o key x is).bi (M + 45) = h.bi (M + 45) := by
  unfold owH
  refine ⟨?_, ?_, ?_, ?_⟩
  · rw [pj_sgi_bi, bi_oth (by omega), pj_sbw_bi, bi_at]
  · rw [pj_sgi_bw, pj_sbi_bw, bw_at, pj_sbi_bw]
  · rw [pj_sgi_bi, bi_at, pj_sbw_bi, bi_oth (by omega)]
  · rw [pj_sgi_bi, bi_oth (by omega), pj_sbw_bi, bi_oth (by omega)]
def iS3 (N M : Nat) (h : Hp) (x1 : Int32) : Option (Hp × Int32) := dr h 30 (h.gr 1329 M) (fun a12 => ck (¬ (x1 < 0 ∨ h.al a12 ≤ x1.toNatClampNeg)) (if (h.bi a12 x1.toNatClampNeg) = (5 : Int32) then (B_X10_isAgain_183 N M h (h.gr 1362 M) (h.gi 1363 M) (1 : Int32)) else (B_X10_isAgain_183 N M h (h.gr 1362 M) (h.gi 1363 M) (0 : Int32))))
def iS2 (N M : Nat) (h : Hp) (x1 : Int32) : Option (Hp × Int32) := dr h 31 (h.gr 1334 M) (fun a8 => ck (¬ (x1 < 0 ∨ h.al a8 ≤ x1.toNatClampNeg)) (dr h 31 (h.gr 1361 M) (fun a10 => ck (¬ (h.gi 1363 M < 0 ∨ h.al a10 ≤ (h.gi 1363 M).toNatClampNeg)) (iS3 N M (h.sbw a10 (h.gi 1363 M).toNatClampNeg (h.bw a8 x1.toNatClampNeg)) x1))))
theorem iS_cut (N M : Nat) (h : Hp) (x1 : Int32) : B_X10_isAgain_130 N M h x1 = dr h 30 (h.gr 1331 M) (fun a4 => ck (¬ (x1 < 0 ∨ h.al a4 ≤ x1.toNatClampNeg)) (dr h 30 (h.gr 1360 M) (fun a6 => ck (¬ (h.gi 1363 M < 0 ∨ h.al a6 ≤ (h.gi 1363 M).toNatClampNeg)) (iS2 N M (h.sbi a6 (h.gi 1363 M).toNatClampNeg (h.bi a4 x1.toNatClampNeg)) x1)))) := by
  unfold B_X10_isAgain_130 iS2 iS3
  rfl
theorem iS3_eq (q : Rk h M) (N : Nat) {k o : Nat} (hk : k < 512) (ho : o < 512) (eo : h.gi 1363 M = nI o) : iS3 N M h (nI k) = some ((h.sbi (M + 44) o (if h.bi (M + 23) k = 5 then 1 else 0)).sgi 1363 M (nI (o + 1)), 1) := by
  have t183 : ∀ (y : Int32), (y = 0 ∨ y = 1) → B_X10_isAgain_183 N M h (h.gr 1362 M) (nI o) y = some ((h.sbi (M + 44) o y).sgi 1363 M (nI (o + 1)), 1) := by
    intro y b
    unfold B_X10_isAgain_183
    rw [rd_1362 q, rx_1362 q (show o < 514 by omega), ck_eq b, ni_clp (show o < _ by omega), pj_sbi_gi, eo, ni_inc]
  unfold iS3
  rw [rd_1329 q, rx_1329 q (show k < 514 by omega), ni_clp (show k < _ by omega), eo, t183 1 (Or.inr rfl), t183 0 (Or.inl rfl)]
  by_cases z : h.bi (M + 23) k = 5
  · rw [if_pos z, if_pos z]
  · rw [if_neg z, if_neg z]
theorem iS2_eq (q : Rk h M) (N : Nat) {k o : Nat} (hk : k < 512) (ho : o < 512) (eo : h.gi 1363 M = nI o) : iS2 N M h (nI k) = iS3 N M (h.sbw (M + 43) o (h.bw (M + 28) k)) (nI k) := by
  unfold iS2
  rw [rd_1334 q, rx_1334 q (show k < 514 by omega), eo, rd_1361 q, rx_1361 q (show o < 514 by omega), ni_clp (show o < _ by omega), ni_clp (show k < _ by omega)]
theorem rf_ia130 (q : Rk h M) (N : Nat) {k o : Nat} (hk : k < 512) (ho : o < 512) (eo : h.gi 1363 M = nI o) : B_X10_isAgain_130 N M h (nI k) = some (owH h M o (h.bi (M + 25) k) (h.bw (M + 28) k) (if h.bi (M + 23) k = 5 then 1 else 0), 1) := by
  rw [iS_cut, eo, rd_1331 q, rx_1331 q (show k < 514 by omega), rd_1360 q, rx_1360 q (show o < 514 by omega), ni_clp (show o < _ by omega), ni_clp (show k < _ by omega)]
  have q2 := q.sbi (M + 42) o (h.bi (M + 25) k)
  have q3 := q2.sbw (M + 43) o (h.bw (M + 28) k)
  have e2 := iS2_eq q2 N hk ho eo
  have e3 := iS3_eq q3 N hk ho eo
  rw [pj_sbi_bw] at e2
  rw [pj_sbw_bi, bi_oth (show M + 23 ≠ M + 42 by omega)] at e3
  exact e2.trans e3
def uS2 (M : Nat) (h : Hp) (x1 : Int32) : Option (Hp × Int32) := dr h 30 (h.gr 1331 M) (fun a62 => ck (¬ (x1 < 0 ∨ h.al a62 ≤ x1.toNatClampNeg)) (some (h.sgi 1365 M (h.bi a62 x1.toNatClampNeg), (1 : Int32))))
theorem uS2_eq (q : Rk h M) {k : Nat} (hk : k < 512) : uS2 M h (nI k) = some (h.sgi 1365 M (h.bi (M + 25) k), 1) := by
  unfold uS2
  rw [rd_1331 q, rx_1331 q (show k < 514 by omega), ni_clp (show k < _ by omega)]
theorem OwR.push {L : Ow} {key is : Int32} {x : Int64} {y : Option Int64} (ow : OwR h M L) (e : (y = none ∧ is = 0) ∨ (y = some x ∧ is = 1)) : OwR (owH h M L.length key x is) M (L ++ [(key, y)]) := by
  refine ⟨?_, fun i z hz => ?_⟩
  · rw [List.length_append, List.length_singleton]
    exact gi_same
  · have a := owH.a (h := h) (M := M) (o := L.length) (key := key) (is := is) (x := x) i
    rw [a.1, a.2.1, a.2.2.1]
    by_cases e1 : i < L.length
    · rw [List.getElem?_append_left e1] at hz
      rw [if_neg (by omega), if_neg (by omega), if_neg (by omega)]
      exact ow.2 i z hz
    · have il : i < (L ++ [(key, y)]).length := by
        rcases Nat.lt_or_ge i (L ++ [(key, y)]).length with q | q
        · exact q
        · rw [List.getElem?_eq_none q] at hz; cases hz
      rw [List.length_append, List.length_singleton] at il
      have ie : i = L.length := by omega
      rw [ie, List.getElem?_append_right (Nat.le_refl _), Nat.sub_self] at hz
      have : z = (key, y) := by injection hz with q; exact q.symm
      rw [this, if_pos ie, if_pos ie, if_pos ie]
      refine ⟨rfl, e.imp id (fun u => ⟨x, u.1, u.2, rfl⟩)⟩
theorem rf_isAgain (q : Rk h M) {L : Ow} {Pl : List Nat} {mp : Int32 → Option Int64} (s : RpS h M m L mp) (p : PlR h M L Pl) (hL : L.length < 512) (N : Nat) (hN : 1000 < N) {k : Nat} (hk : k < 512) (ok : okR h M m k Pl) : ∃ h' x, J_X10_isAgain N M h (nI k) = some (h', x) ∧ RfO [42, 43, 44, 45] [1351, 1363, 1365] M h h' ∧ RpS h' M m (stR h M k (L, Pl)).1 mp ∧ PlR h' M (stR h M k (L, Pl)).1 (stR h M k (L, Pl)).2 ∧ B01 x (gdR h M m L mp k) := by
  have looking : ∀ {h' : Hp}, RfO [] [1351] M h h' → (h.bi (M + 23) k = 1 ∨ h.bi (M + 23) k = 2 ∨ h.bi (M + 23) k = 3 ∨ h.bi (M + 23) k = 4) → RfO [42, 43, 44, 45] [1351, 1363, 1365] M h h' ∧ RpS h' M m (stR h M k (L, Pl)).1 mp ∧ PlR h' M (stR h M k (L, Pl)).1 (stR h M k (L, Pl)).2 := by
    intro h' f z
    have e : stR h M k (L, Pl) = (L, Pl) := by
      unfold stR
      rcases z with z | z | z | z <;> rw [z] <;> rfl
    rw [e]
    exact ⟨f.mono (fun _ y => by cases y) (by decide), s.con f (by decide) (by decide), p.con f (by decide) (by decide)⟩
  unfold J_X10_isAgain B_X10_isAgain_0
  rw [rd_1329 q, rx_1329 q (show k < 514 by omega), ni_clp (show k < _ by omega)]
  rcases ok with z | z | z | ⟨z, mo, an, rr, z1, z2, z3, z4, z5, z6, z7⟩ | ⟨z, j, z1, z2⟩ | ⟨z, z1⟩ | ⟨z, n, z1, z2, z3⟩
  · rw [if_pos z, rd_1331 q, ry_1331 q (show k < 514 by omega)]
    obtain ⟨h', x, d1, d2, d3⟩ := rf_hasNow q s N hN (h.bi (M + 25) k)
    have q' := d2.rk q
    have lk := looking d2 (Or.inl z)
    have nz2 : ¬ (1 : Int32) = 2 ∧ ¬ (1 : Int32) = 3 ∧ ¬ (1 : Int32) = 4 := by decide
    have ge : gdR h M m L mp k ↔ ((nowF L mp (h.bi (M + 25) k) = none ∧ h.bi (M + 29) k = 0) ∨ (h.bi (M + 29) k = 1 ∧ nowF L mp (h.bi (M + 25) k) = some (h.bw (M + 31) k))) := by
      unfold gdR
      rw [z]
      exact ⟨fun t => t.1 rfl, fun t => ⟨fun _ => t, fun y => absurd y nz2.1, fun y => absurd y nz2.2.1, fun y => absurd y nz2.2.2⟩⟩
    have st : ∀ {o : Option (Hp × Int32)}, (if x = 0 then (if h.bi (M + 29) k = 0 then some (h', (1 : Int32)) else some (h', 0)) else if h.bi (M + 29) k = 1 then (if lg_cmp (h.bw (M + 31) k) (h'.gl 1351 M) = 0 then some (h', 1) else some (h', 0)) else some (h', 0)) = o → (J_X10_hasNow N M h (h.bi (M + 25) k)).bind (fun z => B_X10_isAgain_58 N M z.1 (nI k) z.2) = o := by
      intro o ho
      refine (bnd d1).trans ?_
      show B_X10_isAgain_58 N M h' (nI k) x = o
      unfold B_X10_isAgain_58 B_X10_isAgain_91 B_X10_isAgain_109
      rw [rd_1335 q', rx_1335 q' (show k < 514 by omega), rd_1335 q', rx_1335 q' (show k < 514 by omega), rd_1337 q', rx_1337 q' (show k < 514 by omega), ni_clp (show k < _ by omega), d2.bi (by decide), d2.bw (by decide), ck_eq (Or.inl rfl), ck_eq (Or.inr rfl)]
      exact ho
    rcases d3 with ⟨n1, n2⟩ | ⟨n1, n2⟩
    · by_cases y : h.bi (M + 29) k = 0
      · exact ⟨h', 1, st (by rw [if_pos n2, if_pos y]), lk.1, lk.2.1, lk.2.2, Or.inl ⟨rfl, ge.mpr (Or.inl ⟨n1, y⟩)⟩⟩
      · refine ⟨h', 0, st (by rw [if_pos n2, if_neg y]), lk.1, lk.2.1, lk.2.2, Or.inr ⟨rfl, fun t => ?_⟩⟩
        rcases ge.mp t with t | t
        · exact y t.2
        · rw [n1] at t; cases t.2
    · have x0 : ¬ x = 0 := by rw [n1]; decide
      by_cases y : h.bi (M + 29) k = 1
      · by_cases y2 : lg_cmp (h.bw (M + 31) k) (h'.gl 1351 M) = 0
        · exact ⟨h', 1, st (by rw [if_neg x0, if_pos y, if_pos y2]), lk.1, lk.2.1, lk.2.2, Or.inl ⟨rfl, ge.mpr (Or.inr ⟨y, by rw [lg_cmp_ez.mp y2]; exact n2⟩)⟩⟩
        · refine ⟨h', 0, st (by rw [if_neg x0, if_pos y, if_neg y2]), lk.1, lk.2.1, lk.2.2, Or.inr ⟨rfl, fun t => ?_⟩⟩
          rcases ge.mp t with t | t
          · rw [n2] at t; cases t.1
          · rw [n2] at t
            exact y2 (lg_cmp_ez.mpr (Option.some.inj t.2).symm)
      · refine ⟨h', 0, st (by rw [if_neg x0, if_neg y]), lk.1, lk.2.1, lk.2.2, Or.inr ⟨rfl, fun t => ?_⟩⟩
        rcases ge.mp t with t | t
        · rw [n2] at t; cases t.1
        · exact y t.1
  · rw [if_neg (by rw [z]; decide), if_pos z]
    obtain ⟨h', x, d1, d2, d3⟩ := rf_isNearAgain q s N hN hk 1
    have lk := looking d2 (Or.inr (Or.inl z))
    refine ⟨h', x, ?_, lk.1, lk.2.1, lk.2.2, d3.con ?_⟩
    · refine (bnd (by exact d1)).trans ?_
      exact ck_eq (d3.elim (fun y => Or.inr y.1) (fun y => Or.inl y.1))
    · unfold gdR
      rw [z]
      exact ⟨fun t => ⟨fun y => absurd y (by decide), fun _ => t, fun y => absurd y (by decide), fun y => absurd y (by decide)⟩, fun t => t.2.1 rfl⟩
  · rw [if_neg (by rw [z]; decide), if_neg (by rw [z]; decide), if_pos z]
    obtain ⟨h', x, d1, d2, d3⟩ := rf_isNearAgain q s N hN hk 0
    have lk := looking d2 (Or.inr (Or.inr (Or.inl z)))
    refine ⟨h', x, ?_, lk.1, lk.2.1, lk.2.2, d3.con ?_⟩
    · refine (bnd (by exact d1)).trans ?_
      exact ck_eq (d3.elim (fun y => Or.inr y.1) (fun y => Or.inl y.1))
    · unfold gdR
      rw [z]
      exact ⟨fun t => ⟨fun y => absurd y (by decide), fun y => absurd y (by decide), fun _ => t, fun y => absurd y (by decide)⟩, fun t => t.2.2.1 rfl⟩
  · rw [if_neg (by rw [z]; decide), if_neg (by rw [z]; decide), if_neg (by rw [z]; decide), if_pos z]
    obtain ⟨h', x, d1, d2, d3⟩ := rf_isScanAgain q s N hN hk z1 z2 z3 z4 z5 z6 z7
    have lk := looking d2 (Or.inr (Or.inr (Or.inr z)))
    refine ⟨h', x, ?_, lk.1, lk.2.1, lk.2.2, d3.con ?_⟩
    · refine (bnd (by exact d1)).trans ?_
      exact ck_eq (d3.elim (fun y => Or.inr y.1) (fun y => Or.inl y.1))
    · unfold gdR
      rw [z]
      refine ⟨fun t => ⟨fun y => absurd y (by decide), fun y => absurd y (by decide), fun y => absurd y (by decide), fun _ => ⟨mo, an, rr, z1, z2, z3, z5, z6, z7, t⟩⟩, fun t => ?_⟩
      obtain ⟨mo', an', rr', y1, y2, y3, y4, y5, y6, y7⟩ := t.2.2.2 rfl
      rw [(ni_inj (by omega) (by omega)).mp (z1.symm.trans y1), (ni_inj (by omega) (by omega)).mp (z2.symm.trans y2), (ni_inj (by omega) (by omega)).mp (z3.symm.trans y3)]
      exact y7
  · have e : B_X10_isAgain_0 N M h (nI k) = B_X10_isAgain_130 N M h (nI k) := by
      unfold B_X10_isAgain_0
      rw [rd_1329 q, rx_1329 q (show k < 514 by omega), ni_clp (show k < _ by omega)]
      rcases z with z | z <;> rw [z] <;> rfl
    have e2 := e.trans (rf_ia130 q N hk hL s.2.2.2.1.1)
    unfold B_X10_isAgain_0 at e2
    rw [rd_1329 q, rx_1329 q (show k < 514 by omega), ni_clp (show k < _ by omega)] at e2
    have sr : stR h M k (L, Pl) = (L ++ [(h.bi (M + 25) k, if h.bi (M + 23) k = 5 then some (h.bw (M + 28) k) else none)], Pl) := by
      unfold stR
      rcases z with z | z <;> rw [z] <;> rfl
    have f := owH.ro (h := h) (M := M) (o := L.length) (key := h.bi (M + 25) k) (x := h.bw (M + 28) k) (is := if h.bi (M + 23) k = 5 then 1 else 0)
    have a := owH.a (h := h) (M := M) (o := L.length) (key := h.bi (M + 25) k) (x := h.bw (M + 28) k) (is := if h.bi (M + 23) k = 5 then 1 else 0)
    refine ⟨_, 1, e2, f, ?_, ?_, Or.inl ⟨rfl, ?_⟩⟩
    · rw [sr]
      obtain ⟨s1, s2, s3, s4, s5, s6⟩ := s
      refine ⟨(f.gi (by decide)).trans s1, s2, ?_, s4.push ?_, ?_, ?_⟩
      · rw [f.bi (by decide)]; exact s3
      · by_cases y : h.bi (M + 23) k = 5
        · rw [if_pos y, if_pos y]; exact Or.inr ⟨rfl, rfl⟩
        · rw [if_neg y, if_neg y]; exact Or.inl ⟨rfl, rfl⟩
      · rw [List.length_append, List.length_singleton]; omega
      · unfold MpR at s6 ⊢
        rw [f.bi (by decide), f.bi (by decide), f.bw (by decide)]
        exact s6
    · rw [sr]
      obtain ⟨p1, p2, p3, p4⟩ := p
      refine ⟨?_, p2, fun i x hx => ?_, p4⟩
      · unfold owH
        rw [gi_oth (by decide), pj_sbi_gi, pj_sbw_gi, pj_sbi_gi]
        exact p1
      · rw [(a i).2.2.2, List.length_append]
        exact ⟨(p3 i x hx).1, by have := (p3 i x hx).2; omega⟩
    · unfold gdR
      rcases z with z | z <;> rw [z] <;> exact ⟨fun y => absurd y (by decide), fun y => absurd y (by decide), fun y => absurd y (by decide), fun y => absurd y (by decide)⟩
  · rw [if_neg (by rw [z]; decide), if_neg (by rw [z]; decide), if_neg (by rw [z]; decide), if_neg (by rw [z]; decide), if_neg (by rw [z]; decide), if_neg (by rw [z]; decide), if_pos z]
    obtain ⟨p1, p2, p3, p4⟩ := p
    have sr : stR h M k (L, Pl) = (L, Pl ++ [L.length]) := by
      unfold stR
      rw [z]; rfl
    have f : RfO [42, 43, 44, 45] [1351, 1363, 1365] M h ((h.sbi (M + 45) Pl.length (nI L.length)).sgi 1365 M (nI (Pl.length + 1))) := (RfO.sbi (k := 45) (by decide) _ _).tr (RfO.sgi (by decide) _)
    have f0 : RfO [45] [1365] M h ((h.sbi (M + 45) Pl.length (nI L.length)).sgi 1365 M (nI (Pl.length + 1))) := (RfO.sbi (k := 45) (by decide) _ _).tr (RfO.sgi (by decide) _)
    refine ⟨(h.sbi (M + 45) Pl.length (nI L.length)).sgi 1365 M (nI (Pl.length + 1)), 1, ?_, f, ?_, ?_, Or.inl ⟨rfl, ?_⟩⟩
    · unfold B_X10_isAgain_219
      rw [p1, s.2.2.2.1.1, rd_1364 q, rx_1364 q z1, ni_clp (show Pl.length < _ by omega), pj_sbi_gi, p1, ni_inc]
    · rw [sr]
      exact s.con f0 (by decide) (by decide)
    · rw [sr]
      have gl : ∀ (i x : Nat), (Pl ++ [L.length])[i]? = some x → (i < Pl.length ∧ Pl[i]? = some x) ∨ (i = Pl.length ∧ x = L.length) := by
        intro i x hx
        by_cases e1 : i < Pl.length
        · rw [List.getElem?_append_left e1] at hx
          exact Or.inl ⟨e1, hx⟩
        · have il : i < (Pl ++ [L.length]).length := by
            rcases Nat.lt_or_ge i (Pl ++ [L.length]).length with q | q
            · exact q
            · rw [List.getElem?_eq_none q] at hx; cases hx
          rw [List.length_append, List.length_singleton] at il
          have ie : i = Pl.length := by omega
          rw [ie, List.getElem?_append_right (Nat.le_refl _), Nat.sub_self] at hx
          exact Or.inr ⟨ie, by injection hx with q; exact q.symm⟩
      refine ⟨?_, ?_, fun i x hx => ?_, fun i j x y hij hx hy => ?_⟩
      · rw [List.length_append, List.length_singleton]; exact gi_same
      · rw [List.length_append, List.length_singleton]; omega
      · rw [pj_sgi_bi, bi_at]
        rcases gl i x hx with ⟨t1, t2⟩ | ⟨t1, t2⟩
        · rw [if_neg (by omega)]
          exact p3 i x t2
        · rw [if_pos t1, t2]
          exact ⟨rfl, Nat.le_refl _⟩
      · rcases gl i x hx with ⟨t1, t2⟩ | ⟨t1, t2⟩ <;> rcases gl j y hy with ⟨u1, u2⟩ | ⟨u1, u2⟩
        · exact p4 i j x y hij t2 u2
        · rw [u2]; exact (p3 i x t2).2
        · omega
        · omega
    · unfold gdR
      rw [z]
      exact ⟨fun y => absurd y (by decide), fun y => absurd y (by decide), fun y => absurd y (by decide), fun y => absurd y (by decide)⟩
  · rw [if_neg (by rw [z]; decide), if_neg (by rw [z]; decide), if_neg (by rw [z]; decide), if_neg (by rw [z]; decide), if_neg (by rw [z]; decide), if_neg (by rw [z]; decide), if_neg (by rw [z]; decide)]
    obtain ⟨p1, p2, p3, p4⟩ := p
    obtain ⟨x, ex⟩ : ∃ x, Pl[n - 1]? = some x := ⟨_, List.getElem?_eq_getElem (by omega)⟩
    have px := p3 _ _ ex
    have nn : (h.bi (M + 25) k).toInt.toNat = n := by
      rw [z1, nI_toInt (by omega)]
      rfl
    have sr : stR h M k (L, Pl) = (L.take x, Pl.take n) := by
      unfold stR
      rw [if_neg (by rw [z]; decide), if_neg (by rw [z]; decide), if_neg (by rw [z]; decide), if_pos z, nn]
      show (L.take (Pl.getD (n - 1) 0), Pl.take n) = _
      rw [List.getD_eq_getElem?_getD, ex]
      rfl
    have f : RfO [42, 43, 44, 45] [1351, 1363, 1365] M h ((h.sgi 1363 M (nI x)).sgi 1365 M (nI n)) := (RfO.sgi (by decide) _).tr (RfO.sgi (by decide) _)
    refine ⟨(h.sgi 1363 M (nI x)).sgi 1365 M (nI n), 1, ?_, f, ?_, ?_, Or.inl ⟨rfl, ?_⟩⟩
    · obtain ⟨n', rfl⟩ : ∃ n', n = n' + 1 := ⟨n - 1, by omega⟩
      rw [Nat.add_sub_cancel] at px
      rw [rd_1331 q, ry_1331 q (show k < 514 by omega), z1, ni_pred, rd_1364 q, rx_1364 q (show n' < 10 by omega), ni_clp (show n' < _ by omega), px.1, pj_sgi_gr, dr_sgi, rd_1331 q, pj_sgi_al, ry_1331 q (show k < 514 by omega), pj_sgi_bi, z1]
    · rw [sr]
      obtain ⟨s1, s2, s3, s4, s5, s6⟩ := s
      refine ⟨s1, s2, s3, ⟨?_, fun i y hy => ?_⟩, ?_, s6⟩
      · rw [gi_oth (by decide), gi_same, List.length_take, Nat.min_eq_left px.2]
      · have il : i < (L.take x).length := by
          rcases Nat.lt_or_ge i (L.take x).length with q | q
          · exact q
          · rw [List.getElem?_eq_none q] at hy; cases hy
        rw [List.length_take] at il
        rw [List.getElem?_take_of_lt (by omega)] at hy
        exact s4.2 i y hy
      · rw [List.length_take]; omega
    · rw [sr]
      have gt : ∀ (i y : Nat), (Pl.take n)[i]? = some y → i < n ∧ Pl[i]? = some y := by
        intro i y hy
        have il : i < (Pl.take n).length := by
          rcases Nat.lt_or_ge i (Pl.take n).length with q | q
          · exact q
          · rw [List.getElem?_eq_none q] at hy; cases hy
        rw [List.length_take] at il
        rw [List.getElem?_take_of_lt (by omega)] at hy
        exact ⟨by omega, hy⟩
      refine ⟨?_, ?_, fun i y hy => ?_, fun i j a c hij ha hc => p4 i j a c hij (gt i a ha).2 (gt j c hc).2⟩
      · rw [gi_same, List.length_take, Nat.min_eq_left z3]
      · rw [List.length_take]; omega
      · obtain ⟨t1, t2⟩ := gt i y hy
        refine ⟨(p3 i y t2).1, ?_⟩
        have := p4 i (n - 1) y x (by omega) t2 ex
        rw [List.length_take]
        omega
    · unfold gdR
      rw [z]
      exact ⟨fun y => absurd y (by decide), fun y => absurd y (by decide), fun y => absurd y (by decide), fun y => absurd y (by decide)⟩
end RF35
