/-! entries, chains, shelves -/
abbrev Ent : Type := Int32 × Int32 × Int32 × Int64
/-- the entry at a is e: stamp, writer, there, value -/
def Ef (h : Hp) (a : Nat) (e : Ent) : Prop := h.kd a = 7 ∧ h.fi 700 a = e.1 ∧ h.fi 701 a = e.2.1 ∧ h.fi 702 a = e.2.2.1 ∧ h.fl 703 a = e.2.2.2 ∧ (e.2.2.1 = 0 ∨ e.2.2.1 = 1)
/-- the entries from x on downwards -/
def En (g : Nat → Nat) (h : Hp) : List Ent → Option Nat → Prop
  | [], x => x = none
  | e :: r, x => ∃ a, x = some a ∧ g a = a ∧ Ef h a e ∧ En g h r (h.fr 704 a)
theorem Ef.fr {g g' : Nat → Nat} {p : Nat} {h h' : Hp} {a : Nat} {e : Ent} (q : Ef h a e) (hg : g a = a) (w : Wf g h) (F : Fr g g' p h h') (hp : h.kd p ≠ 7) : Ef h' a e ∧ h'.fr 704 a = h.fr 704 a ∧ g' a = a := by
  obtain ⟨q1, q2, q3, q4, q5, q6⟩ := q
  have ag := F.ag w q1 (by decide) (nun_root hg (fun z => hp (by rw [← z]; exact q1)))
  exact ⟨⟨F.kd w q1 (by decide), (ag.fi _).trans q2, (ag.fi _).trans q3, (ag.fi _).trans q4, (ag.fl _).trans q5, q6⟩, ag.fr _, (F.gg w q1 (by decide)).trans hg⟩
theorem En.fr {g g' : Nat → Nat} {p : Nat} {h h' : Hp} (w : Wf g h) (F : Fr g g' p h h') (hp : h.kd p ≠ 7) : ∀ {L : List Ent} {x : Option Nat}, En g h L x → En g' h' L x := by
  intro L
  induction L with
  | nil => intro x q; exact q
  | cons e r ih =>
    intro x q
    obtain ⟨a, q1, q2, q3, q4⟩ := q
    obtain ⟨f1, f2, f3⟩ := q3.fr q2 w F hp
    exact ⟨a, q1, f3, f1, by rw [f2]; exact ih q4⟩
def dropW (st : Int32) (L : List Ent) : List Ent := L.dropWhile (fun e => decide (st < e.1))
def takeW (st : Int32) (L : List Ent) : List Ent := L.takeWhile (fun e => decide (st < e.1))
theorem dropW_nil (st : Int32) : dropW st [] = [] := rfl
theorem dropW_c (st : Int32) (e : Ent) (L : List Ent) : dropW st (e :: L) = if st < e.1 then dropW st L else e :: L := by
  unfold dropW
  rw [List.dropWhile_cons]
  by_cases q : st < e.1
  · rw [if_pos q, if_pos (decide_eq_true q)]
  · rw [if_neg q, if_neg (by rw [decide_eq_false q]; decide)]
theorem takeW_nil (st : Int32) : takeW st [] = [] := rfl
theorem takeW_c (st : Int32) (e : Ent) (L : List Ent) : takeW st (e :: L) = if st < e.1 then e :: takeW st L else [] := by
  unfold takeW
  rw [List.takeWhile_cons]
  by_cases q : st < e.1
  · rw [if_pos q, if_pos (decide_eq_true q)]
  · rw [if_neg q, if_neg (by rw [decide_eq_false q]; decide)]
theorem i32_nle {a b : Int32} : ¬ a ≤ b ↔ b < a := Int32.not_le
theorem up_loop {g : Nat → Nat} {h : Hp} (N c : Nat) (st : Int32) : ∀ (L : List Ent) (x : Option Nat) (F : Nat), En g h L x → L.length < F → ∃ y, L_X3_upTo_5 N c F h st x = some (h, y) ∧ En g h (dropW st L) y := by
  intro L
  induction L with
  | nil =>
    intro x F q hF
    obtain ⟨F, rfl⟩ : ∃ F', F = F' + 1 := ⟨F - 1, by omega⟩
    refine ⟨none, ?_, rfl⟩
    show B_X3_upTo_5 N _ c h st x = _
    unfold B_X3_upTo_5
    refine (nl_ne (by exact q)).trans ?_
    rw [show x = none from q]
    rfl
  | cons e r ih =>
    intro x F q hF
    obtain ⟨F, rfl⟩ : ∃ F', F = F' + 1 := ⟨F - 1, by omega⟩
    have q0 := q
    obtain ⟨a, q1, q2, q3, q4⟩ := q
    rw [dropW_c]
    by_cases c1 : st < e.1
    · obtain ⟨y, e1, e2⟩ := ih (h.fr 704 a) F q4 (by simp at hF; omega)
      refine ⟨y, ?_, by rw [if_pos c1]; exact e2⟩
      show B_X3_upTo_5 N _ c h st x = _
      unfold B_X3_upTo_5
      refine (nl_so (by exact q1)).trans ?_
      refine (ck_eq (by exact q3.1)).trans ?_
      refine (if_neg (by rw [q3.2.1]; exact i32_nle.mpr c1)).trans ?_
      exact e1
    · refine ⟨x, ?_, by rw [if_neg c1]; exact q0⟩
      show B_X3_upTo_5 N _ c h st x = _
      unfold B_X3_upTo_5
      refine (nl_so (by exact q1)).trans ?_
      refine (ck_eq (by exact q3.1)).trans ?_
      refine (if_pos (by rw [q3.2.1]; exact Int32.not_lt.mp c1)).trans ?_
      rw [q1]
      rfl
theorem fa_loop {g : Nat → Nat} {h : Hp} (N c : Nat) (st : Int32) : ∀ (L : List Ent) (x y : Option Nat) (F : Nat), En g h L x → L.length < F → ∃ z, L_X3_firstAfter_7 N c F h st y x = some (h, z) ∧ ((takeW st L = [] ∧ z = y) ∨ ∃ a e, z = some a ∧ Ef h a e ∧ g a = a ∧ (takeW st L).getLast? = some e) := by
  intro L
  induction L with
  | nil =>
    intro x y F q hF
    obtain ⟨F, rfl⟩ : ∃ F', F = F' + 1 := ⟨F - 1, by omega⟩
    refine ⟨y, ?_, Or.inl ⟨rfl, rfl⟩⟩
    show B_X3_firstAfter_7 N _ c h st y x = _
    unfold B_X3_firstAfter_7
    refine (nl_ne (by exact q)).trans ?_
    rfl
  | cons e r ih =>
    intro x y F q hF
    obtain ⟨F, rfl⟩ : ∃ F', F = F' + 1 := ⟨F - 1, by omega⟩
    obtain ⟨a, q1, q2, q3, q4⟩ := q
    rw [takeW_c]
    by_cases c1 : st < e.1
    · obtain ⟨z, e1, e2⟩ := ih (h.fr 704 a) (some a) F q4 (by simp at hF; omega)
      refine ⟨z, ?_, ?_⟩
      · show B_X3_firstAfter_7 N _ c h st y x = _
        unfold B_X3_firstAfter_7
        refine (nl_so (by exact q1)).trans ?_
        refine (ck_eq (by exact q3.1)).trans ?_
        refine (if_neg (by rw [q3.2.1]; exact i32_nle.mpr c1)).trans ?_
        exact e1
      · right
        rw [if_pos c1]
        rcases e2 with ⟨n1, n2⟩ | ⟨b, e', n1, n2, n3, n4⟩
        · exact ⟨a, e, n2, q3, q2, by rw [n1]; rfl⟩
        · refine ⟨b, e', n1, n2, n3, ?_⟩
          rw [List.getLast?_cons, n4]
          rfl
    · refine ⟨y, ?_, Or.inl ⟨by rw [if_neg c1], rfl⟩⟩
      show B_X3_firstAfter_7 N _ c h st y x = _
      unfold B_X3_firstAfter_7
      refine (nl_so (by exact q1)).trans ?_
      refine (ck_eq (by exact q3.1)).trans ?_
      refine (if_pos (by rw [q3.2.1]; exact Int32.not_lt.mp c1)).trans ?_
      rfl
/-- how many of a key's versions are kept above a horizon -/
def keptN (st : Int32) (L : List Ent) : Nat := (takeW st L).length + (match dropW st L with
  | [] => 0
  | e :: _ => if e.2.2.1 = 0 then 0 else 1)
theorem kept_end {g : Nat → Nat} {h : Hp} (N c k : Nat) (st : Int32) {L : List Ent} {x : Option Nat} (q : En g h L x) (hd : dropW st L = L) : B_X3_keptAbove_30 N c h (nI k) x = some (h, nI (k + (match dropW st L with
  | [] => 0
  | e :: _ => if e.2.2.1 = 0 then 0 else 1))) := by
  rw [hd]
  unfold B_X3_keptAbove_30
  cases L with
  | nil =>
    refine (nl_ne (by exact q)).trans ?_
    rfl
  | cons e r =>
    obtain ⟨a, q1, q2, q3, q4⟩ := q
    refine (nl_so (by exact q1)).trans ?_
    refine (ck_eq (by exact q3.1)).trans ?_
    by_cases c1 : e.2.2.1 = 0
    · refine (if_pos (by rw [q3.2.2.2.1]; exact c1)).trans ?_
      show some (h, nI k) = _
      dsimp only
      rw [if_pos c1]
      rfl
    · refine (if_neg (by rw [q3.2.2.2.1]; exact c1)).trans ?_
      show some (h, nI k + 1) = _
      dsimp only
      rw [ni_inc, if_neg c1]
theorem kept_loop {g : Nat → Nat} {h : Hp} (N c : Nat) (st : Int32) : ∀ (L : List Ent) (x : Option Nat) (F k : Nat), En g h L x → L.length < F → L_X3_keptAbove_7 N c F h st (nI k) x = some (h, nI (k + keptN st L)) := by
  intro L
  induction L with
  | nil =>
    intro x F k q hF
    obtain ⟨F, rfl⟩ : ∃ F', F = F' + 1 := ⟨F - 1, by omega⟩
    show B_X3_keptAbove_7 N _ c h st (nI k) x = _
    unfold B_X3_keptAbove_7
    refine (nl_ne (by exact q)).trans ?_
    rw [kept_end N c k st q rfl]
    unfold keptN
    rw [takeW_nil, List.length_nil, Nat.zero_add]
  | cons e r ih =>
    intro x F k q hF
    obtain ⟨F, rfl⟩ : ∃ F', F = F' + 1 := ⟨F - 1, by omega⟩
    have q0 := q
    obtain ⟨a, q1, q2, q3, q4⟩ := q
    show B_X3_keptAbove_7 N _ c h st (nI k) x = _
    unfold B_X3_keptAbove_7
    refine (nl_so (by exact q1)).trans ?_
    refine (ck_eq (by exact q3.1)).trans ?_
    by_cases c1 : st < e.1
    · refine (if_neg (by rw [q3.2.1]; exact i32_nle.mpr c1)).trans ?_
      rw [ni_inc, ih _ F (k + 1) q4 (by simp at hF; omega)]
      unfold keptN
      rw [takeW_c, if_pos c1, dropW_c, if_pos c1, List.length_cons]
      congr 3
      omega
    · refine (if_pos (by rw [q3.2.1]; exact Int32.not_lt.mp c1)).trans ?_
      have hd : dropW st (e :: r) = e :: r := by rw [dropW_c, if_neg c1]
      rw [← q1, kept_end N c k st q0 hd]
      unfold keptN
      rw [takeW_c, if_neg c1, List.length_nil, Nat.zero_add]
/-- the chain at c, of the shelf s -/
def Chq (g : Nat → Nat) (h : Hp) (s c : Nat) (k : Int32) (L : List Ent) : Prop := h.kd c = 6 ∧ g c = s ∧ h.fi 600 c = k ∧ En g h L (h.fr 601 c) ∧ L.length < 100000
theorem Chq.fr {g g' : Nat → Nat} {p : Nat} {h h' : Hp} {s c : Nat} {k : Int32} {L : List Ent} (q : Chq g h s c k L) (w : Wf g h) (F : Fr g g' p h h') (hp : h.kd p ≠ 7) (sp : ¬ Un g p c) : Chq g' h' s c k L := by
  obtain ⟨q1, q2, q3, q4, q5⟩ := q
  have ag := F.ag w q1 (by decide) sp
  exact ⟨F.kd w q1 (by decide), (F.gg w q1 (by decide)).trans q2, (ag.fi _).trans q3, by rw [ag.fr]; exact q4.fr w F hp, q5⟩
theorem ch_upTo {g : Nat → Nat} {h : Hp} {s c : Nat} {k : Int32} {L : List Ent} (q : Chq g h s c k L) (N : Nat) (hN : 100000 < N) (st : Int32) : ∃ y, J_X3_upTo N c h st = some (h, y) ∧ En g h (dropW st L) y := up_loop N c st L _ N q.2.2.2.1 (by have := q.2.2.2.2; omega)
theorem ch_first {g : Nat → Nat} {h : Hp} {s c : Nat} {k : Int32} {L : List Ent} (q : Chq g h s c k L) (N : Nat) (hN : 100000 < N) (st : Int32) : ∃ z, J_X3_firstAfter N c h st = some (h, z) ∧ ((takeW st L = [] ∧ z = none) ∨ ∃ a e, z = some a ∧ Ef h a e ∧ g a = a ∧ (takeW st L).getLast? = some e) := fa_loop N c st L _ none N q.2.2.2.1 (by have := q.2.2.2.2; omega)
theorem ch_kept {g : Nat → Nat} {h : Hp} {s c : Nat} {k : Int32} {L : List Ent} (q : Chq g h s c k L) (N : Nat) (hN : 100000 < N) (st : Int32) : J_X3_keptAbove N c h st = some (h, nI (keptN st L)) := by
  have := kept_loop N c st L _ N 0 q.2.2.2.1 (by have := q.2.2.2.2; omega)
  rw [Nat.zero_add] at this
  exact this
/-- the keys rise -/
def Srt (L : List (Int32 × List Ent)) : Prop := ∀ (i j : Nat) (y z : Int32 × List Ent), i < j → L[i]? = some y → L[j]? = some z → y.1 < z.1
def ChL (g : Nat → Nat) (h : Hp) (s : Nat) (cs : List Nat) (L : List (Int32 × List Ent)) : Prop := cs.length = L.length ∧ ∀ (i c : Nat) (y : Int32 × List Ent), cs[i]? = some c → L[i]? = some y → Chq g h s c y.1 y.2
/-- the shelf at s, its list at l -/
def Sh (g : Nat → Nat) (h : Hp) (s l : Nat) (L : List (Int32 × List Ent)) : Prop := h.kd s = 8 ∧ h.fr 800 s = some l ∧ g l = s ∧ Srt L ∧ (∀ y ∈ L, y.2 ≠ []) ∧ ∃ cs, Al g h l cs ∧ ChL g h s cs L
theorem Sh.fr {g g' : Nat → Nat} {p : Nat} {h h' : Hp} {s l : Nat} {L : List (Int32 × List Ent)} (q : Sh g h s l L) (w : Wf g h) (F : Fr g g' p h h') (hp : h.kd p ≠ 7) (sp : Sep g p s) : Sh g' h' s l L := by
  obtain ⟨q1, q2, q3, q4, q5, cs, q6, q7, q8⟩ := q
  have ag := F.ag w q1 (by decide) sp.1
  exact ⟨F.kd w q1 (by decide), (ag.fr _).trans q2, (F.gg w q6.1 (by decide)).trans q3, q4, q5, cs, q6.fr w F (sp.ch q3), q7, fun i c y e1 e2 => (q8 i c y e1 e2).fr w F hp (sp.ch (q8 i c y e1 e2).2.1).1⟩
theorem sh_size {g : Nat → Nat} {h : Hp} {s l : Nat} {L : List (Int32 × List Ent)} (q : Sh g h s l L) (N : Nat) : J_X5_size N s h = some (h, nI L.length) := by
  obtain ⟨q1, q2, q3, q4, q5, cs, q6, q7, q8⟩ := q
  unfold J_X5_size B_X5_size_0
  refine (dr_e (by exact q2) (by exact q6.1)).trans ?_
  refine (bnd (by exact al_size q6 N)).trans ?_
  rw [q7]
  rfl
theorem sh_chainAt {g : Nat → Nat} {h : Hp} {s l : Nat} {L : List (Int32 × List Ent)} (q : Sh g h s l L) (N : Nat) {i : Nat} {y : Int32 × List Ent} (hi : L[i]? = some y) : ∃ c, J_X5_chainAt N s h (nI i) = some (h, some c) ∧ Chq g h s c y.1 y.2 ∧ ∀ cs, Al g h l cs → cs[i]? = some c := by
  obtain ⟨q1, q2, q3, q4, q5, cs, q6, q7, q8⟩ := q
  have hlt : i < cs.length := by rw [q7]; exact (List.getElem?_eq_some_iff.mp hi).1
  have hc : cs[i]? = some cs[i] := List.getElem?_eq_getElem hlt
  have hb := q6.2.1
  have hch := q8 i _ y hc hi
  refine ⟨cs[i], ?_, hch, fun cs' a' => ?_⟩
  rotate_left
  · have hb' := a'.2.1
    have hl : cs'.length = cs.length := (ni_inj (by omega) (by omega)).mp (a'.2.2.1.symm.trans q6.2.2.1)
    have hc' : cs'[i]? = some (cs'[i]'(by omega)) := List.getElem?_eq_getElem (by omega)
    have e1 := al_get q6 0 hc
    rw [al_get a' 0 hc'] at e1
    rw [hc', Option.some.inj (congrArg Prod.snd (Option.some.inj e1))]
  unfold J_X5_chainAt B_X5_chainAt_0
  refine (if_neg (by exact ni_nn (by omega))).trans ?_
  refine (dr_e (by exact q2) (by exact q6.1)).trans ?_
  refine (bnd (by exact al_size q6 N)).trans ?_
  unfold B_X5_chainAt_12
  refine (if_neg (by exact fun z => by rw [ni_le (by omega) (by omega)] at z; omega)).trans ?_
  refine (dr_e (by exact q2) (by exact q6.1)).trans ?_
  refine (bnd (by exact al_get q6 N hc)).trans ?_
  unfold B_X5_chainAt_23
  refine (dr_e (by exact rfl) (by exact hch.1)).trans ?_
  rfl
theorem sh_chainAtN {g : Nat → Nat} {h : Hp} {s l : Nat} {L : List (Int32 × List Ent)} (q : Sh g h s l L) (N : Nat) {x : Int32} (hx : x < 0 ∨ ∃ i, x = nI i ∧ L.length ≤ i ∧ i < 2147483648) : J_X5_chainAt N s h x = some (h, none) := by
  obtain ⟨q1, q2, q3, q4, q5, cs, q6, q7, q8⟩ := q
  have hb := q6.2.1
  unfold J_X5_chainAt B_X5_chainAt_0
  by_cases c1 : x < 0
  · refine (if_pos (by exact c1)).trans ?_
    rfl
  · obtain ⟨i, rfl, h1, h2⟩ := hx.resolve_left c1
    refine (if_neg (by exact c1)).trans ?_
    refine (dr_e (by exact q2) (by exact q6.1)).trans ?_
    refine (bnd (by exact al_size q6 N)).trans ?_
    unfold B_X5_chainAt_12
    refine (if_pos (by exact (ni_le (by omega) (by omega)).mpr (by omega))).trans ?_
    rfl
/-- the place of the least key that isn't below k -/
def IsIx (L : List (Int32 × List Ent)) (k : Int) (i : Nat) : Prop := i ≤ L.length ∧ (∀ (j : Nat) (y : Int32 × List Ent), j < i → L[j]? = some y → y.1.toInt < k) ∧ ∀ (j : Nat) (y : Int32 × List Ent), i ≤ j → L[j]? = some y → k ≤ y.1.toInt
theorem shr_mid {a b : Nat} (h : a + b < 2147483648) : (((nI a + nI b).toUInt32 >>> ((1 : Int32).toUInt32 &&& Int32.toUInt32 31)).toInt32) = nI ((a + b) / 2) := by
  rw [nI_add]
  apply Int32.toInt_inj.mp
  rw [nI_toInt (by omega)]
  show (BitVec.toInt ((nI (a + b)).toBitVec >>> _)) = _
  have e1 : (nI (a + b)).toBitVec.toNat = a + b := by
    show (Int32.ofNat (a + b)).toBitVec.toNat = _
    rw [Int32.toBitVec_ofNat', BitVec.toNat_ofNat]
    omega
  have e2 : ((nI (a + b)).toBitVec >>> ((1 : Int32).toUInt32 &&& Int32.toUInt32 31).toBitVec) = (nI (a + b)).toBitVec >>> (1 : Nat) := rfl
  have e3 : ((nI (a + b)).toBitVec >>> (1 : Nat)).toInt = (((a + b) / 2 : Nat) : Int) := by
    rw [BitVec.toInt_eq_toNat_of_lt]
    · rw [BitVec.toNat_ushiftRight, e1, Nat.shiftRight_eq_div_pow]
    · rw [BitVec.toNat_ushiftRight, e1, Nat.shiftRight_eq_div_pow]
      omega
  exact e3
theorem lg_cmp_nn {a b : Int64} : (0 ≤ lg_cmp a b) ↔ b.toInt ≤ a.toInt := by
  rw [lg_cmp_ge]
  exact Int64.le_iff_toInt_le
theorem toI64 (a : Int32) : a.toInt64.toInt = a.toInt := Int32.toInt_toInt64 a
theorem ix_loop {g : Nat → Nat} {h : Hp} {s l : Nat} {L : List (Int32 × List Ent)} (q : Sh g h s l L) (N : Nat) (k : Int64) : ∀ (m a b F : Nat), m = b - a → a ≤ b → b ≤ L.length → m < F → (∀ (j : Nat) (y : Int32 × List Ent), j < a → L[j]? = some y → y.1.toInt < k.toInt) → (∀ (j : Nat) (y : Int32 × List Ent), b ≤ j → L[j]? = some y → k.toInt ≤ y.1.toInt) → ∃ i, L_X5_indexFrom_11 N s F h k (nI a) (nI b) = some (h, nI i) ∧ IsIx L k.toInt i := by
  obtain ⟨q1, q2, q3, q4, q5, cs, q6, q7, q8⟩ := q
  have hcl := q6.2.1
  intro m
  induction m using Nat.strongRecOn with
  | _ m ih =>
    intro a b F hm hab hbl hF hlo hhi
    obtain ⟨F, rfl⟩ : ∃ F', F = F' + 1 := ⟨F - 1, by omega⟩
    by_cases c1 : b ≤ a
    · refine ⟨a, ?_, by omega, hlo, fun j y hj e => hhi j y (by omega) e⟩
      show B_X5_indexFrom_11 N _ s h k (nI a) (nI b) = _
      unfold B_X5_indexFrom_11
      refine (if_pos (by exact (ni_le (by omega) (by omega)).mpr c1)).trans ?_
      rfl
    · have hmid : (a + b) / 2 < cs.length := by omega
      have hc : cs[(a + b) / 2]? = some cs[(a + b) / 2] := List.getElem?_eq_getElem hmid
      have hy : L[(a + b) / 2]? = some (L[(a + b) / 2]'(by omega)) := List.getElem?_eq_getElem (by omega)
      have hch := q8 _ _ _ hc hy
      have step : ∀ R, (if 0 ≤ (lg_cmp ((h.fi 600 cs[(a + b) / 2]).toInt64) k) then (L_X5_indexFrom_11 N s F h k (nI a) (nI ((a + b) / 2))) else (L_X5_indexFrom_11 N s F h k (nI ((a + b) / 2 + 1)) (nI b))) = R → L_X5_indexFrom_11 N s (F + 1) h k (nI a) (nI b) = R := by
        intro R hR
        show B_X5_indexFrom_11 N _ s h k (nI a) (nI b) = _
        unfold B_X5_indexFrom_11
        refine (if_neg (by exact fun z => c1 ((ni_le (by omega) (by omega)).mp z))).trans ?_
        refine (dr_e (by exact q2) (by exact q6.1)).trans ?_
        rw [shr_mid (by omega)]
        refine (bnd (by exact al_get q6 N hc)).trans ?_
        unfold B_X5_indexFrom_34 B_X5_indexFrom_58
        refine (dr_e (by exact rfl) (by exact hch.1)).trans ?_
        rw [ni_inc]
        exact hR
      rw [hch.2.2.1] at step
      by_cases c2 : k.toInt ≤ (L[(a + b) / 2]'(by omega)).1.toInt
      · obtain ⟨i, e1, e2⟩ := ih ((a + b) / 2 - a) (by omega) a ((a + b) / 2) F rfl (by omega) (by omega) (by omega) hlo (fun j y hj e => by
          by_cases c3 : j = (a + b) / 2
          · rw [c3, hy] at e
            rw [← Option.some.inj e]; exact c2
          · have := q4 _ _ _ _ (show (a + b) / 2 < j by omega) hy e
            have := Int32.lt_iff_toInt_lt.mp this
            omega)
        exact ⟨i, step _ (by rw [if_pos (lg_cmp_nn.mpr (by rw [toI64]; exact c2))]; exact e1), e2⟩
      · obtain ⟨i, e1, e2⟩ := ih (b - ((a + b) / 2 + 1)) (by omega) ((a + b) / 2 + 1) b F rfl (by omega) hbl (by omega) (fun j y hj e => by
          by_cases c3 : j = (a + b) / 2
          · rw [c3, hy] at e
            rw [← Option.some.inj e]; omega
          · have := q4 _ _ _ _ (show j < (a + b) / 2 by omega) e hy
            have := Int32.lt_iff_toInt_lt.mp this
            omega) hhi
        exact ⟨i, step _ (by rw [if_neg (fun z => c2 (by have := lg_cmp_nn.mp z; rw [toI64] at this; exact this))]; exact e1), e2⟩
theorem sh_index {g : Nat → Nat} {h : Hp} {s l : Nat} {L : List (Int32 × List Ent)} (q : Sh g h s l L) (N : Nat) (hN : 100000 < N) (k : Int64) : ∃ i, J_X5_indexFrom N s h k = some (h, nI i) ∧ IsIx L k.toInt i := by
  have q0 := q
  obtain ⟨q1, q2, q3, q4, q5, cs, q6, q7, q8⟩ := q
  have hcl := q6.2.1
  obtain ⟨i, e1, e2⟩ := ix_loop q0 N k L.length 0 L.length N (by omega) (by omega) (by omega) (by omega) (fun j y hj => by omega) (fun j y hj e => by rw [List.getElem?_eq_none hj] at e; cases e)
  refine ⟨i, ?_, e2⟩
  unfold J_X5_indexFrom B_X5_indexFrom_0
  refine (dr_e (by exact q2) (by exact q6.1)).trans ?_
  refine (bnd (by exact al_size q6 N)).trans ?_
  rw [q7]
  exact e1
