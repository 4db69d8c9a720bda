/-! astray: isFree, the picking, a round -/
section RF37
variable {h : Hp} {M b c w l v k r m : Nat}
theorem rf_isFree (q : Rk h M) (n : Rn h M b c w l v k r) (N : Nat) (hN : 1000 < N) {P : Nat → Nat → Prop} (g : Rx h (M + 38) P) {t : Nat} (ht : t < 514) : ∃ z, J_X10_isFree N M h (nI t) = some (h, z) ∧ B01 z (∀ x, 1 ≤ x → x ≤ b → h.bi (M + 46) x = 0 → ¬ P x t) := by
  have hb := n.2.2.2.2.2.2.2.1
  refine lp_inv (G := fun F x (_ : Unit) => L_X10_isFree_2 N M F h (nI t) (nI x)) (hi := b + 1) (Inv := fun i _ => 1 ≤ i ∧ ∀ x, 1 ≤ x → x < i → h.bi (M + 46) x = 0 → ¬ P x t) (Q := fun o => ∃ z, o = some (h, z) ∧ B01 z (∀ x, 1 ≤ x → x ≤ b → h.bi (M + 46) x = 0 → ¬ P x t)) ?_ ?_ b 1 N () (by omega) (by omega) (by omega) ⟨Nat.le_refl _, fun x h1 h2 => by omega⟩
  · intro F s hs
    refine ⟨1, ?_, Or.inl ⟨rfl, fun x h1 h2 => hs.2 x h1 (by omega)⟩⟩
    show B_X10_isFree_2 N _ M h (nI t) (nI (b + 1)) = _
    unfold B_X10_isFree_2
    rw [n.1]
    exact if_pos ((ni_lt (by omega) (by omega)).mpr (by omega))
  · intro F x s hx hs
    obtain ⟨x1, hs⟩ := hs
    obtain ⟨z, e1, e2⟩ := rf_has N (o := h.gr 1356 M) (q.2 _ rt_1356).1 (q.2 _ rt_1356).2.1 (q.2 _ rt_1356).2.2 g (show x < 514 by omega) ht
    have body : L_X10_isFree_2 N M (F + 1) h (nI t) (nI x) = if h.bi (M + 46) x = 0 then (if z = 0 then L_X10_isFree_2 N M F h (nI t) (nI (x + 1)) else some (h, 0)) else L_X10_isFree_2 N M F h (nI t) (nI (x + 1)) := by
      show B_X10_isFree_2 N (L_X10_isFree_2 N M F) M h (nI t) (nI x) = _
      unfold B_X10_isFree_2 B_X10_isFree_33
      rw [n.1, if_neg (by rw [ni_lt (by omega) (by omega)]; omega), rd_1366 q, rx_1366 q (show x < 514 by omega), ni_clp (show x < _ by omega), ni_inc]
      by_cases y : h.bi (M + 46) x = 0
      · rw [if_pos y, if_pos y]
        refine (bnd (by exact e1)).trans ?_
        show B_X10_isFree_28 N (L_X10_isFree_2 N M F) M h (nI t) (nI x) z = _
        unfold B_X10_isFree_28 B_X10_isFree_33
        rw [ni_inc]
      · rw [if_neg y, if_neg y]
    show (∃ s' : Unit, (1 ≤ x + 1 ∧ ∀ u, 1 ≤ u → u < x + 1 → h.bi (M + 46) u = 0 → ¬ P u t) ∧ L_X10_isFree_2 N M (F + 1) h (nI t) (nI x) = L_X10_isFree_2 N M F h (nI t) (nI (x + 1))) ∨ ∃ z, L_X10_isFree_2 N M (F + 1) h (nI t) (nI x) = some (h, z) ∧ _
    rw [body]
    have skip : (h.bi (M + 46) x = 0 → ¬ P x t) → 1 ≤ x + 1 ∧ ∀ u, 1 ≤ u → u < x + 1 → h.bi (M + 46) u = 0 → ¬ P u t := by
      intro y
      refine ⟨by omega, fun u u1 u2 u3 => ?_⟩
      by_cases e : u = x
      · rw [e] at u3 ⊢; exact y u3
      · exact hs u u1 (by omega) u3
    by_cases y : h.bi (M + 46) x = 0
    · rw [if_pos y]
      rcases e2 with ⟨y1, y2⟩ | ⟨y1, y2⟩
      · right
        rw [if_neg (by rw [y1]; decide)]
        exact ⟨0, rfl, Or.inr ⟨rfl, fun t => t x x1 (by omega) y y2⟩⟩
      · left
        rw [if_pos y1]
        exact ⟨(), skip (fun _ => y2), rfl⟩
    · left
      rw [if_neg y]
      exact ⟨(), skip (fun u => absurd u y), rfl⟩
/-- x could be next: at none that isn't done does it stand behind -/
def Cdx (h : Hp) (M b : Nat) (P : Nat → Nat → Prop) (D : List Nat) (x : Nat) : Prop := 1 ≤ x ∧ x ≤ b ∧ h.bi (M + 1) x = 2 ∧ x ∉ D ∧ ∀ y, 1 ≤ y → y ≤ b → h.bi (M + 1) y = 2 → y ∉ D → ¬ P y x
/-- of those ahead of n, the one with the least moment, or 0 -/
def Pcn (h : Hp) (M b : Nat) (P : Nat → Nat → Prop) (D : List Nat) (n o : Nat) : Prop := (o = 0 ∧ ∀ x, x < n → ¬ Cdx h M b P D x) ∨ (o < n ∧ Cdx h M b P D o ∧ ∀ x, x < n → Cdx h M b P D x → h.bi (M + 4) o ≤ h.bi (M + 4) x)
def DnS (h0 h : Hp) (M b : Nat) (D : List Nat) : Prop := ∀ x, 1 ≤ x → x ≤ b → (h.bi (M + 46) x = 0 ↔ (h0.bi (M + 1) x = 2 ∧ x ∉ D))
theorem rf_as102 (q : Rk h M) (n : Rn h M b c w l v k r) (N : Nat) (hN : 1000 < N) {P : Nat → Nat → Prop} (g : Rx h (M + 38) P) (k88 : Hp → Int32 → Int32 → Option (Hp × Int32)) {D : List Nat} (d : DnS h h M b D) (x2 x3 : Int32) : ∃ o, o ≤ b ∧ Pcn h M b P D (b + 1) o ∧ L_X10_astray_102 N k88 M N h x2 x3 (nI 0) (nI 1) = (J_X10_again N M h (nI o)).bind (fun z => B_X10_astray_169 N k88 M z.1 x3 (nI o) x2 z.2) := by
  have hb := n.2.2.2.2.2.2.2.1
  refine lp_inv (G := fun F t (o : Nat) => L_X10_astray_102 N k88 M F h x2 x3 (nI o) (nI t)) (hi := b + 1) (Inv := fun t o => 1 ≤ t ∧ o ≤ b ∧ Pcn h M b P D t o) (Q := fun r => ∃ o, o ≤ b ∧ Pcn h M b P D (b + 1) o ∧ r = (J_X10_again N M h (nI o)).bind (fun z => B_X10_astray_169 N k88 M z.1 x3 (nI o) x2 z.2)) ?_ ?_ b 1 N 0 (by omega) (by omega) (by omega) ⟨Nat.le_refl _, Nat.zero_le _, Or.inl ⟨rfl, fun x hx y => by have := y.1; omega⟩⟩
  · intro F o hs
    refine ⟨o, hs.2.1, hs.2.2, ?_⟩
    show B_X10_astray_102 N k88 _ M h x2 x3 (nI o) (nI (b + 1)) = _
    unfold B_X10_astray_102
    rw [n.1]
    exact if_pos ((ni_lt (by omega) (by omega)).mpr (by omega))
  · intro F t o ht hs
    obtain ⟨t1, ob, p⟩ := hs
    left
    obtain ⟨z, e1, e2⟩ := rf_isFree q n N hN g (show t < 514 by omega)
    have t143 : B_X10_astray_143 N k88 (L_X10_astray_102 N k88 M F) M h x2 x3 (nI o) (nI t) = if z = 0 then L_X10_astray_102 N k88 M F h x2 x3 (nI o) (nI (t + 1)) else L_X10_astray_102 N k88 M F h x2 x3 (nI t) (nI (t + 1)) := by
      unfold B_X10_astray_143
      refine (bnd (by exact e1)).trans ?_
      show B_X10_astray_149 N k88 (L_X10_astray_102 N k88 M F) M h x2 x3 (nI o) (nI t) z = _
      unfold B_X10_astray_149 B_X10_astray_156
      rw [ni_inc]
    have body : L_X10_astray_102 N k88 M (F + 1) h x2 x3 (nI o) (nI t) = if h.bi (M + 46) t = 0 then (if o = 0 then (if z = 0 then L_X10_astray_102 N k88 M F h x2 x3 (nI o) (nI (t + 1)) else L_X10_astray_102 N k88 M F h x2 x3 (nI t) (nI (t + 1))) else if h.bi (M + 4) o ≤ h.bi (M + 4) t then L_X10_astray_102 N k88 M F h x2 x3 (nI o) (nI (t + 1)) else (if z = 0 then L_X10_astray_102 N k88 M F h x2 x3 (nI o) (nI (t + 1)) else L_X10_astray_102 N k88 M F h x2 x3 (nI t) (nI (t + 1)))) else L_X10_astray_102 N k88 M F h x2 x3 (nI o) (nI (t + 1)) := by
      show B_X10_astray_102 N k88 (L_X10_astray_102 N k88 M F) M h x2 x3 (nI o) (nI t) = _
      unfold B_X10_astray_102 B_X10_astray_156
      rw [n.1, if_neg (by rw [ni_lt (by omega) (by omega)]; omega), rd_1366 q, rx_1366 q (show t < 514 by omega), rd_1304 q, rx_1304 q (show t < 514 by omega), rd_1304 q, rx_1304 q (show o < 514 by omega), ni_clp (show t < _ by omega), ni_clp (show o < _ by omega), t143, ni_inc]
      by_cases y : h.bi (M + 46) t = 0
      · rw [if_pos y, if_pos y]
        by_cases y2 : o = 0
        · rw [if_pos y2, if_pos (by rw [y2]; rfl)]
        · rw [if_neg y2, if_neg (show ¬ nI o = 0 from fun u => y2 ((ni_inj (b := 0) (by omega) (by omega)).mp u))]
      · rw [if_neg y, if_neg y]
    have dt := d t t1 (by omega)
    have cd : Cdx h M b P D t ↔ h.bi (M + 46) t = 0 ∧ z ≠ 0 := by
      have ze : z ≠ 0 ↔ ∀ x, 1 ≤ x → x ≤ b → h.bi (M + 46) x = 0 → ¬ P x t := by
        rcases e2 with ⟨y1, y2⟩ | ⟨y1, y2⟩
        · rw [y1]; exact ⟨fun _ => y2, fun _ => by decide⟩
        · rw [y1]; exact ⟨fun u => absurd rfl u, fun u => absurd u y2⟩
      rw [ze, dt]
      unfold Cdx
      constructor
      · rintro ⟨_, _, u3, u4, u5⟩
        exact ⟨⟨u3, u4⟩, fun x x1 x2 x3 => u5 x x1 x2 ((d x x1 x2).mp x3).1 ((d x x1 x2).mp x3).2⟩
      · rintro ⟨⟨u3, u4⟩, u5⟩
        exact ⟨t1, by omega, u3, u4, fun y y1 y2 y3 y4 => u5 y y1 y2 ((d y y1 y2).mpr ⟨y3, y4⟩)⟩
    have skip : (Cdx h M b P D t → 1 ≤ o ∧ h.bi (M + 4) o ≤ h.bi (M + 4) t) → Pcn h M b P D (t + 1) o := by
      intro y
      rcases p with ⟨p1, p2⟩ | ⟨p1, p2, p3⟩
      · refine Or.inl ⟨p1, fun x hx u => ?_⟩
        by_cases e : x = t
        · rw [e] at u
          have := (y u).1
          omega
        · exact p2 x (by omega) u
      · refine Or.inr ⟨by omega, p2, fun x hx u => ?_⟩
        by_cases e : x = t
        · rw [e] at u ⊢; exact (y u).2
        · exact p3 x (by omega) u
    have take : Cdx h M b P D t → (o = 0 ∨ ¬ h.bi (M + 4) o ≤ h.bi (M + 4) t) → Pcn h M b P D (t + 1) t := by
      intro y ne
      refine Or.inr ⟨by omega, y, fun x hx u => ?_⟩
      by_cases e : x = t
      · rw [e, Int32.le_iff_toInt_le]; exact Int.le_refl _
      · rcases p with ⟨p1, p2⟩ | ⟨p1, p2, p3⟩
        · exact absurd u (p2 x (by omega))
        · have a1 := p3 x (by omega) u
          have a2 := ne.resolve_left (fun w => by have := p2.1; omega)
          rw [Int32.le_iff_toInt_le] at a1 a2 ⊢
          omega
    show ∃ o', (1 ≤ t + 1 ∧ o' ≤ b ∧ Pcn h M b P D (t + 1) o') ∧ L_X10_astray_102 N k88 M (F + 1) h x2 x3 (nI o) (nI t) = L_X10_astray_102 N k88 M F h x2 x3 (nI o') (nI (t + 1))
    rw [body]
    by_cases y : h.bi (M + 46) t = 0
    · rw [if_pos y]
      by_cases y2 : o = 0
      · rw [if_pos y2]
        by_cases y3 : z = 0
        · rw [if_pos y3]
          exact ⟨o, ⟨by omega, ob, skip (fun u => absurd y3 (cd.mp u).2)⟩, rfl⟩
        · rw [if_neg y3]
          exact ⟨t, ⟨by omega, by omega, take (cd.mpr ⟨y, y3⟩) (Or.inl y2)⟩, rfl⟩
      · rw [if_neg y2]
        by_cases y4 : h.bi (M + 4) o ≤ h.bi (M + 4) t
        · rw [if_pos y4]
          exact ⟨o, ⟨by omega, ob, skip (fun _ => ⟨by omega, y4⟩)⟩, rfl⟩
        · rw [if_neg y4]
          by_cases y3 : z = 0
          · rw [if_pos y3]
            exact ⟨o, ⟨by omega, ob, skip (fun u => absurd y3 (cd.mp u).2)⟩, rfl⟩
          · rw [if_neg y3]
            exact ⟨t, ⟨by omega, by omega, take (cd.mpr ⟨y, y3⟩) (Or.inr y4)⟩, rfl⟩
    · rw [if_neg y]
      exact ⟨o, ⟨by omega, ob, skip (fun u => absurd (cd.mp u).1 y)⟩, rfl⟩
/-- the rounds -/
def AsI (h : Hp) (M b m k : Nat) (P : Nat → Nat → Prop) : Nat → List Nat → (Int32 → Option Int64) → Nat → Prop
  | 0, D, mp, n => D = [] ∧ mp = (fun _ => none) ∧ n = 0
  | i + 1, D, mp, n => ∃ D0 mp0 n0 o, AsI h M b m k P i D0 mp0 n0 ∧ Pcn h M b P D0 (b + 1) o ∧ D = D0 ++ [o] ∧ mp = nowF (rpO h M o k).1 mp0 ∧ n = n0 + cntQ (bdR h M m o mp0) k
theorem Cdx.con {A G : List Nat} {h' : Hp} {P : Nat → Nat → Prop} {D : List Nat} (f : RfO A G M h h') (h1 : 1 ∉ A) (x : Nat) : Cdx h' M b P D x ↔ Cdx h M b P D x := by
  unfold Cdx
  rw [f.bi h1]
theorem Pcn.con {A G : List Nat} {h' : Hp} {P : Nat → Nat → Prop} {D : List Nat} (f : RfO A G M h h') (h1 : 1 ∉ A) (h4 : 4 ∉ A) {n o : Nat} : Pcn h' M b P D n o ↔ Pcn h M b P D n o := by
  unfold Pcn Cdx
  rw [f.bi h1, f.bi h4]
theorem rf_as88 (q : Rk h M) (n : Rn h M b c w l v k r) (N : Nat) (hN : 1000 < N) {P : Nat → Nat → Prop} (g : Rx h (M + 38) P) (ok : ∀ t, t ≤ b → ∀ i, i < k → h.bi (M + 24) i = nI t → okR h M m i (rpO h M t i).2) (F : Nat) {i x : Nat} (hi : i < c) {s : Hp} {D : List Nat} {mp : Int32 → Option Int64} (f : RfO [40, 41, 42, 43, 44, 45, 46] [1351, 1363, 1365] M h s) (km : KmS s M m mp) (d : DnS h s M b D) (as : AsI h M b m k P i D mp x) : ∃ s' D' mp' x', L_X10_astray_88 N M (F + 1) s (nI x) (nI i) = L_X10_astray_88 N M F s' (nI x') (nI (i + 1)) ∧ RfO [40, 41, 42, 43, 44, 45, 46] [1351, 1363, 1365] M h s' ∧ KmS s' M m mp' ∧ DnS h s' M b D' ∧ AsI h M b m k P (i + 1) D' mp' x' := by
  have hb := n.2.2.2.2.2.2.2.1
  have hc := n.2.2.2.2.2.2.2.2.1
  have q' := f.rk q
  have n' := f.rn n (by decide)
  have g' : Rx s (M + 38) P := by
    unfold Rx
    rw [f.bw (by decide)]
    exact g
  have d' : DnS s s M b D := by
    unfold DnS
    rw [f.bi (show 1 ∉ _ by decide)]
    exact d
  obtain ⟨o, ob, pc, e1⟩ := rf_as102 q' n' N hN g' (L_X10_astray_88 N M F) d' (nI x) (nI i)
  obtain ⟨s', a1, a2, a3⟩ := rf_again q' n' km N hN (t := o) (fun j hj ej => by
    rw [rpO.con f (by decide), okR.con f (by decide)]
    exact ok o ob j hj (by rw [← f.bi (show 24 ∉ _ by decide)]; exact ej))
  rw [bdR.con f (by decide)] at a1
  rw [rpO.con f (by decide)] at a3
  have f2 : RfO [40, 41, 42, 43, 44, 45, 46] [1351, 1363, 1365] M h s' := f.tr (a2.mono (by decide) (fun _ z => z))
  have q2 := f2.rk q
  refine ⟨s'.sbi (M + 46) o 1, D ++ [o], nowF (rpO h M o k).1 mp, x + cntQ (bdR h M m o mp) k, ?_, f2.tr (RfO.sbi (k := 46) (by decide) _ _), a3.km.con (A := [46]) (G := []) (RfO.sbi (k := 46) (by decide) _ _) (by decide) (by decide), fun y y1 y2 => ?_, D, mp, x, o, as, (Pcn.con f (by decide) (by decide)).mp pc, rfl, rfl, rfl⟩
  · show B_X10_astray_88 N (L_X10_astray_88 N M F) M s (nI x) (nI i) = _
    unfold B_X10_astray_88
    rw [n'.2.1, if_neg (by rw [ni_le (by omega) (by omega)]; omega)]
    refine e1.trans ?_
    refine (bnd (by exact a1)).trans ?_
    unfold B_X10_astray_169
    rw [rd_1366 q2, rx_1366 q2 (show o < 514 by omega), ni_clp (show o < _ by omega), ni_inc, show nI x + nI (cntQ (bdR h M m o mp) k) = nI (x + cntQ (bdR h M m o mp) k) from nI_add _ _]
  · rw [bi_at]
    by_cases e : y = o
    · rw [if_pos e]
      exact ⟨fun u => absurd u (by decide), fun u => absurd (List.mem_append_right _ (List.mem_singleton.mpr e)) u.2⟩
    · rw [if_neg e, a2.bi (by decide), d y y1 y2]
      refine and_congr Iff.rfl ⟨fun u v => ?_, fun u v => u (List.mem_append_left _ v)⟩
      rcases List.mem_append.mp v with w | w
      · exact u w
      · exact e (List.mem_singleton.mp w)
end RF37
