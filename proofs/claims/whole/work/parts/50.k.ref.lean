/-! commit: the two walks over all -/
section RF11
variable {h : Hp} {M b c w l v k r : Nat}
theorem prec.con {A G : List Nat} {h' : Hp} (f : RfO A G M h h') (hA : ∀ x ∈ [1, 3, 4, 7, 16, 17, 18, 19, 20], x ∉ A) {s t : Nat} : prec h' M l v s t ↔ prec h M l v s t := by
  unfold prec rdK endT inT
  rw [f.bi (hA 1 (by decide)), f.bi (hA 3 (by decide)), f.bi (hA 4 (by decide)), f.bi (hA 7 (by decide)), f.bi (hA 16 (by decide)), f.bi (hA 17 (by decide)), f.bi (hA 18 (by decide)), f.bi (hA 19 (by decide)), f.bi (hA 20 (by decide))]
/-- t's mark 'preceded', once those ahead of n are walked -/
def PrcR (h : Hp) (M l v t n : Nat) (h' : Hp) : Prop := RfO [8] [] M h h' ∧ (∀ u, u ≠ t → h'.bi (M + 8) u = h.bi (M + 8) u) ∧ B01 (h'.bi (M + 8) t) (h.bi (M + 8) t = 1 ∨ ∃ a, 1 ≤ a ∧ a < n ∧ prec h M l v a t)
theorem rf_cm241 (q : Rk h M) (n : Rn h M b c w l v k r) (N : Nat) (hN : 1000 < N) (pos : ∀ u, 1 ≤ u → u ≤ b → h.bi (M + 1) u = 2 → 0 < h.bi (M + 4) u) (hc : c < 512) {t : Nat} (ht : t < 514) (h8 : h.bi (M + 8) t = 0 ∨ h.bi (M + 8) t = 1) : ∃ s h', L_X10_commit_241 N M N h (nI t) (nI 1) = some (h', 0) ∧ PrcR h M l v t (b + 1) s ∧ JdR (s.sgi 1312 M (nI (c + 1))) M b l v (b + 1) h' := by
  have hb := n.2.2.2.2.2.2.2.1
  refine lp_inv (G := fun F i (s : Hp) => L_X10_commit_241 N M F s (nI t) (nI i)) (hi := b + 1) (Inv := fun i s => 1 ≤ i ∧ PrcR h M l v t i s) (Q := fun o => ∃ s h', o = some (h', 0) ∧ PrcR h M l v t (b + 1) s ∧ JdR (s.sgi 1312 M (nI (c + 1))) M b l v (b + 1) h') ?_ ?_ b 1 N h (by omega) (by omega) (by omega) ⟨Nat.le_refl _, RfO.rf _ _ _ _, fun _ _ => rfl, h8.elim (fun z => Or.inr ⟨z, fun y => y.elim (fun y => by rw [z] at y; exact absurd y (by decide)) (fun ⟨a, a1, a2, _⟩ => by omega)⟩) (fun z => Or.inl ⟨z, Or.inl z⟩)⟩
  · intro F s hs
    obtain ⟨_, f, p⟩ := hs
    have n' := f.rn n (fun _ _ z => by cases z)
    have f2 : RfO [] [1312] M s (s.sgi 1312 M (nI (c + 1))) := RfO.sgi (by decide) _
    have n2 : Rn (s.sgi 1312 M (nI (c + 1))) M b (c + 1) w l v k r := by
      obtain ⟨n1, n2, n3, n4, n5, n6, n7, n8, n9, n10, n11, n12, n13, n14⟩ := n'
      exact ⟨(f2.gi (by decide)).trans n1, gi_same, (f2.gi (by decide)).trans n3, (f2.gi (by decide)).trans n4, (f2.gi (by decide)).trans n5, (f2.gi (by decide)).trans n6, (f2.gi (by decide)).trans n7, n8, by omega, n10, n11, n12, n13, n14⟩
    obtain ⟨h', e1, e2⟩ := rf_judge (f2.rk (f.rk q)) n2 N hN (fun u u1 u2 u3 => by
      rw [f2.bi (k := 1) (by decide), f.bi (k := 1) (by decide)] at u3
      rw [f2.bi (k := 4) (by decide), f.bi (k := 4) (by decide)]
      exact pos u u1 u2 u3)
    refine ⟨s, h', ?_, ⟨f, p⟩, e2⟩
    show B_X10_commit_241 N _ M s (nI t) (nI (b + 1)) = _
    unfold B_X10_commit_241
    rw [n'.1, n'.2.1, ni_inc]
    refine (if_pos (by exact (ni_lt (by omega) (by omega)).mpr (by omega))).trans ?_
    refine (bnd (by exact e1)).trans ?_
    rfl
  · intro F i s hi hs
    obtain ⟨i1, f, p1, p2⟩ := hs
    left
    have q' := f.rk q
    have n' := f.rn n (fun _ _ z => by cases z)
    obtain ⟨x, e1, e2⟩ := rf_precedes q' n' N hN (s := i) (t := t) (by omega) ht
    have e2 : B01 x (prec h M l v i t) := B01.con e2 (prec.con f (by decide))
    have put : ∀ y : Int32, y = 0 ∨ y = 1 → B_X10_commit_277 N (L_X10_commit_241 N M F) M s (nI t) (nI i) (some (M + 8)) (nI t) y = L_X10_commit_241 N M F (s.sbi (M + 8) t y) (nI t) (nI (i + 1)) := by
      intro y hy
      unfold B_X10_commit_277
      refine (dr_e (by exact rfl) (by exact (q'.2 _ rt_1308).2.1)).trans ?_
      rw [rx_1308 q' ht, ni_clp (by omega), ni_inc]
      exact ck_eq hy
    have body : L_X10_commit_241 N M (F + 1) s (nI t) (nI i) = L_X10_commit_241 N M F (s.sbi (M + 8) t (if s.bi (M + 8) t = 0 then (if x = 0 then 0 else 1) else 1)) (nI t) (nI (i + 1)) := by
      show B_X10_commit_241 N (L_X10_commit_241 N M F) M s (nI t) (nI i) = _
      unfold B_X10_commit_241
      rw [n'.1]
      refine (if_neg (by exact fun z => by rw [ni_lt (by omega) (by omega)] at z; omega)).trans ?_
      rw [rd_1308 q', rx_1308 q' ht, ni_clp (by omega)]
      by_cases z : s.bi (M + 8) t = 0
      · rw [if_pos z, if_pos z]
        refine (bnd (by exact e1)).trans ?_
        show B_X10_commit_269 N (L_X10_commit_241 N M F) M s (nI t) (nI i) (some (M + 8)) (nI t) x = _
        unfold B_X10_commit_269 B_X10_commit_272
        by_cases z2 : x = 0
        · rw [if_pos z2, if_pos z2]
          exact put 0 (Or.inl rfl)
        · rw [if_neg z2, if_neg z2]
          exact put 1 (Or.inr rfl)
      · rw [if_neg z, if_neg z]
        unfold B_X10_commit_272
        exact put 1 (Or.inr rfl)
    show ∃ s' : Hp, (1 ≤ i + 1 ∧ PrcR h M l v t (i + 1) s') ∧ L_X10_commit_241 N M (F + 1) s (nI t) (nI i) = L_X10_commit_241 N M F s' (nI t) (nI (i + 1))
    refine ⟨_, ⟨by omega, f.tr (RfO.sbi (k := 8) (by decide) _ _), fun u hu => ?_, ?_⟩, body⟩
    · rw [bi_at, if_neg hu]
      exact p1 u hu
    · rw [bi_at, if_pos rfl]
      rcases p2 with ⟨a1, a2⟩ | ⟨a1, a2⟩
      · rw [a1, if_neg (by decide)]
        exact Or.inl ⟨rfl, a2.imp id (fun ⟨a, b1, b2, b3⟩ => ⟨a, b1, by omega, b3⟩)⟩
      · rw [a1, if_pos rfl]
        rcases e2 with ⟨y1, y2⟩ | ⟨y1, y2⟩
        · rw [y1, if_neg (by decide)]
          exact Or.inl ⟨rfl, Or.inr ⟨i, i1, by omega, y2⟩⟩
        · rw [y1, if_pos rfl]
          refine Or.inr ⟨rfl, fun y => a2 (y.imp id (fun ⟨a, b1, b2, b3⟩ => ⟨a, b1, ?_, b3⟩))⟩
          by_cases e : a = i
          · rw [e] at b3; exact absurd b3 y2
          · omega
/-- a stands in t's way -/
def Wayq (h : Hp) (M b l v a t : Nat) : Prop := prec h M l v a t ∧ mayN h M b l v a t
theorem rf_cm181 (q : Rk h M) (n : Rn h M b c w l v k r) (N : Nat) (hN : 1000 < N) (pos : ∀ u, 1 ≤ u → u ≤ b → h.bi (M + 1) u = 2 → 0 < h.bi (M + 4) u) {t v0 : Nat} (hv0 : v0 ≤ 512) (ht : t < 514) : (∃ a h1 h', 1 ≤ a ∧ a ≤ b ∧ Wayq h M b l v a t ∧ (∀ a', 1 ≤ a' → a' < a → ¬ Wayq h M b l v a' t) ∧ DgR h M b l v a t h1 ∧ JdR (((((h1.sgi 1328 M (nI v0)).sbi (M + 4) t 0).sbi (M + 1) t 5).sbi (M + 6) t (h.gi 1313 M))) M b l v0 (b + 1) h' ∧ L_X10_commit_181 N M N h (nI t) (nI v0) (nI 1) = some (h', 2)) ∨ ((∀ a, 1 ≤ a → a ≤ b → ¬ Wayq h M b l v a t) ∧ L_X10_commit_181 N M N h (nI t) (nI v0) (nI 1) = L_X10_commit_241 N M N h (nI t) 1) := by
  have hb := n.2.2.2.2.2.2.2.1
  refine lp_inv (G := fun F i (_ : Unit) => L_X10_commit_181 N M F h (nI t) (nI v0) (nI i)) (hi := b + 1) (Inv := fun i _ => 1 ≤ i ∧ ∀ a', 1 ≤ a' → a' < i → ¬ Wayq h M b l v a' t) (Q := fun o => (∃ a h1 h', 1 ≤ a ∧ a ≤ b ∧ Wayq h M b l v a t ∧ (∀ a', 1 ≤ a' → a' < a → ¬ Wayq h M b l v a' t) ∧ DgR h M b l v a t h1 ∧ JdR (((((h1.sgi 1328 M (nI v0)).sbi (M + 4) t 0).sbi (M + 1) t 5).sbi (M + 6) t (h.gi 1313 M))) M b l v0 (b + 1) h' ∧ o = some (h', 2)) ∨ ((∀ a, 1 ≤ a → a ≤ b → ¬ Wayq h M b l v a t) ∧ o = L_X10_commit_241 N M N h (nI t) 1)) ?_ ?_ b 1 N () (by omega) (by omega) (by omega) ⟨Nat.le_refl _, fun a' h1 h2 => by omega⟩
  · intro F s hs
    refine Or.inr ⟨fun a h1 h2 => hs.2 a h1 (by omega), ?_⟩
    show B_X10_commit_181 N _ M h (nI t) (nI v0) (nI (b + 1)) = _
    unfold B_X10_commit_181
    rw [n.1]
    exact if_pos ((ni_lt (by omega) (by omega)).mpr (by omega))
  · intro F i s hi hs
    obtain ⟨i1, hs⟩ := hs
    obtain ⟨x, e1, e2⟩ := rf_precedes q n N hN (s := i) (t := t) (by omega) ht
    obtain ⟨y, f1, f2⟩ := rf_mayNot q n N hN pos (a := i) (t := t) (by omega) ht
    have body : L_X10_commit_181 N M (F + 1) h (nI t) (nI v0) (nI i) = if x = 0 then L_X10_commit_181 N M F h (nI t) (nI v0) (nI (i + 1)) else if y = 0 then L_X10_commit_181 N M F h (nI t) (nI v0) (nI (i + 1)) else (J_X10_danger N M h (nI i) (nI t)).bind (fun z => B_X10_commit_213 N M z.1 (nI t) (nI v0)) := by
      show B_X10_commit_181 N (L_X10_commit_181 N M F) M h (nI t) (nI v0) (nI i) = _
      unfold B_X10_commit_181
      rw [n.1]
      refine (if_neg (by exact fun z => by rw [ni_lt (by omega) (by omega)] at z; omega)).trans ?_
      refine (bnd (by exact e1)).trans ?_
      show B_X10_commit_195 N (L_X10_commit_181 N M F) M h (nI t) (nI v0) (nI i) x = _
      unfold B_X10_commit_195 B_X10_commit_233
      by_cases z : x = 0
      · rw [if_pos z, if_pos z, ni_inc]
      · rw [if_neg z, if_neg z]
        refine (bnd (by exact f1)).trans ?_
        show B_X10_commit_204 N (L_X10_commit_181 N M F) M h (nI t) (nI v0) (nI i) y = _
        unfold B_X10_commit_204 B_X10_commit_233
        rw [ni_inc]
    have skip : ¬ Wayq h M b l v i t → ∀ a', 1 ≤ a' → a' < i + 1 → ¬ Wayq h M b l v a' t := by
      intro z a' a1 a2
      by_cases e : a' = i
      · rw [e]; exact z
      · exact hs a' a1 (by omega)
    rcases e2 with ⟨y1, y2⟩ | ⟨y1, y2⟩
    · rcases f2 with ⟨z1, z2⟩ | ⟨z1, z2⟩
      · right
        left
        obtain ⟨hd, d1, d2⟩ := rf_danger q n N hN pos i ht
        have fd : RfO [] [1347, 1348, 1349, 1350] M h hd := by
          obtain ⟨o, x, _, _, e⟩ := d2
          rw [e]; exact rsnH.ro
        have e1' : hd.bi (M + 1) = h.bi (M + 1) := fd.bi (by decide)
        have e4' : hd.bi (M + 4) = h.bi (M + 4) := fd.bi (by decide)
        have qd := fd.rk q
        have nd := fd.rn n (by decide)
        have f3 : RfO [4] [1328] M hd ((hd.sgi 1328 M (nI v0)).sbi (M + 4) t 0) := (RfO.sgi (by decide) _).tr (RfO.sbi (k := 4) (by decide) _ _)
        have n3 : Rn ((hd.sgi 1328 M (nI v0)).sbi (M + 4) t 0) M b c w l v0 k r := by
          obtain ⟨n1, n2, n3, n4, n5, n6, n7, n8, n9, n10, n11, n12, n13, n14⟩ := nd
          exact ⟨(f3.gi (by decide)).trans n1, (f3.gi (by decide)).trans n2, (f3.gi (by decide)).trans n3, (f3.gi (by decide)).trans n4, by rw [pj_sbi_gi]; exact gi_same, (f3.gi (by decide)).trans n6, (f3.gi (by decide)).trans n7, n8, n9, n10, n11, hv0, n13, n14⟩
        obtain ⟨h', j1, j2⟩ := rf_ends (f3.rk qd) n3 N hN (t := t) ht 5 (fun u a1 a2 a3 a4 => by
          by_cases e : u = t
          · exact absurd (a3 e) (by decide)
          · have a4 := a4.resolve_left e
            rw [f3.bi (k := 1) (by decide), e1'] at a4
            rw [bi_at, if_neg e, pj_sgi_bi, e4']
            exact pos u a1 a2 a4)
        rw [f3.gi (by decide), fd.gi (by decide)] at j2
        refine ⟨i, hd, h', i1, by omega, ⟨y2, z2⟩, hs, d2, j2, ?_⟩
        show L_X10_commit_181 N M (F + 1) h (nI t) (nI v0) (nI i) = _
        rw [body, if_neg (by rw [y1]; decide), if_neg (by rw [z1]; decide)]
        refine (bnd (by exact d1)).trans ?_
        unfold B_X10_commit_213 B_X10_commit_231
        rw [pj_sgi_gr, dr_sgi, rd_1304 qd, pj_sgi_al, rx_1304 qd ht, ni_clp (by omega)]
        refine (bnd (by exact j1)).trans ?_
        rfl
      · left
        refine ⟨(), ⟨by omega, skip (fun u => z2 u.2)⟩, ?_⟩
        show L_X10_commit_181 N M (F + 1) h (nI t) (nI v0) (nI i) = _
        rw [body, if_neg (by rw [y1]; decide), if_pos z1]
    · left
      refine ⟨(), ⟨by omega, skip (fun u => y2 u.1)⟩, ?_⟩
      show L_X10_commit_181 N M (F + 1) h (nI t) (nI v0) (nI i) = _
      rw [body, if_pos y1]
end RF11
