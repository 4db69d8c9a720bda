/-! commit, both sides -/
section CMT
variable {g' : Nat → Nat} {h hc h1 h2 h' hK : Hp} {M b c w l v k r clk y : Nat} {p : Nat → Nat} {G G' : Nat → Int32} {fv : Int64} {lr : Option Nat} {B : Shf} {V : List Kv} {ts : List Nat} {D D' : Nat → TD} {ac cm ot : List Nat} {ct rs : Nat → Int32} {d0 : AnD} {R : List (Int32 × Int64)} {cO c' : Nat}
theorem rfo_commit {t : Nat} {x : Int32} (cmm : ComM h M b c w l v t h2 x) : RfO [1, 4, 6, 7, 8, 19, 20, 21, 22, 35] [1312, 1328, 1347, 1348, 1349, 1350, 1353] M h h2 := by
  obtain ⟨s, _, z⟩ := cmm
  rcases z with ⟨_, _, jd⟩ | ⟨_, s2, m, s3, y, gk, vr, z⟩
  · exact (((rsnH.ro.mono (fun _ z => nomatch z) (by decide)).tr (RfO.sbi (k := 1) (by decide) _ _)).tr (RfO.sbi (k := 6) (by decide) _ _)).tr (jd.1.mono (by decide) (fun _ z => nomatch z))
  · have f3 : RfO [1, 4, 6, 7, 8, 19, 20, 21, 22, 35] [1312, 1328, 1347, 1348, 1349, 1350, 1353] M h s3 := ((cmt1.ro.mono (by decide) (fun _ z => nomatch z)).tr (gk.1.mono (by decide) (by decide))).tr (vr.1.mono (by decide) (by decide))
    rcases z with ⟨_, a, h1, _, _, _, _, dg, jd⟩ | ⟨_, _, s4, pr, jd⟩
    · obtain ⟨o, x, _, _, o3⟩ := dg
      have f4 : RfO [1, 4, 6, 7, 8, 19, 20, 21, 22, 35] [1312, 1328, 1347, 1348, 1349, 1350, 1353] M s3 h1 := by
        rw [o3]
        exact rsnH.ro.mono (fun _ z => nomatch z) (by decide)
      exact (f3.tr f4).tr (((((RfO.sgi (by decide) _).tr (RfO.sbi (k := 4) (by decide) _ _)).tr (RfO.sbi (k := 1) (by decide) _ _)).tr (RfO.sbi (k := 6) (by decide) _ _)).tr (jd.1.mono (by decide) (fun _ z => nomatch z)))
    · exact (f3.tr (pr.1.mono (by decide) (fun _ z => nomatch z))).tr ((RfO.sgi (by decide) _).tr (jd.1.mono (by decide) (fun _ z => nomatch z)))
theorem endD_2 {i : Nat} {s : Int32} {xs : List Nat} (no : i ∉ xs) (u : Nat) : (endD D i s xs u).2 = (D u).2 := by
  by_cases e : u = i
  · rw [e, endD_i no]
  · rw [endD_j e]
theorem cpl_commit (q : Cpl h M b c w l v k r clk G fv V ts D ac cm ct rs R) (hclk : clk < 100000) {i j s : Nat} {vv x : Int32} (hi : i < b) (ai : h.bi (M + 1) (i + 1) = 1) (hj : ac[j]? = some i) (nd : ac.Nodup) (hcl : c < 512) (hy : v + (tA (D i)).length ≤ 512) (hs : Srt (tA (D i))) (hn : ∀ y ∈ tA (D i), y.2 ≠ []) (bk : BkL (tA (D i)) (tL (D i))) (bkB : BkL B V) (as : Asc V) (es : (D i).1 1001 = nI s) (hsc : s ≤ cm.length) (cr : ComR g' hK p G fv lr B V ts D ac cm ot ct rs d0 R cO c' i j s vv) (cmm : ComM h M b c w l v (i + 1) h2 x) (hot : ∀ u ∈ ot, u < ts.length) : vv = x ∧ ∃ B' V' D' cm' ot' ct' rs' c2 v2, Kr g' hK p G fv lr B' V' ts D' (ac.eraseIdx j) cm' ot' ct' rs' d0 R c' ∧ Cpl h2 M b c2 w l v2 k r clk G fv V' ts D' (ac.eraseIdx j) cm' ct' rs' R ∧ (∀ u, (D' u).2 = (D u).2) ∧ ((cm' = cm ∧ V' = V ∧ B' = B) ∨ (cm' = cm ++ [i] ∧ ∃ mo o, V' = V ++ inst (tA (D i)) mo o)) ∧ ∀ u ∈ ot', u < ts.length := by
  have q' := q
  obtain ⟨q1, q2, q3, q4, q5, q6, q7, q8, q9, q10, q11, q12, q13, q14, q15, q16⟩ := q'
  have hw := q1.2.2.2.2.2.2.2.2.2.1
  have hb := q1.2.2.2.2.2.2.2.1
  have mo := fun x => mem_out (x := x) nd hj
  have no : i ∉ ac.eraseIdx j := fun z => ((mo i).mp z).2 rfl
  have ie : (D i).1 1001 = h.bi (M + 3) (i + 1) := (q4 i hi).2.1
  obtain ⟨sx, cs, z⟩ := cmm
  rcases cr with ⟨v1, y0, e0, cf, c1, kr⟩ | ⟨cf, ot', ga, zz⟩
  · rw [ie] at cf
    rcases cf_eq hw (q9 i hi) q11 hs hn bk bkB as cf cs with ⟨r1, _⟩ | ⟨y1, e1, r1, r2, r3, r4⟩
    · cases r1
    · have r1 := Option.some.inj r1
      have ry : y0 = y1 := congrArg Prod.fst r1
      have re : e0 = e1 := congrArg Prod.snd r1
      rcases z with ⟨_, x1, jd⟩ | ⟨s0, _⟩
      · refine ⟨v1.trans x1.symm, B, V, _, cm, ot, _, _, c, v, kr, ?_, endD_2 no, Or.inl ⟨rfl, rfl, rfl⟩, hot⟩
        have qr := cpl_rsn q 1 (nI (i + 1)) sx.2.2 sx.2.1
        rw [(q4 i hi).1, ry, re, r3, r4]
        refine cpl_end (s := 4) qr hi ?_ hj nd (Or.inr (Or.inl rfl)) ?_
        · rw [rsnH_bi]; exact ai
        · rw [show (rsnH h M 1 (nI (i + 1)) sx.2.2 sx.2.1).gi 1313 M = h.gi 1313 M from rsnH.ro2.gi (by decide)]
          exact jd
      · rw [r2] at s0
        exact absurd s0 (by decide)
  · rw [ie] at cf
    have s0 : sx.1 = 0 := by
      rcases cf_eq hw (q9 i hi) q11 hs hn bk bkB as cf cs with ⟨_, r1⟩ | ⟨_, _, r1, _⟩
      · exact r1
      · cases r1
    rcases z with ⟨z1, _⟩ | ⟨_, s2, m, s3, y, gk, vr, z⟩
    · rw [s0] at z1
      exact absurd z1 (by decide)
    · obtain ⟨ch, yl, vn⟩ := cmH_of hw (q9 i hi) hs hn bk gk vr
      have go := gar_eq q hi ai ch hs hn bk rfl es hsc ga
      have hot' : ∀ u ∈ ot', u < ts.length := fun u hu => by rw [q2]; exact ((go u).mp hu).1
      have way : ∀ x, x < b → (Wayq s3 M b l y (x + 1) (i + 1) ↔ x ∈ ot' ∧ mayNotF (D x).1 ((D i).1 1008)) := by
        intro x hx
        unfold Wayq
        rw [go]
        constructor
        · rintro ⟨p, m⟩
          have pp := (prec_cm q hi ai ch hx).mp p
          exact ⟨⟨hx, p⟩, (mayN_cm q hi ai ch hx pp.1 (pp.2.1.imp id (fun u => u.1))).mp m⟩
        · rintro ⟨⟨_, p⟩, m⟩
          have pp := (prec_cm q hi ai ch hx).mp p
          exact ⟨p, (mayN_cm q hi ai ch hx pp.1 (pp.2.1.imp id (fun u => u.1))).mpr m⟩
      rcases zz with ⟨v2, b0, fd, kr⟩ | ⟨v0, fd, B', kr⟩
      · rcases z with ⟨x2, a, h1, a1, a2, wy, fst, dg, jd⟩ | ⟨_, none_, _⟩
        · exact ⟨v2.trans x2.symm, B, V, _, cm, ot', _, _, c, v, kr, cpl_cdang q hi ai hj nd ch go fd a1 a2 wy fst dg jd, endD_2 no, Or.inl ⟨rfl, rfl, rfl⟩, hot'⟩
        · exfalso
          rcases fd with ⟨z, _⟩ | ⟨k0, e0, m0, n0, _⟩
          · cases z
          · have kb := ((go k0).mp m0).1
            exact none_ (k0 + 1) (by omega) (by omega) ((way k0 kb).mpr ⟨m0, n0⟩)
      · rcases z with ⟨_, a, h1, a1, a2, wy, _⟩ | ⟨x0, _, s4, pr, jd⟩
        · exfalso
          obtain ⟨a', rfl⟩ : ∃ a', a = a' + 1 := ⟨a - 1, by omega⟩
          have := (way a' (by omega)).mp wy
          rcases fd with ⟨_, z⟩ | ⟨k0, e0, _⟩
          · exact z a' this.1 this.2
          · cases e0
        · rw [q3] at kr
          refine ⟨v0.trans x0.symm, B', _, _, cm ++ [i], ot', _, rs, c + 1, y, kr, cpl_done q hclk hi ai hj nd hcl (by omega) ch hs hn bk yl vn go pr jd, fun u => ?_, Or.inr ⟨rfl, _, _, rfl⟩, hot'⟩
          · rw [endD_2 no]
            have np : ¬ prec s3 M l y (i + 1) (i + 1) := fun z => z.1 rfl
            have nit : i ∉ ot' := fun z => np ((go i).mp z).2
            have nr := nrD_at i ot' (va_up D i (va_up (D i).1 1007 (nI (c + 1)), (D i).2)) nit
            by_cases e : u = i
            · rw [e, nr.2, va_up_self]
              by_cases z : ot' = []
              · rw [if_pos z]
              · rw [if_neg z]
            · rw [nr.1 u e, va_up_ne _ _ e]
              by_cases z : u ∈ ot' ∧ (D u).1 1006 = 1
              · rw [if_pos z]
              · rw [if_neg z]
end CMT
