/-! conflicts are the same -/
theorem tw_last {st key : Int32} : ∀ (n : Nat) (V : List Kv), V.length = n → Asc V → ∀ e, (takeW st (chn V key)).getLast? = some e → ∃ j : Nat, V[j]? = some (key, e) ∧ st < e.1 ∧ ∀ (j' : Nat) (x : Kv), j' < j → V[j']? = some x → x.1 = key → ¬ st < x.2.1 := by
  intro n
  induction n with
  | zero =>
    intro V hl _ e he
    rw [List.length_eq_zero_iff.mp hl] at he
    exact nomatch he
  | succ n ih =>
    intro V hl as e he
    obtain ⟨V0, x, eV⟩ : ∃ V0 x, V = V0 ++ [x] := by
      rcases List.eq_nil_or_concat V with z | ⟨V0, x, z⟩
      · rw [z] at hl; cases hl
      · exact ⟨V0, x, by rw [z, List.concat_eq_append]⟩
    have l0 : V0.length = n := by
      rw [eV, List.length_append, List.length_singleton] at hl
      omega
    have as0 : Asc V0 := by
      unfold Asc at as ⊢
      rw [eV] at as
      exact (List.pairwise_append.mp as).1
    have up : ∀ {j : Nat} {y : Kv}, V0[j]? = some y → V[j]? = some y := by
      intro j y hy
      have jl : j < V0.length := by
        rcases Nat.lt_or_ge j V0.length with q | q
        · exact q
        · rw [List.getElem?_eq_none q] at hy; cases hy
      rw [eV, List.getElem?_append_left jl]
      exact hy
    have dn : ∀ {j : Nat} {y : Kv}, j < n → V[j]? = some y → V0[j]? = some y := by
      intro j y hj hy
      rw [eV, List.getElem?_append_left (by omega)] at hy
      exact hy
    have lt0 : ∀ {j : Nat} {y : Kv}, V0[j]? = some y → j < n := by
      intro j y hy
      rcases Nat.lt_or_ge j V0.length with q | q
      · omega
      · rw [List.getElem?_eq_none q] at hy; cases hy
    have ex : x = (x.1, x.2) := rfl
    have ec : chn V key = if key = x.1 then x.2 :: chn V0 x.1 else chn V0 key := by
      rw [eV, ex, chn_add]
    have rest : (takeW st (chn V0 key)).getLast? = some e → ∃ j : Nat, V[j]? = some (key, e) ∧ st < e.1 ∧ ∀ (j' : Nat) (x : Kv), j' < j → V[j']? = some x → x.1 = key → ¬ st < x.2.1 := by
      intro he
      obtain ⟨j, j1, j2, j3⟩ := ih V0 l0 as0 e he
      exact ⟨j, up j1, j2, fun j' y h1 h2 h3 => j3 j' y h1 (dn (by have := lt0 j1; omega) h2) h3⟩
    by_cases zk : key = x.1
    · rw [if_pos zk] at ec
      rw [ec, takeW_c] at he
      by_cases zs : st < x.2.1
      · rw [if_pos zs] at he
        cases T : takeW st (chn V0 x.1) with
        | nil =>
          rw [T] at he
          have ee : x.2 = e := Option.some.inj he
          refine ⟨n, ?_, by rw [← ee]; exact zs, fun j' y h1 h2 h3 y4 => ?_⟩
          · rw [eV, List.getElem?_append_right (by omega), l0, Nat.sub_self, zk, ← ee]
            rfl
          · have m : y.2 ∈ takeW st (chn V0 x.1) := by
              rw [takeW_mem st _ (chn_asc as0 x.1), chn_mem]
              refine ⟨?_, y4⟩
              rw [← zk, ← h3, Prod.eta]
              exact List.mem_of_getElem? (dn h1 h2)
            rw [T] at m
            exact nomatch m
        | cons u T' =>
          rw [T] at he
          refine rest ?_
          rw [zk, T]
          exact he
      · rw [if_neg zs] at he
        exact nomatch he
    · rw [if_neg zk] at ec
      rw [ec] at he
      exact rest he
section CNF
variable {h : Hp} {M b c w l v k r clk : Nat} {V : List Kv}
theorem cf_eq {t n : Nat} {L : List Kv} {P : List Nat} {A B : Shf} {s : Int32 × Int32 × Int32} {rr : Option (Int32 × Ent)} (hw : w ≤ 512) (ow : OwnR h M w t L P n) (ve : Veq h M b w v V) (hsA : Srt A) (hnA : ∀ y ∈ A, y.2 ≠ []) (bkA : BkL A L) (bkB : BkL B V) (as : Asc V) (cf : CfR A B (h.bi (M + 3) t) rr) (cs : CfS h M w v t 0 s) : (rr = none ∧ s.1 = 0) ∨ ∃ y e, rr = some (y, e) ∧ s.1 = 1 ∧ y = s.2.1 ∧ e.2.1 = s.2.2 := by
  have inA : ∀ {key : Int32}, owns h M w t key → ∃ (i : Nat) (y : Int32 × List Ent), A[i]? = some y ∧ y.1 = key := by
    intro key o
    have ne : look A key ≠ [] := by rw [bkA]; exact (own_eq hw ow key).mp o
    obtain ⟨i, hi⟩ := look_some hsA ne
    exact ⟨i, _, hi, rfl⟩
  have ofA : ∀ {i : Nat} {y : Int32 × List Ent}, A[i]? = some y → owns h M w t y.1 := by
    intro i y hy
    refine (own_eq hw ow y.1).mpr ?_
    rw [← bkA, look_get hsA hy]
    exact hnA y (List.mem_of_getElem? hy)
  have vj : ∀ {j : Nat}, j < v → ∃ x, V[j]? = some x ∧ x.1 = h.bi (M + 19) j ∧ x.2.1 = vMo h M j ∧ x.2.2.1 = h.bi (M + 20) j := by
    intro j hj
    obtain ⟨x, hx⟩ : ∃ x, V[j]? = some x := ⟨_, List.getElem?_eq_getElem (by rw [ve.1]; exact hj)⟩
    obtain ⟨a1, a2, a3, _⟩ := ve.2.2 j x hx
    exact ⟨x, hx, a1, a2, a3⟩
  have full : ∀ {j : Nat}, j < v → cfC h M w t j → takeW (h.bi (M + 3) t) (look B (h.bi (M + 19) j)) ≠ [] := by
    intro j hj cj z
    obtain ⟨x, hx, x1, x2, _⟩ := vj hj
    have m : x.2 ∈ takeW (h.bi (M + 3) t) (look B (h.bi (M + 19) j)) := by
      rw [bkB, takeW_mem _ _ (chn_asc as _), chn_mem, ← x1, Prod.eta, x2]
      exact ⟨List.mem_of_getElem? hx, cj.1⟩
    rw [z] at m
    exact nomatch m
  rcases cf with ⟨r0, none_⟩ | ⟨kk, y, e, r1, ky, le, first⟩
  · left
    refine ⟨r0, ?_⟩
    rcases cs with ⟨z, _⟩ | ⟨_, j, _, j2, j3, _⟩
    · exact z
    · obtain ⟨i, y, y1, y2⟩ := inA j3.2
      have := none_ y (List.mem_of_getElem? y1)
      rw [y2] at this
      exact absurd this (full j2 j3)
  · right
    rw [bkB] at le
    obtain ⟨j, j1, j2, j3⟩ := tw_last V.length V rfl as e le
    have jv : j < v := by
      rw [← ve.1]
      rcases Nat.lt_or_ge j V.length with q | q
      · exact q
      · rw [List.getElem?_eq_none q] at j1; cases j1
    obtain ⟨x, hx, x1, x2, x3⟩ := vj jv
    rw [j1] at hx
    have hx : (y.1, e) = x := Option.some.inj hx
    rw [← hx] at x1 x2 x3
    have x1 : y.1 = h.bi (M + 19) j := x1
    have x2 : e.1 = vMo h M j := x2
    have x3 : e.2.1 = h.bi (M + 20) j := x3
    have cj : cfC h M w t j := ⟨by rw [← x2]; exact j2, by rw [← x1]; exact ofA ky⟩
    rcases cs with ⟨_, z⟩ | ⟨s1, j0, _, j02, j03, s2, s3, s4⟩
    · exact absurd cj (z j (Nat.zero_le _) jv)
    · obtain ⟨k1, k2⟩ := s4 j (Nat.zero_le _) jv cj
      obtain ⟨i0, y0, y01, y02⟩ := inA j03.2
      have ge : kk ≤ i0 := Nat.le_of_not_lt (fun z => by
        have := first i0 y0 z y01
        rw [y02] at this
        exact full j02 j03 this)
      have yle : y.1.toInt ≤ (h.bi (M + 19) j0).toInt := by
        rw [← y02]
        by_cases e0 : kk = i0
        · rw [e0, y01] at ky
          rw [Option.some.inj ky]
          exact Int.le_refl _
        · have := hsA kk i0 y y0 (by omega) ky y01
          rw [Int32.lt_iff_toInt_lt] at this
          omega
      rw [s2, ← x1, Int32.le_iff_toInt_le] at k1
      have ek : y.1 = h.bi (M + 19) j0 := Int32.toInt_inj.mp (by omega)
      have j0j : j0 ≤ j := k2 (by rw [← x1, s2]; exact ek)
      have jj0 : j = j0 := by
        rcases Nat.lt_or_ge j0 j with z | z
        · obtain ⟨x', hx', p1, p2, _⟩ := vj j02
          have := j3 j0 x' z hx' (by rw [p1]; exact ek.symm)
          rw [p2] at this
          exact absurd j03.1 this
        · omega
      refine ⟨y.1, e, r1, s1, by rw [s2]; exact ek, ?_⟩
      rw [x3, s3, jj0]
end CNF
