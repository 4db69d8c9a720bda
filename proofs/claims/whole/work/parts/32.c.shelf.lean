theorem Srt.set {L : List (Int32 × List Ent)} (hs : Srt L) {i : Nat} {k : Int32} {a b : List Ent} (hi : L[i]? = some (k, a)) : Srt (L.set i (k, b)) := by
  intro m n y z hmn hy hz
  have key : ∀ (j : Nat) (y : Int32 × List Ent), (L.set i (k, b))[j]? = some y → ∃ y', L[j]? = some y' ∧ y'.1 = y.1 := by
    intro j y hj
    rw [List.getElem?_set] at hj
    by_cases c : i = j
    · subst c
      rw [if_pos rfl] at hj
      by_cases c2 : i < L.length
      · rw [if_pos c2] at hj
        refine ⟨_, hi, ?_⟩
        rw [← Option.some.inj hj]
      · rw [if_neg c2] at hj
        cases hj
    · rw [if_neg c] at hj
      exact ⟨y, hj, rfl⟩
  obtain ⟨y', h1, h2⟩ := key m y hy
  obtain ⟨z', h3, h4⟩ := key n z hz
  rw [← h2, ← h4]
  exact hs m n _ _ hmn h1 h3
theorem look_mem {L : List (Int32 × List Ent)} (hs : Srt L) {k : Int32} {ch : List Ent} (hm : (k, ch) ∈ L) : look L k = ch := by
  obtain ⟨j, hj⟩ := List.getElem?_of_mem hm
  exact look_get' hs hj
theorem look_ext {L L' : List (Int32 × List Ent)} (hs : Srt L) (hs' : Srt L') {k : Int32} (hm : ∀ ch, (k, ch) ∈ L' ↔ (k, ch) ∈ L) : look L' k = look L k := by
  by_cases c : ∃ ch, (k, ch) ∈ L
  · obtain ⟨ch, h1⟩ := c
    rw [look_mem hs h1, look_mem hs' ((hm ch).mpr h1)]
  · rw [look_none (L := L) (fun i y hi e => c ⟨y.2, by rw [← e]; exact List.mem_of_getElem? hi⟩), look_none (L := L') (fun i y hi e => c ⟨y.2, by rw [← e]; exact (hm y.2 |> fun q => by rw [← e] at q; exact q.mp (List.mem_of_getElem? hi))⟩)]
theorem mem_iff_get {α : Type} {L : List α} {y : α} : y ∈ L ↔ ∃ i : Nat, L[i]? = some y := ⟨fun h => List.getElem?_of_mem h, fun ⟨_, h⟩ => List.mem_of_getElem? h⟩
theorem look_set {L : List (Int32 × List Ent)} (hs : Srt L) {i : Nat} {k : Int32} {a b : List Ent} (hi : L[i]? = some (k, a)) (k' : Int32) : look (L.set i (k, b)) k' = if k' = k then b else look L k' := by
  have hlt : i < L.length := (List.getElem?_eq_some_iff.mp hi).1
  by_cases c : k' = k
  · rw [if_pos c, c]
    exact look_get' (hs.set hi) (i := i) (by rw [List.getElem?_set, if_pos rfl, if_pos hlt])
  · rw [if_neg c]
    refine look_ext hs (hs.set hi) (fun ch => ?_)
    rw [mem_iff_get, mem_iff_get]
    constructor
    · intro ⟨j, hj⟩
      rw [List.getElem?_set] at hj
      by_cases c3 : i = j
      · rw [if_pos c3, if_pos hlt] at hj
        exact absurd (congrArg Prod.fst (Option.some.inj hj)).symm c
      · rw [if_neg c3] at hj
        exact ⟨j, hj⟩
    · intro ⟨j, hj⟩
      refine ⟨j, ?_⟩
      rw [List.getElem?_set]
      by_cases c3 : i = j
      · rw [c3, hj] at hi
        exact absurd (congrArg Prod.fst (Option.some.inj hi)) c
      · rw [if_neg c3, hj]
theorem Srt.ins {L : List (Int32 × List Ent)} (hs : Srt L) {i : Nat} {k : Int32} {b : List Ent} (hi : i ≤ L.length) (lo : ∀ (j : Nat) (y : Int32 × List Ent), j < i → L[j]? = some y → y.1 < k) (up : ∀ (j : Nat) (y : Int32 × List Ent), i ≤ j → L[j]? = some y → k < y.1) : Srt (L.insertIdx i (k, b)) := by
  intro m n y z hmn hy hz
  rw [List.getElem?_insertIdx] at hy hz
  by_cases a1 : m < i
  · rw [if_pos a1] at hy
    by_cases b1 : n < i
    · rw [if_pos b1] at hz
      exact hs m n _ _ hmn hy hz
    · rw [if_neg b1] at hz
      by_cases b2 : n = i
      · rw [if_pos b2, if_pos (by omega)] at hz
        rw [← Option.some.inj hz]
        exact lo m y a1 hy
      · rw [if_neg b2] at hz
        exact hs m (n - 1) _ _ (by omega) hy hz
  · rw [if_neg a1] at hy
    have b1 : ¬ n < i := by omega
    have b2 : ¬ n = i := by omega
    rw [if_neg b1, if_neg b2] at hz
    by_cases a2 : m = i
    · rw [if_pos a2, if_pos (by omega)] at hy
      rw [← Option.some.inj hy]
      exact up (n - 1) z (by omega) hz
    · rw [if_neg a2] at hy
      exact hs (m - 1) (n - 1) _ _ (by omega) hy hz
theorem look_ins {L : List (Int32 × List Ent)} (hs : Srt L) {i : Nat} {k : Int32} {b : List Ent} (hs' : Srt (L.insertIdx i (k, b))) (hi : i ≤ L.length) (k' : Int32) : look (L.insertIdx i (k, b)) k' = if k' = k then b else look L k' := by
  by_cases c : k' = k
  · rw [if_pos c, c]
    exact look_mem hs' ((List.mem_insertIdx hi).mpr (Or.inl rfl))
  · rw [if_neg c]
    refine look_ext hs hs' (fun ch => ?_)
    rw [List.mem_insertIdx hi]
    exact ⟨fun q => q.elim (fun q => absurd (congrArg Prod.fst q) c) id, Or.inr⟩
theorem Srt.era {L : List (Int32 × List Ent)} (hs : Srt L) (i : Nat) : Srt (L.eraseIdx i) := by
  intro m n y z hmn hy hz
  rw [List.getElem?_eraseIdx] at hy hz
  by_cases a1 : m < i
  · rw [if_pos a1] at hy
    by_cases b1 : n < i
    · rw [if_pos b1] at hz
      exact hs m n _ _ hmn hy hz
    · rw [if_neg b1] at hz
      exact hs m (n + 1) _ _ (by omega) hy hz
  · rw [if_neg a1] at hy
    rw [if_neg (by omega)] at hz
    exact hs (m + 1) (n + 1) _ _ (by omega) hy hz
theorem look_era {L : List (Int32 × List Ent)} (hs : Srt L) {i : Nat} {k : Int32} {a : List Ent} (hi : L[i]? = some (k, a)) (k' : Int32) : look (L.eraseIdx i) k' = if k' = k then [] else look L k' := by
  by_cases c : k' = k
  · rw [if_pos c, c]
    refine look_none (fun j y hj e => ?_)
    rw [List.getElem?_eraseIdx] at hj
    by_cases a1 : j < i
    · rw [if_pos a1] at hj
      have := hs j i _ _ a1 hj hi
      rw [e] at this
      exact Int32.lt_irrefl this
    · rw [if_neg a1] at hj
      have := hs i (j + 1) _ _ (by omega) hi hj
      rw [e] at this
      exact Int32.lt_irrefl this
  · rw [if_neg c]
    refine look_ext hs (hs.era i) (fun ch => ?_)
    rw [mem_iff_get, mem_iff_get]
    constructor
    · intro ⟨j, hj⟩
      rw [List.getElem?_eraseIdx] at hj
      by_cases a1 : j < i
      · rw [if_pos a1] at hj; exact ⟨j, hj⟩
      · rw [if_neg a1] at hj; exact ⟨j + 1, hj⟩
    · intro ⟨j, hj⟩
      by_cases a1 : j < i
      · exact ⟨j, by rw [List.getElem?_eraseIdx, if_pos a1]; exact hj⟩
      · by_cases a2 : j = i
        · rw [a2, hi] at hj
          exact absurd (congrArg Prod.fst (Option.some.inj hj)).symm c
        · exact ⟨j - 1, by rw [List.getElem?_eraseIdx, if_neg (by omega), show j - 1 + 1 = j by omega]; exact hj⟩
/-- a new entry on top -/
theorem en_new {g : Nat → Nat} {h : Hp} (w : Wf g h) (N : Nat) {L : List Ent} {x : Option Nat} (q : En g h L x) (e : Ent) (he : e.2.2.1 = 0 ∨ e.2.2.1 = 1) : ∃ h2, J_X4_init N h.nx (h.new 7 0 5) e.1 e.2.1 e.2.2.1 e.2.2.2 x = some (h2, ()) ∧ En (va_up g h.nx h.nx) h2 (e :: L) (some h.nx) ∧ Fr g (va_up g h.nx h.nx) h.nx h h2 ∧ h2.nx = h.nx + 1 ∧ h2.su = h.su + 5 := by
  have F1 := Fr.new w h.nx 7 0 5 h.nx (Nat.le_refl _)
  have r : va_up g h.nx h.nx h.nx = h.nx := va_up_self _ _ _
  have F2 := Fr.sfi F1.wf (Un.rf _ h.nx) 700 e.1
  have F3 := Fr.sfi F2.wf (Un.rf _ h.nx) 701 e.2.1
  have F4 := Fr.sfi F3.wf (Un.rf _ h.nx) 702 e.2.2.1
  have F5 := Fr.sfl F4.wf (Un.rf _ h.nx) 703 e.2.2.2
  have F6 := Fr.sfr F5.wf (Un.rf _ h.nx) 704 x
  have F : Fr g (va_up g h.nx h.nx) h.nx h (((((((h.new 7 0 5).sfi 700 h.nx e.1).sfi 701 h.nx e.2.1).sfi 702 h.nx e.2.2.1).sfl 703 h.nx e.2.2.2).sfr 704 h.nx x)) := ((((F1.tr w F2).tr w F3).tr w F4).tr w F5).tr w F6
  refine ⟨_, ?_, ?_, F, rfl, rfl⟩
  · unfold J_X4_init B_X4_init_0
    refine (ck_eq (by exact he)).trans ?_
    rfl
  · refine ⟨h.nx, rfl, r, ⟨new_kd (n := 0) (sl := 5), ?_, ?_, ?_, ?_, he⟩, ?_⟩
    · simp only [pj_sfi_nx, pj_sfi_su, pj_sfi_se, pj_sfi_kd, pj_sfi_fl, pj_sfi_fr, pj_sfi_al, pj_sfi_ai, pj_sfi_aw, pj_sfi_ar, pj_sfi_gi, pj_sfi_gl, pj_sfi_gr, pj_sfi_bi, pj_sfi_bw, pj_sfl_nx, pj_sfl_su, pj_sfl_se, pj_sfl_kd, pj_sfl_fi, pj_sfl_fr, pj_sfl_al, pj_sfl_ai, pj_sfl_aw, pj_sfl_ar, pj_sfl_gi, pj_sfl_gl, pj_sfl_gr, pj_sfl_bi, pj_sfl_bw, pj_sfr_nx, pj_sfr_su, pj_sfr_se, pj_sfr_kd, pj_sfr_fi, pj_sfr_fl, pj_sfr_al, pj_sfr_ai, pj_sfr_aw, pj_sfr_ar, pj_sfr_gi, pj_sfr_gl, pj_sfr_gr, pj_sfr_bi, pj_sfr_bw, pj_sgi_nx, pj_sgi_su, pj_sgi_se, pj_sgi_kd, pj_sgi_fi, pj_sgi_fl, pj_sgi_fr, pj_sgi_al, pj_sgi_ai, pj_sgi_aw, pj_sgi_ar, pj_sgi_gl, pj_sgi_gr, pj_sgi_bi, pj_sgi_bw, pj_sgl_nx, pj_sgl_su, pj_sgl_se, pj_sgl_kd, pj_sgl_fi, pj_sgl_fl, pj_sgl_fr, pj_sgl_al, pj_sgl_ai, pj_sgl_aw, pj_sgl_ar, pj_sgl_gi, pj_sgl_gr, pj_sgl_bi, pj_sgl_bw, pj_sgr_nx, pj_sgr_su, pj_sgr_se, pj_sgr_kd, pj_sgr_fi, pj_sgr_fl, pj_sgr_fr, pj_sgr_al, pj_sgr_ai, pj_sgr_aw, pj_sgr_ar, pj_sgr_gi, pj_sgr_gl, pj_sgr_bi, pj_sgr_bw, pj_sai_nx, pj_sai_su, pj_sai_se, pj_sai_kd, pj_sai_fi, pj_sai_fl, pj_sai_fr, pj_sai_al, pj_sai_aw, pj_sai_ar, pj_sai_gi, pj_sai_gl, pj_sai_gr, pj_sai_bi, pj_sai_bw, pj_saw_nx, pj_saw_su, pj_saw_se, pj_saw_kd, pj_saw_fi, pj_saw_fl, pj_saw_fr, pj_saw_al, pj_saw_ai, pj_saw_ar, pj_saw_gi, pj_saw_gl, pj_saw_gr, pj_saw_bi, pj_saw_bw, pj_sar_nx, pj_sar_su, pj_sar_se, pj_sar_kd, pj_sar_fi, pj_sar_fl, pj_sar_fr, pj_sar_al, pj_sar_ai, pj_sar_aw, pj_sar_gi, pj_sar_gl, pj_sar_gr, pj_sar_bi, pj_sar_bw, pj_sbi_nx, pj_sbi_su, pj_sbi_se, pj_sbi_kd, pj_sbi_fi, pj_sbi_fl, pj_sbi_fr, pj_sbi_al, pj_sbi_ai, pj_sbi_aw, pj_sbi_ar, pj_sbi_gi, pj_sbi_gl, pj_sbi_gr, pj_sbi_bw, pj_sbw_nx, pj_sbw_su, pj_sbw_se, pj_sbw_kd, pj_sbw_fi, pj_sbw_fl, pj_sbw_fr, pj_sbw_al, pj_sbw_ai, pj_sbw_aw, pj_sbw_ar, pj_sbw_gi, pj_sbw_gl, pj_sbw_gr, pj_sbw_bi, pj_tai_nx, pj_tai_su, pj_tai_se, pj_tai_kd, pj_tai_fi, pj_tai_fl, pj_tai_fr, pj_tai_al, pj_tai_aw, pj_tai_ar, pj_tai_gi, pj_tai_gl, pj_tai_gr, pj_tai_bi, pj_tai_bw, pj_tar_nx, pj_tar_su, pj_tar_se, pj_tar_kd, pj_tar_fi, pj_tar_fl, pj_tar_fr, pj_tar_al, pj_tar_ai, pj_tar_aw, pj_tar_gi, pj_tar_gl, pj_tar_gr, pj_tar_bi, pj_tar_bw, pj_new_nx, pj_new_su, pj_new_se, dr_sfi, ok_sfi, dr_sfl, ok_sfl, dr_sfr, ok_sfr, dr_sgi, ok_sgi, dr_sgl, ok_sgl, dr_sgr, ok_sgr, dr_sai, ok_sai, dr_saw, ok_saw, dr_sar, ok_sar, dr_sbi, ok_sbi, dr_sbw, ok_sbw, dr_tai, ok_tai, dr_tar, ok_tar]
      simp [pj_sfi_fi]
    · simp only [pj_sfi_nx, pj_sfi_su, pj_sfi_se, pj_sfi_kd, pj_sfi_fl, pj_sfi_fr, pj_sfi_al, pj_sfi_ai, pj_sfi_aw, pj_sfi_ar, pj_sfi_gi, pj_sfi_gl, pj_sfi_gr, pj_sfi_bi, pj_sfi_bw, pj_sfl_nx, pj_sfl_su, pj_sfl_se, pj_sfl_kd, pj_sfl_fi, pj_sfl_fr, pj_sfl_al, pj_sfl_ai, pj_sfl_aw, pj_sfl_ar, pj_sfl_gi, pj_sfl_gl, pj_sfl_gr, pj_sfl_bi, pj_sfl_bw, pj_sfr_nx, pj_sfr_su, pj_sfr_se, pj_sfr_kd, pj_sfr_fi, pj_sfr_fl, pj_sfr_al, pj_sfr_ai, pj_sfr_aw, pj_sfr_ar, pj_sfr_gi, pj_sfr_gl, pj_sfr_gr, pj_sfr_bi, pj_sfr_bw, pj_sgi_nx, pj_sgi_su, pj_sgi_se, pj_sgi_kd, pj_sgi_fi, pj_sgi_fl, pj_sgi_fr, pj_sgi_al, pj_sgi_ai, pj_sgi_aw, pj_sgi_ar, pj_sgi_gl, pj_sgi_gr, pj_sgi_bi, pj_sgi_bw, pj_sgl_nx, pj_sgl_su, pj_sgl_se, pj_sgl_kd, pj_sgl_fi, pj_sgl_fl, pj_sgl_fr, pj_sgl_al, pj_sgl_ai, pj_sgl_aw, pj_sgl_ar, pj_sgl_gi, pj_sgl_gr, pj_sgl_bi, pj_sgl_bw, pj_sgr_nx, pj_sgr_su, pj_sgr_se, pj_sgr_kd, pj_sgr_fi, pj_sgr_fl, pj_sgr_fr, pj_sgr_al, pj_sgr_ai, pj_sgr_aw, pj_sgr_ar, pj_sgr_gi, pj_sgr_gl, pj_sgr_bi, pj_sgr_bw, pj_sai_nx, pj_sai_su, pj_sai_se, pj_sai_kd, pj_sai_fi, pj_sai_fl, pj_sai_fr, pj_sai_al, pj_sai_aw, pj_sai_ar, pj_sai_gi, pj_sai_gl, pj_sai_gr, pj_sai_bi, pj_sai_bw, pj_saw_nx, pj_saw_su, pj_saw_se, pj_saw_kd, pj_saw_fi, pj_saw_fl, pj_saw_fr, pj_saw_al, pj_saw_ai, pj_saw_ar, pj_saw_gi, pj_saw_gl, pj_saw_gr, pj_saw_bi, pj_saw_bw, pj_sar_nx, pj_sar_su, pj_sar_se, pj_sar_kd, pj_sar_fi, pj_sar_fl, pj_sar_fr, pj_sar_al, pj_sar_ai, pj_sar_aw, pj_sar_gi, pj_sar_gl, pj_sar_gr, pj_sar_bi, pj_sar_bw, pj_sbi_nx, pj_sbi_su, pj_sbi_se, pj_sbi_kd, pj_sbi_fi, pj_sbi_fl, pj_sbi_fr, pj_sbi_al, pj_sbi_ai, pj_sbi_aw, pj_sbi_ar, pj_sbi_gi, pj_sbi_gl, pj_sbi_gr, pj_sbi_bw, pj_sbw_nx, pj_sbw_su, pj_sbw_se, pj_sbw_kd, pj_sbw_fi, pj_sbw_fl, pj_sbw_fr, pj_sbw_al, pj_sbw_ai, pj_sbw_aw, pj_sbw_ar, pj_sbw_gi, pj_sbw_gl, pj_sbw_gr, pj_sbw_bi, pj_tai_nx, pj_tai_su, pj_tai_se, pj_tai_kd, pj_tai_fi, pj_tai_fl, pj_tai_fr, pj_tai_al, pj_tai_aw, pj_tai_ar, pj_tai_gi, pj_tai_gl, pj_tai_gr, pj_tai_bi, pj_tai_bw, pj_tar_nx, pj_tar_su, pj_tar_se, pj_tar_kd, pj_tar_fi, pj_tar_fl, pj_tar_fr, pj_tar_al, pj_tar_ai, pj_tar_aw, pj_tar_gi, pj_tar_gl, pj_tar_gr, pj_tar_bi, pj_tar_bw, pj_new_nx, pj_new_su, pj_new_se, dr_sfi, ok_sfi, dr_sfl, ok_sfl, dr_sfr, ok_sfr, dr_sgi, ok_sgi, dr_sgl, ok_sgl, dr_sgr, ok_sgr, dr_sai, ok_sai, dr_saw, ok_saw, dr_sar, ok_sar, dr_sbi, ok_sbi, dr_sbw, ok_sbw, dr_tai, ok_tai, dr_tar, ok_tar]
      simp [pj_sfi_fi]
    · simp only [pj_sfi_nx, pj_sfi_su, pj_sfi_se, pj_sfi_kd, pj_sfi_fl, pj_sfi_fr, pj_sfi_al, pj_sfi_ai, pj_sfi_aw, pj_sfi_ar, pj_sfi_gi, pj_sfi_gl, pj_sfi_gr, pj_sfi_bi, pj_sfi_bw, pj_sfl_nx, pj_sfl_su, pj_sfl_se, pj_sfl_kd, pj_sfl_fi, pj_sfl_fr, pj_sfl_al, pj_sfl_ai, pj_sfl_aw, pj_sfl_ar, pj_sfl_gi, pj_sfl_gl, pj_sfl_gr, pj_sfl_bi, pj_sfl_bw, pj_sfr_nx, pj_sfr_su, pj_sfr_se, pj_sfr_kd, pj_sfr_fi, pj_sfr_fl, pj_sfr_al, pj_sfr_ai, pj_sfr_aw, pj_sfr_ar, pj_sfr_gi, pj_sfr_gl, pj_sfr_gr, pj_sfr_bi, pj_sfr_bw, pj_sgi_nx, pj_sgi_su, pj_sgi_se, pj_sgi_kd, pj_sgi_fi, pj_sgi_fl, pj_sgi_fr, pj_sgi_al, pj_sgi_ai, pj_sgi_aw, pj_sgi_ar, pj_sgi_gl, pj_sgi_gr, pj_sgi_bi, pj_sgi_bw, pj_sgl_nx, pj_sgl_su, pj_sgl_se, pj_sgl_kd, pj_sgl_fi, pj_sgl_fl, pj_sgl_fr, pj_sgl_al, pj_sgl_ai, pj_sgl_aw, pj_sgl_ar, pj_sgl_gi, pj_sgl_gr, pj_sgl_bi, pj_sgl_bw, pj_sgr_nx, pj_sgr_su, pj_sgr_se, pj_sgr_kd, pj_sgr_fi, pj_sgr_fl, pj_sgr_fr, pj_sgr_al, pj_sgr_ai, pj_sgr_aw, pj_sgr_ar, pj_sgr_gi, pj_sgr_gl, pj_sgr_bi, pj_sgr_bw, pj_sai_nx, pj_sai_su, pj_sai_se, pj_sai_kd, pj_sai_fi, pj_sai_fl, pj_sai_fr, pj_sai_al, pj_sai_aw, pj_sai_ar, pj_sai_gi, pj_sai_gl, pj_sai_gr, pj_sai_bi, pj_sai_bw, pj_saw_nx, pj_saw_su, pj_saw_se, pj_saw_kd, pj_saw_fi, pj_saw_fl, pj_saw_fr, pj_saw_al, pj_saw_ai, pj_saw_ar, pj_saw_gi, pj_saw_gl, pj_saw_gr, pj_saw_bi, pj_saw_bw, pj_sar_nx, pj_sar_su, pj_sar_se, pj_sar_kd, pj_sar_fi, pj_sar_fl, pj_sar_fr, pj_sar_al, pj_sar_ai, pj_sar_aw, pj_sar_gi, pj_sar_gl, pj_sar_gr, pj_sar_bi, pj_sar_bw, pj_sbi_nx, pj_sbi_su, pj_sbi_se, pj_sbi_kd, pj_sbi_fi, pj_sbi_fl, pj_sbi_fr, pj_sbi_al, pj_sbi_ai, pj_sbi_aw, pj_sbi_ar, pj_sbi_gi, pj_sbi_gl, pj_sbi_gr, pj_sbi_bw, pj_sbw_nx, pj_sbw_su, pj_sbw_se, pj_sbw_kd, pj_sbw_fi, pj_sbw_fl, pj_sbw_fr, pj_sbw_al, pj_sbw_ai, pj_sbw_aw, pj_sbw_ar, pj_sbw_gi, pj_sbw_gl, pj_sbw_gr, pj_sbw_bi, pj_tai_nx, pj_tai_su, pj_tai_se, pj_tai_kd, pj_tai_fi, pj_tai_fl, pj_tai_fr, pj_tai_al, pj_tai_aw, pj_tai_ar, pj_tai_gi, pj_tai_gl, pj_tai_gr, pj_tai_bi, pj_tai_bw, pj_tar_nx, pj_tar_su, pj_tar_se, pj_tar_kd, pj_tar_fi, pj_tar_fl, pj_tar_fr, pj_tar_al, pj_tar_ai, pj_tar_aw, pj_tar_gi, pj_tar_gl, pj_tar_gr, pj_tar_bi, pj_tar_bw, pj_new_nx, pj_new_su, pj_new_se, dr_sfi, ok_sfi, dr_sfl, ok_sfl, dr_sfr, ok_sfr, dr_sgi, ok_sgi, dr_sgl, ok_sgl, dr_sgr, ok_sgr, dr_sai, ok_sai, dr_saw, ok_saw, dr_sar, ok_sar, dr_sbi, ok_sbi, dr_sbw, ok_sbw, dr_tai, ok_tai, dr_tar, ok_tar]
      simp [pj_sfi_fi]
    · simp only [pj_sfi_nx, pj_sfi_su, pj_sfi_se, pj_sfi_kd, pj_sfi_fl, pj_sfi_fr, pj_sfi_al, pj_sfi_ai, pj_sfi_aw, pj_sfi_ar, pj_sfi_gi, pj_sfi_gl, pj_sfi_gr, pj_sfi_bi, pj_sfi_bw, pj_sfl_nx, pj_sfl_su, pj_sfl_se, pj_sfl_kd, pj_sfl_fi, pj_sfl_fr, pj_sfl_al, pj_sfl_ai, pj_sfl_aw, pj_sfl_ar, pj_sfl_gi, pj_sfl_gl, pj_sfl_gr, pj_sfl_bi, pj_sfl_bw, pj_sfr_nx, pj_sfr_su, pj_sfr_se, pj_sfr_kd, pj_sfr_fi, pj_sfr_fl, pj_sfr_al, pj_sfr_ai, pj_sfr_aw, pj_sfr_ar, pj_sfr_gi, pj_sfr_gl, pj_sfr_gr, pj_sfr_bi, pj_sfr_bw, pj_sgi_nx, pj_sgi_su, pj_sgi_se, pj_sgi_kd, pj_sgi_fi, pj_sgi_fl, pj_sgi_fr, pj_sgi_al, pj_sgi_ai, pj_sgi_aw, pj_sgi_ar, pj_sgi_gl, pj_sgi_gr, pj_sgi_bi, pj_sgi_bw, pj_sgl_nx, pj_sgl_su, pj_sgl_se, pj_sgl_kd, pj_sgl_fi, pj_sgl_fl, pj_sgl_fr, pj_sgl_al, pj_sgl_ai, pj_sgl_aw, pj_sgl_ar, pj_sgl_gi, pj_sgl_gr, pj_sgl_bi, pj_sgl_bw, pj_sgr_nx, pj_sgr_su, pj_sgr_se, pj_sgr_kd, pj_sgr_fi, pj_sgr_fl, pj_sgr_fr, pj_sgr_al, pj_sgr_ai, pj_sgr_aw, pj_sgr_ar, pj_sgr_gi, pj_sgr_gl, pj_sgr_bi, pj_sgr_bw, pj_sai_nx, pj_sai_su, pj_sai_se, pj_sai_kd, pj_sai_fi, pj_sai_fl, pj_sai_fr, pj_sai_al, pj_sai_aw, pj_sai_ar, pj_sai_gi, pj_sai_gl, pj_sai_gr, pj_sai_bi, pj_sai_bw, pj_saw_nx, pj_saw_su, pj_saw_se, pj_saw_kd, pj_saw_fi, pj_saw_fl, pj_saw_fr, pj_saw_al, pj_saw_ai, pj_saw_ar, pj_saw_gi, pj_saw_gl, pj_saw_gr, pj_saw_bi, pj_saw_bw, pj_sar_nx, pj_sar_su, pj_sar_se, pj_sar_kd, pj_sar_fi, pj_sar_fl, pj_sar_fr, pj_sar_al, pj_sar_ai, pj_sar_aw, pj_sar_gi, pj_sar_gl, pj_sar_gr, pj_sar_bi, pj_sar_bw, pj_sbi_nx, pj_sbi_su, pj_sbi_se, pj_sbi_kd, pj_sbi_fi, pj_sbi_fl, pj_sbi_fr, pj_sbi_al, pj_sbi_ai, pj_sbi_aw, pj_sbi_ar, pj_sbi_gi, pj_sbi_gl, pj_sbi_gr, pj_sbi_bw, pj_sbw_nx, pj_sbw_su, pj_sbw_se, pj_sbw_kd, pj_sbw_fi, pj_sbw_fl, pj_sbw_fr, pj_sbw_al, pj_sbw_ai, pj_sbw_aw, pj_sbw_ar, pj_sbw_gi, pj_sbw_gl, pj_sbw_gr, pj_sbw_bi, pj_tai_nx, pj_tai_su, pj_tai_se, pj_tai_kd, pj_tai_fi, pj_tai_fl, pj_tai_fr, pj_tai_al, pj_tai_aw, pj_tai_ar, pj_tai_gi, pj_tai_gl, pj_tai_gr, pj_tai_bi, pj_tai_bw, pj_tar_nx, pj_tar_su, pj_tar_se, pj_tar_kd, pj_tar_fi, pj_tar_fl, pj_tar_fr, pj_tar_al, pj_tar_ai, pj_tar_aw, pj_tar_gi, pj_tar_gl, pj_tar_gr, pj_tar_bi, pj_tar_bw, pj_new_nx, pj_new_su, pj_new_se, dr_sfi, ok_sfi, dr_sfl, ok_sfl, dr_sfr, ok_sfr, dr_sgi, ok_sgi, dr_sgl, ok_sgl, dr_sgr, ok_sgr, dr_sai, ok_sai, dr_saw, ok_saw, dr_sar, ok_sar, dr_sbi, ok_sbi, dr_sbw, ok_sbw, dr_tai, ok_tai, dr_tar, ok_tar]
      simp [pj_sfl_fl]
    · have e7 : (((((((h.new 7 0 5).sfi 700 h.nx e.1).sfi 701 h.nx e.2.1).sfi 702 h.nx e.2.2.1).sfl 703 h.nx e.2.2.2).sfr 704 h.nx x)).fr 704 h.nx = x := by
        rw [pj_sfr_fr, if_pos rfl, if_pos rfl]
      rw [e7]
      exact q.fr w F (kd_ge w (Nat.le_refl _) (by decide))
