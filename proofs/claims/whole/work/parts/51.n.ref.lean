/-! the reference is made -/
def RkP (M i su0 : Nat) (h : Hp) : Prop := h.kd M = 13 ∧ h.nx = M + 1 + i ∧ (∀ x ∈ rtab.take i, h.gr x.1 M = some (M + x.2.1) ∧ h.kd (M + x.2.1) = x.2.2.1 ∧ h.al (M + x.2.1) = x.2.2.2) ∧ (∀ f, h.gi f M = 0) ∧ (∀ f, h.gl f M = 0) ∧ (∀ j, 1 ≤ j → j ≤ i → h.bi (M + j) = (fun _ => 0) ∧ h.bw (M + j) = fun _ => 0) ∧ h.su = su0 + ((rtab.take i).map (fun x => x.2.2.2)).sum ∧ ∀ a, h.nx ≤ a → h.kd a = 0
theorem RkP.step {M i su0 : Nat} {h : Hp} (q : RkP M i su0 h) {f k n : Nat} (ex : rtab[i]? = some (f, i + 1, k, n)) (hne : ∀ y ∈ rtab.take i, y.1 ≠ f) (hle : ∀ y ∈ rtab.take i, y.2.1 ≤ i) : RkP M (i + 1) su0 ((h.new k n n).sgr f M (some (M + (i + 1)))) := by
  obtain ⟨q1, q2, q3, q4, q5, q6, q7, q8⟩ := q
  have et : rtab.take (i + 1) = rtab.take i ++ [(f, i + 1, k, n)] := by
    rw [List.take_succ, ex]
    rfl
  refine ⟨?_, ?_, ?_, ?_, ?_, ?_, ?_, ?_⟩
  · rw [pj_sgr_kd, pj_new_kd, if_neg (by omega)]; exact q1
  · rw [pj_sgr_nx, pj_new_nx, q2]; omega
  · intro x hx
    rw [et] at hx
    rw [pj_sgr_kd, pj_sgr_al, pj_sgr_gr, pj_new_kd, pj_new_al, pj_new_gr]
    rcases List.mem_append.mp hx with m | m
    · have := hle x m
      rw [if_neg (hne x m), if_neg (by omega), if_neg (by omega), if_neg (by omega)]
      exact q3 x m
    · rw [List.mem_singleton.mp m]
      show (if f = f then if M = M then some (M + (i + 1)) else _ else _) = some (M + (i + 1)) ∧ (if M + (i + 1) = h.nx then k else _) = k ∧ (if M + (i + 1) = h.nx then n else _) = n
      rw [if_pos rfl, if_pos rfl, if_pos (by omega), if_pos (by omega)]
      exact ⟨rfl, rfl, rfl⟩
  · intro g
    rw [pj_sgr_gi, pj_new_gi, if_neg (by omega)]; exact q4 g
  · intro g
    rw [pj_sgr_gl, pj_new_gl, if_neg (by omega)]; exact q5 g
  · intro j j1 j2
    rw [pj_sgr_bi, pj_sgr_bw, pj_new_bi, pj_new_bw]
    by_cases e : M + j = h.nx
    · rw [if_pos e, if_pos e]; exact ⟨rfl, rfl⟩
    · rw [if_neg e, if_neg e]
      exact q6 j j1 (by omega)
  · rw [pj_sgr_su, pj_new_su, q7, et, List.map_append, List.sum_append]
    show _ = su0 + (_ + (n + 0))
    omega
  · intro a ha
    rw [pj_sgr_nx, pj_new_nx] at ha
    rw [pj_sgr_kd, pj_new_kd, if_neg (by omega)]
    exact q8 a (by omega)
theorem ini_46 (N M su0 : Nat) (h : Hp) (q : RkP M 46 su0 (h.sgr 1366 M (some (M + 46)))) : ∃ h', B_X10_init_412 N M h (some M) (some (M + 46)) = some (h', ()) ∧ RkP M 46 su0 h' := by
  unfold B_X10_init_412
  have kd : h.kd M = 13 := q.1
  exact ⟨_, dr_e rfl kd, q⟩
theorem ini_45 (N M su0 : Nat) (h : Hp) (q : RkP M 45 su0 (h.sgr 1364 M (some (M + 45)))) : ∃ h', B_X10_init_403 N M h (some M) (some (M + 45)) = some (h', ()) ∧ RkP M 46 su0 h' := by
  unfold B_X10_init_403
  have kd : h.kd M = 13 := q.1
  have e : (h.sgr 1364 M (some (M + 45))).nx = M + 46 := q.2.1.trans (by omega)
  obtain ⟨h', e1, e2⟩ := ini_46 N M su0 _ (q.step (f := 1366) (k := 32) (n := 514) rfl (by decide) (by decide))
  refine ⟨h', (dr_e rfl kd).trans ((ck_eq (by decide)).trans ?_), e2⟩
  rw [e, show (514 : Int32).toNatClampNeg = 514 by decide]
  exact e1
theorem ini_44 (N M su0 : Nat) (h : Hp) (q : RkP M 44 su0 (h.sgr 1362 M (some (M + 44)))) : ∃ h', B_X10_init_395 N M h (some M) (some (M + 44)) = some (h', ()) ∧ RkP M 46 su0 h' := by
  unfold B_X10_init_395
  have kd : h.kd M = 13 := q.1
  have e : (h.sgr 1362 M (some (M + 44))).nx = M + 45 := q.2.1.trans (by omega)
  obtain ⟨h', e1, e2⟩ := ini_45 N M su0 _ (q.step (f := 1364) (k := 30) (n := 10) rfl (by decide) (by decide))
  refine ⟨h', (dr_e rfl kd).trans ((ck_eq (by decide)).trans ?_), e2⟩
  rw [e, show (10 : Int32).toNatClampNeg = 10 by decide]
  exact e1
theorem ini_43 (N M su0 : Nat) (h : Hp) (q : RkP M 43 su0 (h.sgr 1361 M (some (M + 43)))) : ∃ h', B_X10_init_386 N M h (some M) (some (M + 43)) = some (h', ()) ∧ RkP M 46 su0 h' := by
  unfold B_X10_init_386
  have kd : h.kd M = 13 := q.1
  have e : (h.sgr 1361 M (some (M + 43))).nx = M + 44 := q.2.1.trans (by omega)
  obtain ⟨h', e1, e2⟩ := ini_44 N M su0 _ (q.step (f := 1362) (k := 32) (n := 514) rfl (by decide) (by decide))
  refine ⟨h', (dr_e rfl kd).trans ((ck_eq (by decide)).trans ?_), e2⟩
  rw [e, show (514 : Int32).toNatClampNeg = 514 by decide]
  exact e1
theorem ini_42 (N M su0 : Nat) (h : Hp) (q : RkP M 42 su0 (h.sgr 1360 M (some (M + 42)))) : ∃ h', B_X10_init_377 N M h (some M) (some (M + 42)) = some (h', ()) ∧ RkP M 46 su0 h' := by
  unfold B_X10_init_377
  have kd : h.kd M = 13 := q.1
  have e : (h.sgr 1360 M (some (M + 42))).nx = M + 43 := q.2.1.trans (by omega)
  obtain ⟨h', e1, e2⟩ := ini_43 N M su0 _ (q.step (f := 1361) (k := 31) (n := 514) rfl (by decide) (by decide))
  refine ⟨h', (dr_e rfl kd).trans ((ck_eq (by decide)).trans ?_), e2⟩
  rw [e, show (514 : Int32).toNatClampNeg = 514 by decide]
  exact e1
theorem ini_41 (N M su0 : Nat) (h : Hp) (q : RkP M 41 su0 (h.sgr 1359 M (some (M + 41)))) : ∃ h', B_X10_init_368 N M h (some M) (some (M + 41)) = some (h', ()) ∧ RkP M 46 su0 h' := by
  unfold B_X10_init_368
  have kd : h.kd M = 13 := q.1
  have e : (h.sgr 1359 M (some (M + 41))).nx = M + 42 := q.2.1.trans (by omega)
  obtain ⟨h', e1, e2⟩ := ini_42 N M su0 _ (q.step (f := 1360) (k := 30) (n := 514) rfl (by decide) (by decide))
  refine ⟨h', (dr_e rfl kd).trans ((ck_eq (by decide)).trans ?_), e2⟩
  rw [e, show (514 : Int32).toNatClampNeg = 514 by decide]
  exact e1
theorem ini_40 (N M su0 : Nat) (h : Hp) (q : RkP M 40 su0 (h.sgr 1358 M (some (M + 40)))) : ∃ h', B_X10_init_359 N M h (some M) (some (M + 40)) = some (h', ()) ∧ RkP M 46 su0 h' := by
  unfold B_X10_init_359
  have kd : h.kd M = 13 := q.1
  have e : (h.sgr 1358 M (some (M + 40))).nx = M + 41 := q.2.1.trans (by omega)
  obtain ⟨h', e1, e2⟩ := ini_41 N M su0 _ (q.step (f := 1359) (k := 31) (n := 514) rfl (by decide) (by decide))
  refine ⟨h', (dr_e rfl kd).trans ((ck_eq (by decide)).trans ?_), e2⟩
  rw [e, show (514 : Int32).toNatClampNeg = 514 by decide]
  exact e1
theorem ini_39 (N M su0 : Nat) (h : Hp) (q : RkP M 39 su0 (h.sgr 1357 M (some (M + 39)))) : ∃ h', B_X10_init_350 N M h (some M) (some (M + 39)) = some (h', ()) ∧ RkP M 46 su0 h' := by
  unfold B_X10_init_350
  have kd : h.kd M = 13 := q.1
  have e : (h.sgr 1357 M (some (M + 39))).nx = M + 40 := q.2.1.trans (by omega)
  obtain ⟨h', e1, e2⟩ := ini_40 N M su0 _ (q.step (f := 1358) (k := 32) (n := 514) rfl (by decide) (by decide))
  refine ⟨h', (dr_e rfl kd).trans ((ck_eq (by decide)).trans ?_), e2⟩
  rw [e, show (514 : Int32).toNatClampNeg = 514 by decide]
  exact e1
theorem ini_38 (N M su0 : Nat) (h : Hp) (q : RkP M 38 su0 (h.sgr 1356 M (some (M + 38)))) : ∃ h', B_X10_init_341 N M h (some M) (some (M + 38)) = some (h', ()) ∧ RkP M 46 su0 h' := by
  unfold B_X10_init_341
  have kd : h.kd M = 13 := q.1
  have e : (h.sgr 1356 M (some (M + 38))).nx = M + 39 := q.2.1.trans (by omega)
  obtain ⟨h', e1, e2⟩ := ini_39 N M su0 _ (q.step (f := 1357) (k := 31) (n := 4626) rfl (by decide) (by decide))
  refine ⟨h', (dr_e rfl kd).trans ((ck_eq (by decide)).trans ?_), e2⟩
  rw [e, show (4626 : Int32).toNatClampNeg = 4626 by decide]
  exact e1
theorem ini_37 (N M su0 : Nat) (h : Hp) (q : RkP M 37 su0 (h.sgr 1355 M (some (M + 37)))) : ∃ h', B_X10_init_332 N M h (some M) (some (M + 37)) = some (h', ()) ∧ RkP M 46 su0 h' := by
  unfold B_X10_init_332
  have kd : h.kd M = 13 := q.1
  have e : (h.sgr 1355 M (some (M + 37))).nx = M + 38 := q.2.1.trans (by omega)
  obtain ⟨h', e1, e2⟩ := ini_38 N M su0 _ (q.step (f := 1356) (k := 31) (n := 4626) rfl (by decide) (by decide))
  refine ⟨h', (dr_e rfl kd).trans ((ck_eq (by decide)).trans ?_), e2⟩
  rw [e, show (4626 : Int32).toNatClampNeg = 4626 by decide]
  exact e1
theorem ini_36 (N M su0 : Nat) (h : Hp) (q : RkP M 36 su0 (h.sgr 1354 M (some (M + 36)))) : ∃ h', B_X10_init_323 N M h (some M) (some (M + 36)) = some (h', ()) ∧ RkP M 46 su0 h' := by
  unfold B_X10_init_323
  have kd : h.kd M = 13 := q.1
  have e : (h.sgr 1354 M (some (M + 36))).nx = M + 37 := q.2.1.trans (by omega)
  obtain ⟨h', e1, e2⟩ := ini_37 N M su0 _ (q.step (f := 1355) (k := 30) (n := 514) rfl (by decide) (by decide))
  refine ⟨h', (dr_e rfl kd).trans ((ck_eq (by decide)).trans ?_), e2⟩
  rw [e, show (514 : Int32).toNatClampNeg = 514 by decide]
  exact e1
theorem ini_35 (N M su0 : Nat) (h : Hp) (q : RkP M 35 su0 (h.sgr 1352 M (some (M + 35)))) : ∃ h', B_X10_init_314 N M h (some M) (some (M + 35)) = some (h', ()) ∧ RkP M 46 su0 h' := by
  unfold B_X10_init_314
  have kd : h.kd M = 13 := q.1
  have e : (h.sgr 1352 M (some (M + 35))).nx = M + 36 := q.2.1.trans (by omega)
  obtain ⟨h', e1, e2⟩ := ini_36 N M su0 _ (q.step (f := 1354) (k := 30) (n := 514) rfl (by decide) (by decide))
  refine ⟨h', (dr_e rfl kd).trans ((ck_eq (by decide)).trans ?_), e2⟩
  rw [e, show (514 : Int32).toNatClampNeg = 514 by decide]
  exact e1
theorem ini_34 (N M su0 : Nat) (h : Hp) (q : RkP M 34 su0 (h.sgr 1341 M (some (M + 34)))) : ∃ h', B_X10_init_305 N M h (some M) (some (M + 34)) = some (h', ()) ∧ RkP M 46 su0 h' := by
  unfold B_X10_init_305
  have kd : h.kd M = 13 := q.1
  have e : (h.sgr 1341 M (some (M + 34))).nx = M + 35 := q.2.1.trans (by omega)
  obtain ⟨h', e1, e2⟩ := ini_35 N M su0 _ (q.step (f := 1352) (k := 30) (n := 514) rfl (by decide) (by decide))
  refine ⟨h', (dr_e rfl kd).trans ((ck_eq (by decide)).trans ?_), e2⟩
  rw [e, show (514 : Int32).toNatClampNeg = 514 by decide]
  exact e1
theorem ini_33 (N M su0 : Nat) (h : Hp) (q : RkP M 33 su0 (h.sgr 1340 M (some (M + 33)))) : ∃ h', B_X10_init_297 N M h (some M) (some (M + 33)) = some (h', ()) ∧ RkP M 46 su0 h' := by
  unfold B_X10_init_297
  have kd : h.kd M = 13 := q.1
  have e : (h.sgr 1340 M (some (M + 33))).nx = M + 34 := q.2.1.trans (by omega)
  obtain ⟨h', e1, e2⟩ := ini_34 N M su0 _ (q.step (f := 1341) (k := 31) (n := 42000) rfl (by decide) (by decide))
  refine ⟨h', (dr_e rfl kd).trans ((ck_eq (by decide)).trans ?_), e2⟩
  rw [e, show (42000 : Int32).toNatClampNeg = 42000 by decide]
  exact e1
theorem ini_32 (N M su0 : Nat) (h : Hp) (q : RkP M 32 su0 (h.sgr 1338 M (some (M + 32)))) : ∃ h', B_X10_init_289 N M h (some M) (some (M + 32)) = some (h', ()) ∧ RkP M 46 su0 h' := by
  unfold B_X10_init_289
  have kd : h.kd M = 13 := q.1
  have e : (h.sgr 1338 M (some (M + 32))).nx = M + 33 := q.2.1.trans (by omega)
  obtain ⟨h', e1, e2⟩ := ini_33 N M su0 _ (q.step (f := 1340) (k := 30) (n := 42000) rfl (by decide) (by decide))
  refine ⟨h', (dr_e rfl kd).trans ((ck_eq (by decide)).trans ?_), e2⟩
  rw [e, show (42000 : Int32).toNatClampNeg = 42000 by decide]
  exact e1
theorem ini_31 (N M su0 : Nat) (h : Hp) (q : RkP M 31 su0 (h.sgr 1337 M (some (M + 31)))) : ∃ h', B_X10_init_280 N M h (some M) (some (M + 31)) = some (h', ()) ∧ RkP M 46 su0 h' := by
  unfold B_X10_init_280
  have kd : h.kd M = 13 := q.1
  have e : (h.sgr 1337 M (some (M + 31))).nx = M + 32 := q.2.1.trans (by omega)
  obtain ⟨h', e1, e2⟩ := ini_32 N M su0 _ (q.step (f := 1338) (k := 30) (n := 514) rfl (by decide) (by decide))
  refine ⟨h', (dr_e rfl kd).trans ((ck_eq (by decide)).trans ?_), e2⟩
  rw [e, show (514 : Int32).toNatClampNeg = 514 by decide]
  exact e1
theorem ini_30 (N M su0 : Nat) (h : Hp) (q : RkP M 30 su0 (h.sgr 1336 M (some (M + 30)))) : ∃ h', B_X10_init_271 N M h (some M) (some (M + 30)) = some (h', ()) ∧ RkP M 46 su0 h' := by
  unfold B_X10_init_271
  have kd : h.kd M = 13 := q.1
  have e : (h.sgr 1336 M (some (M + 30))).nx = M + 31 := q.2.1.trans (by omega)
  obtain ⟨h', e1, e2⟩ := ini_31 N M su0 _ (q.step (f := 1337) (k := 31) (n := 514) rfl (by decide) (by decide))
  refine ⟨h', (dr_e rfl kd).trans ((ck_eq (by decide)).trans ?_), e2⟩
  rw [e, show (514 : Int32).toNatClampNeg = 514 by decide]
  exact e1
theorem ini_29 (N M su0 : Nat) (h : Hp) (q : RkP M 29 su0 (h.sgr 1335 M (some (M + 29)))) : ∃ h', B_X10_init_262 N M h (some M) (some (M + 29)) = some (h', ()) ∧ RkP M 46 su0 h' := by
  unfold B_X10_init_262
  have kd : h.kd M = 13 := q.1
  have e : (h.sgr 1335 M (some (M + 29))).nx = M + 30 := q.2.1.trans (by omega)
  obtain ⟨h', e1, e2⟩ := ini_30 N M su0 _ (q.step (f := 1336) (k := 30) (n := 514) rfl (by decide) (by decide))
  refine ⟨h', (dr_e rfl kd).trans ((ck_eq (by decide)).trans ?_), e2⟩
  rw [e, show (514 : Int32).toNatClampNeg = 514 by decide]
  exact e1
theorem ini_28 (N M su0 : Nat) (h : Hp) (q : RkP M 28 su0 (h.sgr 1334 M (some (M + 28)))) : ∃ h', B_X10_init_253 N M h (some M) (some (M + 28)) = some (h', ()) ∧ RkP M 46 su0 h' := by
  unfold B_X10_init_253
  have kd : h.kd M = 13 := q.1
  have e : (h.sgr 1334 M (some (M + 28))).nx = M + 29 := q.2.1.trans (by omega)
  obtain ⟨h', e1, e2⟩ := ini_29 N M su0 _ (q.step (f := 1335) (k := 30) (n := 514) rfl (by decide) (by decide))
  refine ⟨h', (dr_e rfl kd).trans ((ck_eq (by decide)).trans ?_), e2⟩
  rw [e, show (514 : Int32).toNatClampNeg = 514 by decide]
  exact e1
theorem ini_27 (N M su0 : Nat) (h : Hp) (q : RkP M 27 su0 (h.sgr 1333 M (some (M + 27)))) : ∃ h', B_X10_init_244 N M h (some M) (some (M + 27)) = some (h', ()) ∧ RkP M 46 su0 h' := by
  unfold B_X10_init_244
  have kd : h.kd M = 13 := q.1
  have e : (h.sgr 1333 M (some (M + 27))).nx = M + 28 := q.2.1.trans (by omega)
  obtain ⟨h', e1, e2⟩ := ini_28 N M su0 _ (q.step (f := 1334) (k := 31) (n := 514) rfl (by decide) (by decide))
  refine ⟨h', (dr_e rfl kd).trans ((ck_eq (by decide)).trans ?_), e2⟩
  rw [e, show (514 : Int32).toNatClampNeg = 514 by decide]
  exact e1
theorem ini_26 (N M su0 : Nat) (h : Hp) (q : RkP M 26 su0 (h.sgr 1332 M (some (M + 26)))) : ∃ h', B_X10_init_235 N M h (some M) (some (M + 26)) = some (h', ()) ∧ RkP M 46 su0 h' := by
  unfold B_X10_init_235
  have kd : h.kd M = 13 := q.1
  have e : (h.sgr 1332 M (some (M + 26))).nx = M + 27 := q.2.1.trans (by omega)
  obtain ⟨h', e1, e2⟩ := ini_27 N M su0 _ (q.step (f := 1333) (k := 30) (n := 514) rfl (by decide) (by decide))
  refine ⟨h', (dr_e rfl kd).trans ((ck_eq (by decide)).trans ?_), e2⟩
  rw [e, show (514 : Int32).toNatClampNeg = 514 by decide]
  exact e1
theorem ini_25 (N M su0 : Nat) (h : Hp) (q : RkP M 25 su0 (h.sgr 1331 M (some (M + 25)))) : ∃ h', B_X10_init_226 N M h (some M) (some (M + 25)) = some (h', ()) ∧ RkP M 46 su0 h' := by
  unfold B_X10_init_226
  have kd : h.kd M = 13 := q.1
  have e : (h.sgr 1331 M (some (M + 25))).nx = M + 26 := q.2.1.trans (by omega)
  obtain ⟨h', e1, e2⟩ := ini_26 N M su0 _ (q.step (f := 1332) (k := 30) (n := 514) rfl (by decide) (by decide))
  refine ⟨h', (dr_e rfl kd).trans ((ck_eq (by decide)).trans ?_), e2⟩
  rw [e, show (514 : Int32).toNatClampNeg = 514 by decide]
  exact e1
theorem ini_24 (N M su0 : Nat) (h : Hp) (q : RkP M 24 su0 (h.sgr 1330 M (some (M + 24)))) : ∃ h', B_X10_init_217 N M h (some M) (some (M + 24)) = some (h', ()) ∧ RkP M 46 su0 h' := by
  unfold B_X10_init_217
  have kd : h.kd M = 13 := q.1
  have e : (h.sgr 1330 M (some (M + 24))).nx = M + 25 := q.2.1.trans (by omega)
  obtain ⟨h', e1, e2⟩ := ini_25 N M su0 _ (q.step (f := 1331) (k := 30) (n := 514) rfl (by decide) (by decide))
  refine ⟨h', (dr_e rfl kd).trans ((ck_eq (by decide)).trans ?_), e2⟩
  rw [e, show (514 : Int32).toNatClampNeg = 514 by decide]
  exact e1
theorem ini_23 (N M su0 : Nat) (h : Hp) (q : RkP M 23 su0 (h.sgr 1329 M (some (M + 23)))) : ∃ h', B_X10_init_208 N M h (some M) (some (M + 23)) = some (h', ()) ∧ RkP M 46 su0 h' := by
  unfold B_X10_init_208
  have kd : h.kd M = 13 := q.1
  have e : (h.sgr 1329 M (some (M + 23))).nx = M + 24 := q.2.1.trans (by omega)
  obtain ⟨h', e1, e2⟩ := ini_24 N M su0 _ (q.step (f := 1330) (k := 30) (n := 514) rfl (by decide) (by decide))
  refine ⟨h', (dr_e rfl kd).trans ((ck_eq (by decide)).trans ?_), e2⟩
  rw [e, show (514 : Int32).toNatClampNeg = 514 by decide]
  exact e1
theorem ini_22 (N M su0 : Nat) (h : Hp) (q : RkP M 22 su0 (h.sgr 1327 M (some (M + 22)))) : ∃ h', B_X10_init_199 N M h (some M) (some (M + 22)) = some (h', ()) ∧ RkP M 46 su0 h' := by
  unfold B_X10_init_199
  have kd : h.kd M = 13 := q.1
  have e : (h.sgr 1327 M (some (M + 22))).nx = M + 23 := q.2.1.trans (by omega)
  obtain ⟨h', e1, e2⟩ := ini_23 N M su0 _ (q.step (f := 1329) (k := 30) (n := 514) rfl (by decide) (by decide))
  refine ⟨h', (dr_e rfl kd).trans ((ck_eq (by decide)).trans ?_), e2⟩
  rw [e, show (514 : Int32).toNatClampNeg = 514 by decide]
  exact e1
theorem ini_21 (N M su0 : Nat) (h : Hp) (q : RkP M 21 su0 (h.sgr 1326 M (some (M + 21)))) : ∃ h', B_X10_init_190 N M h (some M) (some (M + 21)) = some (h', ()) ∧ RkP M 46 su0 h' := by
  unfold B_X10_init_190
  have kd : h.kd M = 13 := q.1
  have e : (h.sgr 1326 M (some (M + 21))).nx = M + 22 := q.2.1.trans (by omega)
  obtain ⟨h', e1, e2⟩ := ini_22 N M su0 _ (q.step (f := 1327) (k := 32) (n := 514) rfl (by decide) (by decide))
  refine ⟨h', (dr_e rfl kd).trans ((ck_eq (by decide)).trans ?_), e2⟩
  rw [e, show (514 : Int32).toNatClampNeg = 514 by decide]
  exact e1
theorem ini_20 (N M su0 : Nat) (h : Hp) (q : RkP M 20 su0 (h.sgr 1325 M (some (M + 20)))) : ∃ h', B_X10_init_181 N M h (some M) (some (M + 20)) = some (h', ()) ∧ RkP M 46 su0 h' := by
  unfold B_X10_init_181
  have kd : h.kd M = 13 := q.1
  have e : (h.sgr 1325 M (some (M + 20))).nx = M + 21 := q.2.1.trans (by omega)
  obtain ⟨h', e1, e2⟩ := ini_21 N M su0 _ (q.step (f := 1326) (k := 31) (n := 514) rfl (by decide) (by decide))
  refine ⟨h', (dr_e rfl kd).trans ((ck_eq (by decide)).trans ?_), e2⟩
  rw [e, show (514 : Int32).toNatClampNeg = 514 by decide]
  exact e1
theorem ini_19 (N M su0 : Nat) (h : Hp) (q : RkP M 19 su0 (h.sgr 1324 M (some (M + 19)))) : ∃ h', B_X10_init_172 N M h (some M) (some (M + 19)) = some (h', ()) ∧ RkP M 46 su0 h' := by
  unfold B_X10_init_172
  have kd : h.kd M = 13 := q.1
  have e : (h.sgr 1324 M (some (M + 19))).nx = M + 20 := q.2.1.trans (by omega)
  obtain ⟨h', e1, e2⟩ := ini_20 N M su0 _ (q.step (f := 1325) (k := 30) (n := 514) rfl (by decide) (by decide))
  refine ⟨h', (dr_e rfl kd).trans ((ck_eq (by decide)).trans ?_), e2⟩
  rw [e, show (514 : Int32).toNatClampNeg = 514 by decide]
  exact e1
theorem ini_18 (N M su0 : Nat) (h : Hp) (q : RkP M 18 su0 (h.sgr 1322 M (some (M + 18)))) : ∃ h', B_X10_init_163 N M h (some M) (some (M + 18)) = some (h', ()) ∧ RkP M 46 su0 h' := by
  unfold B_X10_init_163
  have kd : h.kd M = 13 := q.1
  have e : (h.sgr 1322 M (some (M + 18))).nx = M + 19 := q.2.1.trans (by omega)
  obtain ⟨h', e1, e2⟩ := ini_19 N M su0 _ (q.step (f := 1324) (k := 30) (n := 514) rfl (by decide) (by decide))
  refine ⟨h', (dr_e rfl kd).trans ((ck_eq (by decide)).trans ?_), e2⟩
  rw [e, show (514 : Int32).toNatClampNeg = 514 by decide]
  exact e1
theorem ini_17 (N M su0 : Nat) (h : Hp) (q : RkP M 17 su0 (h.sgr 1321 M (some (M + 17)))) : ∃ h', B_X10_init_154 N M h (some M) (some (M + 17)) = some (h', ()) ∧ RkP M 46 su0 h' := by
  unfold B_X10_init_154
  have kd : h.kd M = 13 := q.1
  have e : (h.sgr 1321 M (some (M + 17))).nx = M + 18 := q.2.1.trans (by omega)
  obtain ⟨h', e1, e2⟩ := ini_18 N M su0 _ (q.step (f := 1322) (k := 30) (n := 514) rfl (by decide) (by decide))
  refine ⟨h', (dr_e rfl kd).trans ((ck_eq (by decide)).trans ?_), e2⟩
  rw [e, show (514 : Int32).toNatClampNeg = 514 by decide]
  exact e1
theorem ini_16 (N M su0 : Nat) (h : Hp) (q : RkP M 16 su0 (h.sgr 1320 M (some (M + 16)))) : ∃ h', B_X10_init_145 N M h (some M) (some (M + 16)) = some (h', ()) ∧ RkP M 46 su0 h' := by
  unfold B_X10_init_145
  have kd : h.kd M = 13 := q.1
  have e : (h.sgr 1320 M (some (M + 16))).nx = M + 17 := q.2.1.trans (by omega)
  obtain ⟨h', e1, e2⟩ := ini_17 N M su0 _ (q.step (f := 1321) (k := 30) (n := 514) rfl (by decide) (by decide))
  refine ⟨h', (dr_e rfl kd).trans ((ck_eq (by decide)).trans ?_), e2⟩
  rw [e, show (514 : Int32).toNatClampNeg = 514 by decide]
  exact e1
theorem ini_15 (N M su0 : Nat) (h : Hp) (q : RkP M 15 su0 (h.sgr 1318 M (some (M + 15)))) : ∃ h', B_X10_init_136 N M h (some M) (some (M + 15)) = some (h', ()) ∧ RkP M 46 su0 h' := by
  unfold B_X10_init_136
  have kd : h.kd M = 13 := q.1
  have e : (h.sgr 1318 M (some (M + 15))).nx = M + 16 := q.2.1.trans (by omega)
  obtain ⟨h', e1, e2⟩ := ini_16 N M su0 _ (q.step (f := 1320) (k := 30) (n := 514) rfl (by decide) (by decide))
  refine ⟨h', (dr_e rfl kd).trans ((ck_eq (by decide)).trans ?_), e2⟩
  rw [e, show (514 : Int32).toNatClampNeg = 514 by decide]
  exact e1
theorem ini_14 (N M su0 : Nat) (h : Hp) (q : RkP M 14 su0 (h.sgr 1317 M (some (M + 14)))) : ∃ h', B_X10_init_127 N M h (some M) (some (M + 14)) = some (h', ()) ∧ RkP M 46 su0 h' := by
  unfold B_X10_init_127
  have kd : h.kd M = 13 := q.1
  have e : (h.sgr 1317 M (some (M + 14))).nx = M + 15 := q.2.1.trans (by omega)
  obtain ⟨h', e1, e2⟩ := ini_15 N M su0 _ (q.step (f := 1318) (k := 32) (n := 514) rfl (by decide) (by decide))
  refine ⟨h', (dr_e rfl kd).trans ((ck_eq (by decide)).trans ?_), e2⟩
  rw [e, show (514 : Int32).toNatClampNeg = 514 by decide]
  exact e1
theorem ini_13 (N M su0 : Nat) (h : Hp) (q : RkP M 13 su0 (h.sgr 1316 M (some (M + 13)))) : ∃ h', B_X10_init_118 N M h (some M) (some (M + 13)) = some (h', ()) ∧ RkP M 46 su0 h' := by
  unfold B_X10_init_118
  have kd : h.kd M = 13 := q.1
  have e : (h.sgr 1316 M (some (M + 13))).nx = M + 14 := q.2.1.trans (by omega)
  obtain ⟨h', e1, e2⟩ := ini_14 N M su0 _ (q.step (f := 1317) (k := 32) (n := 514) rfl (by decide) (by decide))
  refine ⟨h', (dr_e rfl kd).trans ((ck_eq (by decide)).trans ?_), e2⟩
  rw [e, show (514 : Int32).toNatClampNeg = 514 by decide]
  exact e1
theorem ini_12 (N M su0 : Nat) (h : Hp) (q : RkP M 12 su0 (h.sgr 1315 M (some (M + 12)))) : ∃ h', B_X10_init_109 N M h (some M) (some (M + 12)) = some (h', ()) ∧ RkP M 46 su0 h' := by
  unfold B_X10_init_109
  have kd : h.kd M = 13 := q.1
  have e : (h.sgr 1315 M (some (M + 12))).nx = M + 13 := q.2.1.trans (by omega)
  obtain ⟨h', e1, e2⟩ := ini_13 N M su0 _ (q.step (f := 1316) (k := 31) (n := 514) rfl (by decide) (by decide))
  refine ⟨h', (dr_e rfl kd).trans ((ck_eq (by decide)).trans ?_), e2⟩
  rw [e, show (514 : Int32).toNatClampNeg = 514 by decide]
  exact e1
theorem ini_11 (N M su0 : Nat) (h : Hp) (q : RkP M 11 su0 (h.sgr 1314 M (some (M + 11)))) : ∃ h', B_X10_init_100 N M h (some M) (some (M + 11)) = some (h', ()) ∧ RkP M 46 su0 h' := by
  unfold B_X10_init_100
  have kd : h.kd M = 13 := q.1
  have e : (h.sgr 1314 M (some (M + 11))).nx = M + 12 := q.2.1.trans (by omega)
  obtain ⟨h', e1, e2⟩ := ini_12 N M su0 _ (q.step (f := 1315) (k := 30) (n := 514) rfl (by decide) (by decide))
  refine ⟨h', (dr_e rfl kd).trans ((ck_eq (by decide)).trans ?_), e2⟩
  rw [e, show (514 : Int32).toNatClampNeg = 514 by decide]
  exact e1
theorem ini_10 (N M su0 : Nat) (h : Hp) (q : RkP M 10 su0 (h.sgr 1310 M (some (M + 10)))) : ∃ h', B_X10_init_91 N M h (some M) (some (M + 10)) = some (h', ()) ∧ RkP M 46 su0 h' := by
  unfold B_X10_init_91
  have kd : h.kd M = 13 := q.1
  have e : (h.sgr 1310 M (some (M + 10))).nx = M + 11 := q.2.1.trans (by omega)
  obtain ⟨h', e1, e2⟩ := ini_11 N M su0 _ (q.step (f := 1314) (k := 30) (n := 514) rfl (by decide) (by decide))
  refine ⟨h', (dr_e rfl kd).trans ((ck_eq (by decide)).trans ?_), e2⟩
  rw [e, show (514 : Int32).toNatClampNeg = 514 by decide]
  exact e1
theorem ini_9 (N M su0 : Nat) (h : Hp) (q : RkP M 9 su0 (h.sgr 1309 M (some (M + 9)))) : ∃ h', B_X10_init_82 N M h (some M) (some (M + 9)) = some (h', ()) ∧ RkP M 46 su0 h' := by
  unfold B_X10_init_82
  have kd : h.kd M = 13 := q.1
  have e : (h.sgr 1309 M (some (M + 9))).nx = M + 10 := q.2.1.trans (by omega)
  obtain ⟨h', e1, e2⟩ := ini_10 N M su0 _ (q.step (f := 1310) (k := 30) (n := 5140) rfl (by decide) (by decide))
  refine ⟨h', (dr_e rfl kd).trans ((ck_eq (by decide)).trans ?_), e2⟩
  rw [e, show (5140 : Int32).toNatClampNeg = 5140 by decide]
  exact e1
theorem ini_8 (N M su0 : Nat) (h : Hp) (q : RkP M 8 su0 (h.sgr 1308 M (some (M + 8)))) : ∃ h', B_X10_init_73 N M h (some M) (some (M + 8)) = some (h', ()) ∧ RkP M 46 su0 h' := by
  unfold B_X10_init_73
  have kd : h.kd M = 13 := q.1
  have e : (h.sgr 1308 M (some (M + 8))).nx = M + 9 := q.2.1.trans (by omega)
  obtain ⟨h', e1, e2⟩ := ini_9 N M su0 _ (q.step (f := 1309) (k := 30) (n := 514) rfl (by decide) (by decide))
  refine ⟨h', (dr_e rfl kd).trans ((ck_eq (by decide)).trans ?_), e2⟩
  rw [e, show (514 : Int32).toNatClampNeg = 514 by decide]
  exact e1
theorem ini_7 (N M su0 : Nat) (h : Hp) (q : RkP M 7 su0 (h.sgr 1307 M (some (M + 7)))) : ∃ h', B_X10_init_64 N M h (some M) (some (M + 7)) = some (h', ()) ∧ RkP M 46 su0 h' := by
  unfold B_X10_init_64
  have kd : h.kd M = 13 := q.1
  have e : (h.sgr 1307 M (some (M + 7))).nx = M + 8 := q.2.1.trans (by omega)
  obtain ⟨h', e1, e2⟩ := ini_8 N M su0 _ (q.step (f := 1308) (k := 32) (n := 514) rfl (by decide) (by decide))
  refine ⟨h', (dr_e rfl kd).trans ((ck_eq (by decide)).trans ?_), e2⟩
  rw [e, show (514 : Int32).toNatClampNeg = 514 by decide]
  exact e1
theorem ini_6 (N M su0 : Nat) (h : Hp) (q : RkP M 6 su0 (h.sgr 1306 M (some (M + 6)))) : ∃ h', B_X10_init_55 N M h (some M) (some (M + 6)) = some (h', ()) ∧ RkP M 46 su0 h' := by
  unfold B_X10_init_55
  have kd : h.kd M = 13 := q.1
  have e : (h.sgr 1306 M (some (M + 6))).nx = M + 7 := q.2.1.trans (by omega)
  obtain ⟨h', e1, e2⟩ := ini_7 N M su0 _ (q.step (f := 1307) (k := 30) (n := 514) rfl (by decide) (by decide))
  refine ⟨h', (dr_e rfl kd).trans ((ck_eq (by decide)).trans ?_), e2⟩
  rw [e, show (514 : Int32).toNatClampNeg = 514 by decide]
  exact e1
theorem ini_5 (N M su0 : Nat) (h : Hp) (q : RkP M 5 su0 (h.sgr 1305 M (some (M + 5)))) : ∃ h', B_X10_init_46 N M h (some M) (some (M + 5)) = some (h', ()) ∧ RkP M 46 su0 h' := by
  unfold B_X10_init_46
  have kd : h.kd M = 13 := q.1
  have e : (h.sgr 1305 M (some (M + 5))).nx = M + 6 := q.2.1.trans (by omega)
  obtain ⟨h', e1, e2⟩ := ini_6 N M su0 _ (q.step (f := 1306) (k := 30) (n := 514) rfl (by decide) (by decide))
  refine ⟨h', (dr_e rfl kd).trans ((ck_eq (by decide)).trans ?_), e2⟩
  rw [e, show (514 : Int32).toNatClampNeg = 514 by decide]
  exact e1
theorem ini_4 (N M su0 : Nat) (h : Hp) (q : RkP M 4 su0 (h.sgr 1304 M (some (M + 4)))) : ∃ h', B_X10_init_37 N M h (some M) (some (M + 4)) = some (h', ()) ∧ RkP M 46 su0 h' := by
  unfold B_X10_init_37
  have kd : h.kd M = 13 := q.1
  have e : (h.sgr 1304 M (some (M + 4))).nx = M + 5 := q.2.1.trans (by omega)
  obtain ⟨h', e1, e2⟩ := ini_5 N M su0 _ (q.step (f := 1305) (k := 30) (n := 514) rfl (by decide) (by decide))
  refine ⟨h', (dr_e rfl kd).trans ((ck_eq (by decide)).trans ?_), e2⟩
  rw [e, show (514 : Int32).toNatClampNeg = 514 by decide]
  exact e1
theorem ini_3 (N M su0 : Nat) (h : Hp) (q : RkP M 3 su0 (h.sgr 1303 M (some (M + 3)))) : ∃ h', B_X10_init_28 N M h (some M) (some (M + 3)) = some (h', ()) ∧ RkP M 46 su0 h' := by
  unfold B_X10_init_28
  have kd : h.kd M = 13 := q.1
  have e : (h.sgr 1303 M (some (M + 3))).nx = M + 4 := q.2.1.trans (by omega)
  obtain ⟨h', e1, e2⟩ := ini_4 N M su0 _ (q.step (f := 1304) (k := 30) (n := 514) rfl (by decide) (by decide))
  refine ⟨h', (dr_e rfl kd).trans ((ck_eq (by decide)).trans ?_), e2⟩
  rw [e, show (514 : Int32).toNatClampNeg = 514 by decide]
  exact e1
theorem ini_2 (N M su0 : Nat) (h : Hp) (q : RkP M 2 su0 (h.sgr 1302 M (some (M + 2)))) : ∃ h', B_X10_init_19 N M h (some M) (some (M + 2)) = some (h', ()) ∧ RkP M 46 su0 h' := by
  unfold B_X10_init_19
  have kd : h.kd M = 13 := q.1
  have e : (h.sgr 1302 M (some (M + 2))).nx = M + 3 := q.2.1.trans (by omega)
  obtain ⟨h', e1, e2⟩ := ini_3 N M su0 _ (q.step (f := 1303) (k := 30) (n := 514) rfl (by decide) (by decide))
  refine ⟨h', (dr_e rfl kd).trans ((ck_eq (by decide)).trans ?_), e2⟩
  rw [e, show (514 : Int32).toNatClampNeg = 514 by decide]
  exact e1
theorem ini_1 (N M su0 : Nat) (h : Hp) (q : RkP M 1 su0 (h.sgr 1301 M (some (M + 1)))) : ∃ h', B_X10_init_10 N M h (some M) (some (M + 1)) = some (h', ()) ∧ RkP M 46 su0 h' := by
  unfold B_X10_init_10
  have kd : h.kd M = 13 := q.1
  have e : (h.sgr 1301 M (some (M + 1))).nx = M + 2 := q.2.1.trans (by omega)
  obtain ⟨h', e1, e2⟩ := ini_2 N M su0 _ (q.step (f := 1302) (k := 32) (n := 514) rfl (by decide) (by decide))
  refine ⟨h', (dr_e rfl kd).trans ((ck_eq (by decide)).trans ?_), e2⟩
  rw [e, show (514 : Int32).toNatClampNeg = 514 by decide]
  exact e1
theorem rf_init (N M : Nat) {h : Hp} (hk : h.kd M = 13) (hn : h.nx = M + 1) (gi0 : ∀ f, h.gi f M = 0) (gl0 : ∀ f, h.gl f M = 0) (k0 : ∀ a, h.nx ≤ a → h.kd a = 0) : ∃ h', J_X10_init N M h = some (h', ()) ∧ Rk h' M ∧ (∀ f, h'.gi f M = 0) ∧ (∀ f, h'.gl f M = 0) ∧ (∀ j, 1 ≤ j → j ≤ 46 → h'.bi (M + j) = (fun _ => 0) ∧ h'.bw (M + j) = fun _ => 0) ∧ h'.nx = h.nx + 46 ∧ h'.su = h.su + 118962 ∧ ∀ a, h'.nx ≤ a → h'.kd a = 0 := by
  have q0 : RkP M 0 h.su h := ⟨hk, hn, fun x hx => (by cases hx), gi0, gl0, fun j j1 j2 => by omega, rfl, k0⟩
  obtain ⟨h', e1, q⟩ := ini_1 N M h.su _ (q0.step (f := 1301) (k := 30) (n := 514) rfl (by decide) (by decide))
  refine ⟨h', ?_, ⟨q.1, fun x hx => q.2.2.1 x (by rw [List.take_of_length_le (by decide)]; exact hx)⟩, q.2.2.2.1, q.2.2.2.2.1, q.2.2.2.2.2.1, ?_, ?_, q.2.2.2.2.2.2.2⟩
  · unfold J_X10_init B_X10_init_0
    refine (ck_eq (by decide)).trans ?_
    rw [hn, show (514 : Int32).toNatClampNeg = 514 by decide]
    exact e1
  · rw [q.2.1, hn]
  · rw [q.2.2.2.2.2.2.1]
    rw [show ((rtab.take 46).map (fun x => x.2.2.2)).sum = 118962 by decide]
