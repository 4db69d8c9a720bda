section V_X10_init
variable {hz : Hp}
theorem wb_X10_init_412 (N : Nat) (t0 : Nat) (h : Hp) (y0 : Option Nat) (y1 : Option Nat) (hJ : B_X10_init_412 N t0 h y0 y1 = some (hz, ())) : Fw h hz := by
  unfold B_X10_init_412 at hJ
  obtain ⟨a1, ea1, -, hJ⟩ := dr_some hJ
  obtain ⟨rfl, -⟩ := rs2 hJ
  exact (Fw.rf h)
theorem wb_X10_init_403 (N : Nat) (t0 : Nat) (h : Hp) (y0 : Option Nat) (y1 : Option Nat) (hJ : B_X10_init_403 N t0 h y0 y1 = some (hz, ())) : Fw h hz := by
  unfold B_X10_init_403 at hJ
  obtain ⟨a2, ea2, -, hJ⟩ := dr_some hJ
  obtain ⟨-, hJ⟩ := ck_some hJ
  exact (Fw.tr (show Fw h (h.sgr 1364 a2 y1) from (Fw.rf h)) ((Fw.new (h.sgr 1364 a2 y1) _ _ _).tr (wb_X10_init_412 N t0 _ _ _ hJ)))
theorem wb_X10_init_395 (N : Nat) (t0 : Nat) (h : Hp) (y0 : Option Nat) (y1 : Option Nat) (hJ : B_X10_init_395 N t0 h y0 y1 = some (hz, ())) : Fw h hz := by
  unfold B_X10_init_395 at hJ
  obtain ⟨a5, ea5, -, hJ⟩ := dr_some hJ
  obtain ⟨-, hJ⟩ := ck_some hJ
  exact (Fw.tr (show Fw h (h.sgr 1362 a5 y1) from (Fw.rf h)) ((Fw.new (h.sgr 1362 a5 y1) _ _ _).tr (wb_X10_init_403 N t0 _ _ _ hJ)))
theorem wb_X10_init_386 (N : Nat) (t0 : Nat) (h : Hp) (y0 : Option Nat) (y1 : Option Nat) (hJ : B_X10_init_386 N t0 h y0 y1 = some (hz, ())) : Fw h hz := by
  unfold B_X10_init_386 at hJ
  obtain ⟨a8, ea8, -, hJ⟩ := dr_some hJ
  obtain ⟨-, hJ⟩ := ck_some hJ
  exact (Fw.tr (show Fw h (h.sgr 1361 a8 y1) from (Fw.rf h)) ((Fw.new (h.sgr 1361 a8 y1) _ _ _).tr (wb_X10_init_395 N t0 _ _ _ hJ)))
theorem wb_X10_init_377 (N : Nat) (t0 : Nat) (h : Hp) (y0 : Option Nat) (y1 : Option Nat) (hJ : B_X10_init_377 N t0 h y0 y1 = some (hz, ())) : Fw h hz := by
  unfold B_X10_init_377 at hJ
  obtain ⟨a11, ea11, -, hJ⟩ := dr_some hJ
  obtain ⟨-, hJ⟩ := ck_some hJ
  exact (Fw.tr (show Fw h (h.sgr 1360 a11 y1) from (Fw.rf h)) ((Fw.new (h.sgr 1360 a11 y1) _ _ _).tr (wb_X10_init_386 N t0 _ _ _ hJ)))
theorem wb_X10_init_368 (N : Nat) (t0 : Nat) (h : Hp) (y0 : Option Nat) (y1 : Option Nat) (hJ : B_X10_init_368 N t0 h y0 y1 = some (hz, ())) : Fw h hz := by
  unfold B_X10_init_368 at hJ
  obtain ⟨a14, ea14, -, hJ⟩ := dr_some hJ
  obtain ⟨-, hJ⟩ := ck_some hJ
  exact (Fw.tr (show Fw h (h.sgr 1359 a14 y1) from (Fw.rf h)) ((Fw.new (h.sgr 1359 a14 y1) _ _ _).tr (wb_X10_init_377 N t0 _ _ _ hJ)))
theorem wb_X10_init_359 (N : Nat) (t0 : Nat) (h : Hp) (y0 : Option Nat) (y1 : Option Nat) (hJ : B_X10_init_359 N t0 h y0 y1 = some (hz, ())) : Fw h hz := by
  unfold B_X10_init_359 at hJ
  obtain ⟨a17, ea17, -, hJ⟩ := dr_some hJ
  obtain ⟨-, hJ⟩ := ck_some hJ
  exact (Fw.tr (show Fw h (h.sgr 1358 a17 y1) from (Fw.rf h)) ((Fw.new (h.sgr 1358 a17 y1) _ _ _).tr (wb_X10_init_368 N t0 _ _ _ hJ)))
theorem wb_X10_init_350 (N : Nat) (t0 : Nat) (h : Hp) (y0 : Option Nat) (y1 : Option Nat) (hJ : B_X10_init_350 N t0 h y0 y1 = some (hz, ())) : Fw h hz := by
  unfold B_X10_init_350 at hJ
  obtain ⟨a20, ea20, -, hJ⟩ := dr_some hJ
  obtain ⟨-, hJ⟩ := ck_some hJ
  exact (Fw.tr (show Fw h (h.sgr 1357 a20 y1) from (Fw.rf h)) ((Fw.new (h.sgr 1357 a20 y1) _ _ _).tr (wb_X10_init_359 N t0 _ _ _ hJ)))
theorem wb_X10_init_341 (N : Nat) (t0 : Nat) (h : Hp) (y0 : Option Nat) (y1 : Option Nat) (hJ : B_X10_init_341 N t0 h y0 y1 = some (hz, ())) : Fw h hz := by
  unfold B_X10_init_341 at hJ
  obtain ⟨a23, ea23, -, hJ⟩ := dr_some hJ
  obtain ⟨-, hJ⟩ := ck_some hJ
  exact (Fw.tr (show Fw h (h.sgr 1356 a23 y1) from (Fw.rf h)) ((Fw.new (h.sgr 1356 a23 y1) _ _ _).tr (wb_X10_init_350 N t0 _ _ _ hJ)))
theorem wb_X10_init_332 (N : Nat) (t0 : Nat) (h : Hp) (y0 : Option Nat) (y1 : Option Nat) (hJ : B_X10_init_332 N t0 h y0 y1 = some (hz, ())) : Fw h hz := by
  unfold B_X10_init_332 at hJ
  obtain ⟨a26, ea26, -, hJ⟩ := dr_some hJ
  obtain ⟨-, hJ⟩ := ck_some hJ
  exact (Fw.tr (show Fw h (h.sgr 1355 a26 y1) from (Fw.rf h)) ((Fw.new (h.sgr 1355 a26 y1) _ _ _).tr (wb_X10_init_341 N t0 _ _ _ hJ)))
theorem wb_X10_init_323 (N : Nat) (t0 : Nat) (h : Hp) (y0 : Option Nat) (y1 : Option Nat) (hJ : B_X10_init_323 N t0 h y0 y1 = some (hz, ())) : Fw h hz := by
  unfold B_X10_init_323 at hJ
  obtain ⟨a29, ea29, -, hJ⟩ := dr_some hJ
  obtain ⟨-, hJ⟩ := ck_some hJ
  exact (Fw.tr (show Fw h (h.sgr 1354 a29 y1) from (Fw.rf h)) ((Fw.new (h.sgr 1354 a29 y1) _ _ _).tr (wb_X10_init_332 N t0 _ _ _ hJ)))
theorem wb_X10_init_314 (N : Nat) (t0 : Nat) (h : Hp) (y0 : Option Nat) (y1 : Option Nat) (hJ : B_X10_init_314 N t0 h y0 y1 = some (hz, ())) : Fw h hz := by
  unfold B_X10_init_314 at hJ
  obtain ⟨a32, ea32, -, hJ⟩ := dr_some hJ
  obtain ⟨-, hJ⟩ := ck_some hJ
  exact (Fw.tr (show Fw h (h.sgr 1352 a32 y1) from (Fw.rf h)) ((Fw.new (h.sgr 1352 a32 y1) _ _ _).tr (wb_X10_init_323 N t0 _ _ _ hJ)))
theorem wb_X10_init_305 (N : Nat) (t0 : Nat) (h : Hp) (y0 : Option Nat) (y1 : Option Nat) (hJ : B_X10_init_305 N t0 h y0 y1 = some (hz, ())) : Fw h hz := by
  unfold B_X10_init_305 at hJ
  obtain ⟨a35, ea35, -, hJ⟩ := dr_some hJ
  obtain ⟨-, hJ⟩ := ck_some hJ
  exact (Fw.tr (show Fw h (h.sgr 1341 a35 y1) from (Fw.rf h)) ((Fw.new (h.sgr 1341 a35 y1) _ _ _).tr (wb_X10_init_314 N t0 _ _ _ hJ)))
theorem wb_X10_init_297 (N : Nat) (t0 : Nat) (h : Hp) (y0 : Option Nat) (y1 : Option Nat) (hJ : B_X10_init_297 N t0 h y0 y1 = some (hz, ())) : Fw h hz := by
  unfold B_X10_init_297 at hJ
  obtain ⟨a38, ea38, -, hJ⟩ := dr_some hJ
  obtain ⟨-, hJ⟩ := ck_some hJ
  exact (Fw.tr (show Fw h (h.sgr 1340 a38 y1) from (Fw.rf h)) ((Fw.new (h.sgr 1340 a38 y1) _ _ _).tr (wb_X10_init_305 N t0 _ _ _ hJ)))
theorem wb_X10_init_289 (N : Nat) (t0 : Nat) (h : Hp) (y0 : Option Nat) (y1 : Option Nat) (hJ : B_X10_init_289 N t0 h y0 y1 = some (hz, ())) : Fw h hz := by
  unfold B_X10_init_289 at hJ
  obtain ⟨a41, ea41, -, hJ⟩ := dr_some hJ
  obtain ⟨-, hJ⟩ := ck_some hJ
  exact (Fw.tr (show Fw h (h.sgr 1338 a41 y1) from (Fw.rf h)) ((Fw.new (h.sgr 1338 a41 y1) _ _ _).tr (wb_X10_init_297 N t0 _ _ _ hJ)))
theorem wb_X10_init_280 (N : Nat) (t0 : Nat) (h : Hp) (y0 : Option Nat) (y1 : Option Nat) (hJ : B_X10_init_280 N t0 h y0 y1 = some (hz, ())) : Fw h hz := by
  unfold B_X10_init_280 at hJ
  obtain ⟨a44, ea44, -, hJ⟩ := dr_some hJ
  obtain ⟨-, hJ⟩ := ck_some hJ
  exact (Fw.tr (show Fw h (h.sgr 1337 a44 y1) from (Fw.rf h)) ((Fw.new (h.sgr 1337 a44 y1) _ _ _).tr (wb_X10_init_289 N t0 _ _ _ hJ)))
theorem wb_X10_init_271 (N : Nat) (t0 : Nat) (h : Hp) (y0 : Option Nat) (y1 : Option Nat) (hJ : B_X10_init_271 N t0 h y0 y1 = some (hz, ())) : Fw h hz := by
  unfold B_X10_init_271 at hJ
  obtain ⟨a47, ea47, -, hJ⟩ := dr_some hJ
  obtain ⟨-, hJ⟩ := ck_some hJ
  exact (Fw.tr (show Fw h (h.sgr 1336 a47 y1) from (Fw.rf h)) ((Fw.new (h.sgr 1336 a47 y1) _ _ _).tr (wb_X10_init_280 N t0 _ _ _ hJ)))
theorem wb_X10_init_262 (N : Nat) (t0 : Nat) (h : Hp) (y0 : Option Nat) (y1 : Option Nat) (hJ : B_X10_init_262 N t0 h y0 y1 = some (hz, ())) : Fw h hz := by
  unfold B_X10_init_262 at hJ
  obtain ⟨a50, ea50, -, hJ⟩ := dr_some hJ
  obtain ⟨-, hJ⟩ := ck_some hJ
  exact (Fw.tr (show Fw h (h.sgr 1335 a50 y1) from (Fw.rf h)) ((Fw.new (h.sgr 1335 a50 y1) _ _ _).tr (wb_X10_init_271 N t0 _ _ _ hJ)))
theorem wb_X10_init_253 (N : Nat) (t0 : Nat) (h : Hp) (y0 : Option Nat) (y1 : Option Nat) (hJ : B_X10_init_253 N t0 h y0 y1 = some (hz, ())) : Fw h hz := by
  unfold B_X10_init_253 at hJ
  obtain ⟨a53, ea53, -, hJ⟩ := dr_some hJ
  obtain ⟨-, hJ⟩ := ck_some hJ
  exact (Fw.tr (show Fw h (h.sgr 1334 a53 y1) from (Fw.rf h)) ((Fw.new (h.sgr 1334 a53 y1) _ _ _).tr (wb_X10_init_262 N t0 _ _ _ hJ)))
theorem wb_X10_init_244 (N : Nat) (t0 : Nat) (h : Hp) (y0 : Option Nat) (y1 : Option Nat) (hJ : B_X10_init_244 N t0 h y0 y1 = some (hz, ())) : Fw h hz := by
  unfold B_X10_init_244 at hJ
  obtain ⟨a56, ea56, -, hJ⟩ := dr_some hJ
  obtain ⟨-, hJ⟩ := ck_some hJ
  exact (Fw.tr (show Fw h (h.sgr 1333 a56 y1) from (Fw.rf h)) ((Fw.new (h.sgr 1333 a56 y1) _ _ _).tr (wb_X10_init_253 N t0 _ _ _ hJ)))
theorem wb_X10_init_235 (N : Nat) (t0 : Nat) (h : Hp) (y0 : Option Nat) (y1 : Option Nat) (hJ : B_X10_init_235 N t0 h y0 y1 = some (hz, ())) : Fw h hz := by
  unfold B_X10_init_235 at hJ
  obtain ⟨a59, ea59, -, hJ⟩ := dr_some hJ
  obtain ⟨-, hJ⟩ := ck_some hJ
  exact (Fw.tr (show Fw h (h.sgr 1332 a59 y1) from (Fw.rf h)) ((Fw.new (h.sgr 1332 a59 y1) _ _ _).tr (wb_X10_init_244 N t0 _ _ _ hJ)))
theorem wb_X10_init_226 (N : Nat) (t0 : Nat) (h : Hp) (y0 : Option Nat) (y1 : Option Nat) (hJ : B_X10_init_226 N t0 h y0 y1 = some (hz, ())) : Fw h hz := by
  unfold B_X10_init_226 at hJ
  obtain ⟨a62, ea62, -, hJ⟩ := dr_some hJ
  obtain ⟨-, hJ⟩ := ck_some hJ
  exact (Fw.tr (show Fw h (h.sgr 1331 a62 y1) from (Fw.rf h)) ((Fw.new (h.sgr 1331 a62 y1) _ _ _).tr (wb_X10_init_235 N t0 _ _ _ hJ)))
theorem wb_X10_init_217 (N : Nat) (t0 : Nat) (h : Hp) (y0 : Option Nat) (y1 : Option Nat) (hJ : B_X10_init_217 N t0 h y0 y1 = some (hz, ())) : Fw h hz := by
  unfold B_X10_init_217 at hJ
  obtain ⟨a65, ea65, -, hJ⟩ := dr_some hJ
  obtain ⟨-, hJ⟩ := ck_some hJ
  exact (Fw.tr (show Fw h (h.sgr 1330 a65 y1) from (Fw.rf h)) ((Fw.new (h.sgr 1330 a65 y1) _ _ _).tr (wb_X10_init_226 N t0 _ _ _ hJ)))
theorem wb_X10_init_208 (N : Nat) (t0 : Nat) (h : Hp) (y0 : Option Nat) (y1 : Option Nat) (hJ : B_X10_init_208 N t0 h y0 y1 = some (hz, ())) : Fw h hz := by
  unfold B_X10_init_208 at hJ
  obtain ⟨a68, ea68, -, hJ⟩ := dr_some hJ
  obtain ⟨-, hJ⟩ := ck_some hJ
  exact (Fw.tr (show Fw h (h.sgr 1329 a68 y1) from (Fw.rf h)) ((Fw.new (h.sgr 1329 a68 y1) _ _ _).tr (wb_X10_init_217 N t0 _ _ _ hJ)))
theorem wb_X10_init_199 (N : Nat) (t0 : Nat) (h : Hp) (y0 : Option Nat) (y1 : Option Nat) (hJ : B_X10_init_199 N t0 h y0 y1 = some (hz, ())) : Fw h hz := by
  unfold B_X10_init_199 at hJ
  obtain ⟨a71, ea71, -, hJ⟩ := dr_some hJ
  obtain ⟨-, hJ⟩ := ck_some hJ
  exact (Fw.tr (show Fw h (h.sgr 1327 a71 y1) from (Fw.rf h)) ((Fw.new (h.sgr 1327 a71 y1) _ _ _).tr (wb_X10_init_208 N t0 _ _ _ hJ)))
theorem wb_X10_init_190 (N : Nat) (t0 : Nat) (h : Hp) (y0 : Option Nat) (y1 : Option Nat) (hJ : B_X10_init_190 N t0 h y0 y1 = some (hz, ())) : Fw h hz := by
  unfold B_X10_init_190 at hJ
  obtain ⟨a74, ea74, -, hJ⟩ := dr_some hJ
  obtain ⟨-, hJ⟩ := ck_some hJ
  exact (Fw.tr (show Fw h (h.sgr 1326 a74 y1) from (Fw.rf h)) ((Fw.new (h.sgr 1326 a74 y1) _ _ _).tr (wb_X10_init_199 N t0 _ _ _ hJ)))
theorem wb_X10_init_181 (N : Nat) (t0 : Nat) (h : Hp) (y0 : Option Nat) (y1 : Option Nat) (hJ : B_X10_init_181 N t0 h y0 y1 = some (hz, ())) : Fw h hz := by
  unfold B_X10_init_181 at hJ
  obtain ⟨a77, ea77, -, hJ⟩ := dr_some hJ
  obtain ⟨-, hJ⟩ := ck_some hJ
  exact (Fw.tr (show Fw h (h.sgr 1325 a77 y1) from (Fw.rf h)) ((Fw.new (h.sgr 1325 a77 y1) _ _ _).tr (wb_X10_init_190 N t0 _ _ _ hJ)))
theorem wb_X10_init_172 (N : Nat) (t0 : Nat) (h : Hp) (y0 : Option Nat) (y1 : Option Nat) (hJ : B_X10_init_172 N t0 h y0 y1 = some (hz, ())) : Fw h hz := by
  unfold B_X10_init_172 at hJ
  obtain ⟨a80, ea80, -, hJ⟩ := dr_some hJ
  obtain ⟨-, hJ⟩ := ck_some hJ
  exact (Fw.tr (show Fw h (h.sgr 1324 a80 y1) from (Fw.rf h)) ((Fw.new (h.sgr 1324 a80 y1) _ _ _).tr (wb_X10_init_181 N t0 _ _ _ hJ)))
theorem wb_X10_init_163 (N : Nat) (t0 : Nat) (h : Hp) (y0 : Option Nat) (y1 : Option Nat) (hJ : B_X10_init_163 N t0 h y0 y1 = some (hz, ())) : Fw h hz := by
  unfold B_X10_init_163 at hJ
  obtain ⟨a83, ea83, -, hJ⟩ := dr_some hJ
  obtain ⟨-, hJ⟩ := ck_some hJ
  exact (Fw.tr (show Fw h (h.sgr 1322 a83 y1) from (Fw.rf h)) ((Fw.new (h.sgr 1322 a83 y1) _ _ _).tr (wb_X10_init_172 N t0 _ _ _ hJ)))
theorem wb_X10_init_154 (N : Nat) (t0 : Nat) (h : Hp) (y0 : Option Nat) (y1 : Option Nat) (hJ : B_X10_init_154 N t0 h y0 y1 = some (hz, ())) : Fw h hz := by
  unfold B_X10_init_154 at hJ
  obtain ⟨a86, ea86, -, hJ⟩ := dr_some hJ
  obtain ⟨-, hJ⟩ := ck_some hJ
  exact (Fw.tr (show Fw h (h.sgr 1321 a86 y1) from (Fw.rf h)) ((Fw.new (h.sgr 1321 a86 y1) _ _ _).tr (wb_X10_init_163 N t0 _ _ _ hJ)))
theorem wb_X10_init_145 (N : Nat) (t0 : Nat) (h : Hp) (y0 : Option Nat) (y1 : Option Nat) (hJ : B_X10_init_145 N t0 h y0 y1 = some (hz, ())) : Fw h hz := by
  unfold B_X10_init_145 at hJ
  obtain ⟨a89, ea89, -, hJ⟩ := dr_some hJ
  obtain ⟨-, hJ⟩ := ck_some hJ
  exact (Fw.tr (show Fw h (h.sgr 1320 a89 y1) from (Fw.rf h)) ((Fw.new (h.sgr 1320 a89 y1) _ _ _).tr (wb_X10_init_154 N t0 _ _ _ hJ)))
theorem wb_X10_init_136 (N : Nat) (t0 : Nat) (h : Hp) (y0 : Option Nat) (y1 : Option Nat) (hJ : B_X10_init_136 N t0 h y0 y1 = some (hz, ())) : Fw h hz := by
  unfold B_X10_init_136 at hJ
  obtain ⟨a92, ea92, -, hJ⟩ := dr_some hJ
  obtain ⟨-, hJ⟩ := ck_some hJ
  exact (Fw.tr (show Fw h (h.sgr 1318 a92 y1) from (Fw.rf h)) ((Fw.new (h.sgr 1318 a92 y1) _ _ _).tr (wb_X10_init_145 N t0 _ _ _ hJ)))
theorem wb_X10_init_127 (N : Nat) (t0 : Nat) (h : Hp) (y0 : Option Nat) (y1 : Option Nat) (hJ : B_X10_init_127 N t0 h y0 y1 = some (hz, ())) : Fw h hz := by
  unfold B_X10_init_127 at hJ
  obtain ⟨a95, ea95, -, hJ⟩ := dr_some hJ
  obtain ⟨-, hJ⟩ := ck_some hJ
  exact (Fw.tr (show Fw h (h.sgr 1317 a95 y1) from (Fw.rf h)) ((Fw.new (h.sgr 1317 a95 y1) _ _ _).tr (wb_X10_init_136 N t0 _ _ _ hJ)))
theorem wb_X10_init_118 (N : Nat) (t0 : Nat) (h : Hp) (y0 : Option Nat) (y1 : Option Nat) (hJ : B_X10_init_118 N t0 h y0 y1 = some (hz, ())) : Fw h hz := by
  unfold B_X10_init_118 at hJ
  obtain ⟨a98, ea98, -, hJ⟩ := dr_some hJ
  obtain ⟨-, hJ⟩ := ck_some hJ
  exact (Fw.tr (show Fw h (h.sgr 1316 a98 y1) from (Fw.rf h)) ((Fw.new (h.sgr 1316 a98 y1) _ _ _).tr (wb_X10_init_127 N t0 _ _ _ hJ)))
theorem wb_X10_init_109 (N : Nat) (t0 : Nat) (h : Hp) (y0 : Option Nat) (y1 : Option Nat) (hJ : B_X10_init_109 N t0 h y0 y1 = some (hz, ())) : Fw h hz := by
  unfold B_X10_init_109 at hJ
  obtain ⟨a101, ea101, -, hJ⟩ := dr_some hJ
  obtain ⟨-, hJ⟩ := ck_some hJ
  exact (Fw.tr (show Fw h (h.sgr 1315 a101 y1) from (Fw.rf h)) ((Fw.new (h.sgr 1315 a101 y1) _ _ _).tr (wb_X10_init_118 N t0 _ _ _ hJ)))
theorem wb_X10_init_100 (N : Nat) (t0 : Nat) (h : Hp) (y0 : Option Nat) (y1 : Option Nat) (hJ : B_X10_init_100 N t0 h y0 y1 = some (hz, ())) : Fw h hz := by
  unfold B_X10_init_100 at hJ
  obtain ⟨a104, ea104, -, hJ⟩ := dr_some hJ
  obtain ⟨-, hJ⟩ := ck_some hJ
  exact (Fw.tr (show Fw h (h.sgr 1314 a104 y1) from (Fw.rf h)) ((Fw.new (h.sgr 1314 a104 y1) _ _ _).tr (wb_X10_init_109 N t0 _ _ _ hJ)))
theorem wb_X10_init_91 (N : Nat) (t0 : Nat) (h : Hp) (y0 : Option Nat) (y1 : Option Nat) (hJ : B_X10_init_91 N t0 h y0 y1 = some (hz, ())) : Fw h hz := by
  unfold B_X10_init_91 at hJ
  obtain ⟨a107, ea107, -, hJ⟩ := dr_some hJ
  obtain ⟨-, hJ⟩ := ck_some hJ
  exact (Fw.tr (show Fw h (h.sgr 1310 a107 y1) from (Fw.rf h)) ((Fw.new (h.sgr 1310 a107 y1) _ _ _).tr (wb_X10_init_100 N t0 _ _ _ hJ)))
theorem wb_X10_init_82 (N : Nat) (t0 : Nat) (h : Hp) (y0 : Option Nat) (y1 : Option Nat) (hJ : B_X10_init_82 N t0 h y0 y1 = some (hz, ())) : Fw h hz := by
  unfold B_X10_init_82 at hJ
  obtain ⟨a110, ea110, -, hJ⟩ := dr_some hJ
  obtain ⟨-, hJ⟩ := ck_some hJ
  exact (Fw.tr (show Fw h (h.sgr 1309 a110 y1) from (Fw.rf h)) ((Fw.new (h.sgr 1309 a110 y1) _ _ _).tr (wb_X10_init_91 N t0 _ _ _ hJ)))
theorem wb_X10_init_73 (N : Nat) (t0 : Nat) (h : Hp) (y0 : Option Nat) (y1 : Option Nat) (hJ : B_X10_init_73 N t0 h y0 y1 = some (hz, ())) : Fw h hz := by
  unfold B_X10_init_73 at hJ
  obtain ⟨a113, ea113, -, hJ⟩ := dr_some hJ
  obtain ⟨-, hJ⟩ := ck_some hJ
  exact (Fw.tr (show Fw h (h.sgr 1308 a113 y1) from (Fw.rf h)) ((Fw.new (h.sgr 1308 a113 y1) _ _ _).tr (wb_X10_init_82 N t0 _ _ _ hJ)))
theorem wb_X10_init_64 (N : Nat) (t0 : Nat) (h : Hp) (y0 : Option Nat) (y1 : Option Nat) (hJ : B_X10_init_64 N t0 h y0 y1 = some (hz, ())) : Fw h hz := by
  unfold B_X10_init_64 at hJ
  obtain ⟨a116, ea116, -, hJ⟩ := dr_some hJ
  obtain ⟨-, hJ⟩ := ck_some hJ
  exact (Fw.tr (show Fw h (h.sgr 1307 a116 y1) from (Fw.rf h)) ((Fw.new (h.sgr 1307 a116 y1) _ _ _).tr (wb_X10_init_73 N t0 _ _ _ hJ)))
theorem wb_X10_init_55 (N : Nat) (t0 : Nat) (h : Hp) (y0 : Option Nat) (y1 : Option Nat) (hJ : B_X10_init_55 N t0 h y0 y1 = some (hz, ())) : Fw h hz := by
  unfold B_X10_init_55 at hJ
  obtain ⟨a119, ea119, -, hJ⟩ := dr_some hJ
  obtain ⟨-, hJ⟩ := ck_some hJ
  exact (Fw.tr (show Fw h (h.sgr 1306 a119 y1) from (Fw.rf h)) ((Fw.new (h.sgr 1306 a119 y1) _ _ _).tr (wb_X10_init_64 N t0 _ _ _ hJ)))
theorem wb_X10_init_46 (N : Nat) (t0 : Nat) (h : Hp) (y0 : Option Nat) (y1 : Option Nat) (hJ : B_X10_init_46 N t0 h y0 y1 = some (hz, ())) : Fw h hz := by
  unfold B_X10_init_46 at hJ
  obtain ⟨a122, ea122, -, hJ⟩ := dr_some hJ
  obtain ⟨-, hJ⟩ := ck_some hJ
  exact (Fw.tr (show Fw h (h.sgr 1305 a122 y1) from (Fw.rf h)) ((Fw.new (h.sgr 1305 a122 y1) _ _ _).tr (wb_X10_init_55 N t0 _ _ _ hJ)))
theorem wb_X10_init_37 (N : Nat) (t0 : Nat) (h : Hp) (y0 : Option Nat) (y1 : Option Nat) (hJ : B_X10_init_37 N t0 h y0 y1 = some (hz, ())) : Fw h hz := by
  unfold B_X10_init_37 at hJ
  obtain ⟨a125, ea125, -, hJ⟩ := dr_some hJ
  obtain ⟨-, hJ⟩ := ck_some hJ
  exact (Fw.tr (show Fw h (h.sgr 1304 a125 y1) from (Fw.rf h)) ((Fw.new (h.sgr 1304 a125 y1) _ _ _).tr (wb_X10_init_46 N t0 _ _ _ hJ)))
theorem wb_X10_init_28 (N : Nat) (t0 : Nat) (h : Hp) (y0 : Option Nat) (y1 : Option Nat) (hJ : B_X10_init_28 N t0 h y0 y1 = some (hz, ())) : Fw h hz := by
  unfold B_X10_init_28 at hJ
  obtain ⟨a128, ea128, -, hJ⟩ := dr_some hJ
  obtain ⟨-, hJ⟩ := ck_some hJ
  exact (Fw.tr (show Fw h (h.sgr 1303 a128 y1) from (Fw.rf h)) ((Fw.new (h.sgr 1303 a128 y1) _ _ _).tr (wb_X10_init_37 N t0 _ _ _ hJ)))
theorem wb_X10_init_19 (N : Nat) (t0 : Nat) (h : Hp) (y0 : Option Nat) (y1 : Option Nat) (hJ : B_X10_init_19 N t0 h y0 y1 = some (hz, ())) : Fw h hz := by
  unfold B_X10_init_19 at hJ
  obtain ⟨a131, ea131, -, hJ⟩ := dr_some hJ
  obtain ⟨-, hJ⟩ := ck_some hJ
  exact (Fw.tr (show Fw h (h.sgr 1302 a131 y1) from (Fw.rf h)) ((Fw.new (h.sgr 1302 a131 y1) _ _ _).tr (wb_X10_init_28 N t0 _ _ _ hJ)))
theorem wb_X10_init_10 (N : Nat) (t0 : Nat) (h : Hp) (y0 : Option Nat) (y1 : Option Nat) (hJ : B_X10_init_10 N t0 h y0 y1 = some (hz, ())) : Fw h hz := by
  unfold B_X10_init_10 at hJ
  obtain ⟨a134, ea134, -, hJ⟩ := dr_some hJ
  obtain ⟨-, hJ⟩ := ck_some hJ
  exact (Fw.tr (show Fw h (h.sgr 1301 a134 y1) from (Fw.rf h)) ((Fw.new (h.sgr 1301 a134 y1) _ _ _).tr (wb_X10_init_19 N t0 _ _ _ hJ)))
theorem wb_X10_init_0 (N : Nat) (t0 : Nat) (h : Hp) (hJ : B_X10_init_0 N t0 h = some (hz, ())) : Fw h hz := by
  unfold B_X10_init_0 at hJ
  obtain ⟨-, hJ⟩ := ck_some hJ
  exact (Fw.new h _ _ _).tr (wb_X10_init_10 N t0 _ _ _ hJ)
theorem wo_X10_init (N : Nat) (t0 : Nat) (h : Hp) (hJ : J_X10_init N t0 h = some (hz, ())) : Fw h hz := wb_X10_init_0 N t0 h hJ
end V_X10_init
section V_X10_thrown
variable {hz : Hp} {rz : Int32}
theorem wb_X10_thrown_0 (N : Nat) (t0 : Nat) (h : Hp) (hJ : B_X10_thrown_0 N t0 h = some (hz, rz)) : Fw h hz := by
  unfold B_X10_thrown_0 at hJ
  obtain ⟨rfl, -⟩ := rs2 hJ
  exact (Fw.rf h)
theorem wo_X10_thrown (N : Nat) (t0 : Nat) (h : Hp) (hJ : J_X10_thrown N t0 h = some (hz, rz)) : Fw h hz := wb_X10_thrown_0 N t0 h hJ
end V_X10_thrown
section V_X10_activeMany
variable {hz : Hp} {rz : Int32}
theorem wb_X10_activeMany_28 (N : Nat) (k4 : Hp → Int32 → Int32 → Option (Hp × Int32)) (t0 : Nat) (h : Hp) (x2 : Int32) (y0 : Int32) (y1 : Int32) (m4 : ∀ (h : Hp) (x1 : Int32) (x2 : Int32), k4 h x1 x2 = some (hz, rz) → Fw h hz) (hJ : B_X10_activeMany_28 N k4 t0 h x2 y0 y1 = some (hz, rz)) : Fw h hz := by
  unfold B_X10_activeMany_28 at hJ
  exact m4 _ _ _ hJ
theorem wb_X10_activeMany_4 (N : Nat) (k4 : Hp → Int32 → Int32 → Option (Hp × Int32)) (t0 : Nat) (h : Hp) (x1 : Int32) (x2 : Int32) (m4 : ∀ (h : Hp) (x1 : Int32) (x2 : Int32), k4 h x1 x2 = some (hz, rz) → Fw h hz) (hJ : B_X10_activeMany_4 N k4 t0 h x1 x2 = some (hz, rz)) : Fw h hz := by
  unfold B_X10_activeMany_4 at hJ
  by_cases c1 : (h.gi 1311 t0) < x2
  · have hJ := it_pos c1 hJ
    obtain ⟨rfl, -⟩ := rs2 hJ
    exact (Fw.rf h)
  · have hJ := it_neg c1 hJ
    obtain ⟨a2, ea2, -, hJ⟩ := dr_some hJ
    obtain ⟨-, hJ⟩ := ck_some hJ
    by_cases c4 : (h.bi a2 x2.toNatClampNeg) = (1 : Int32)
    · have hJ := it_pos c4 hJ
      exact wb_X10_activeMany_28 N k4 t0 _ _ _ _ m4 hJ
    · have hJ := it_neg c4 hJ
      exact wb_X10_activeMany_28 N k4 t0 _ _ _ _ m4 hJ
theorem wl_X10_activeMany_4 (N : Nat) (t0 : Nat) : ∀ (n : Nat) (h : Hp) (x1 : Int32) (x2 : Int32), L_X10_activeMany_4 N t0 n h x1 x2 = some (hz, rz) → Fw h hz := by
  intro n
  induction n with
  | zero => intro h x1 x2 hJ; cases hJ
  | succ n ih => intro h x1 x2 hJ; exact wb_X10_activeMany_4 N (L_X10_activeMany_4 N t0 n) t0 h x1 x2 ih hJ
theorem wb_X10_activeMany_0 (N : Nat) (t0 : Nat) (h : Hp) (hJ : B_X10_activeMany_0 N t0 h = some (hz, rz)) : Fw h hz := by
  unfold B_X10_activeMany_0 at hJ
  exact wl_X10_activeMany_4 N t0 N _ _ _ hJ
theorem wo_X10_activeMany (N : Nat) (t0 : Nat) (h : Hp) (hJ : J_X10_activeMany N t0 h = some (hz, rz)) : Fw h hz := wb_X10_activeMany_0 N t0 h hJ
end V_X10_activeMany
section V_X10_endOf
variable {hz : Hp} {rz : Int32}
theorem wb_X10_endOf_21 (N : Nat) (t0 : Nat) (h : Hp) (y0 : Int32) (hJ : B_X10_endOf_21 N t0 h y0 = some (hz, rz)) : Fw h hz := by
  unfold B_X10_endOf_21 at hJ
  obtain ⟨rfl, -⟩ := rs2 hJ
  exact (Fw.rf h)
theorem wb_X10_endOf_0 (N : Nat) (t0 : Nat) (h : Hp) (x1 : Int32) (hJ : B_X10_endOf_0 N t0 h x1 = some (hz, rz)) : Fw h hz := by
  unfold B_X10_endOf_0 at hJ
  obtain ⟨a1, ea1, -, hJ⟩ := dr_some hJ
  obtain ⟨-, hJ⟩ := ck_some hJ
  by_cases c3 : (h.bi a1 x1.toNatClampNeg) = (1 : Int32)
  · have hJ := it_pos c3 hJ
    exact wb_X10_endOf_21 N t0 _ _ hJ
  · have hJ := it_neg c3 hJ
    obtain ⟨a4, ea4, -, hJ⟩ := dr_some hJ
    obtain ⟨-, hJ⟩ := ck_some hJ
    exact wb_X10_endOf_21 N t0 _ _ hJ
theorem wo_X10_endOf (N : Nat) (t0 : Nat) (h : Hp) (x1 : Int32) (hJ : J_X10_endOf N t0 h x1 = some (hz, rz)) : Fw h hz := wb_X10_endOf_0 N t0 h x1 hJ
end V_X10_endOf
section V_X10_isIn
variable {hz : Hp} {rz : Int32}
theorem wb_X10_isIn_25 (N : Nat) (t0 : Nat) (h : Hp) (y0 : Int32) (hJ : B_X10_isIn_25 N t0 h y0 = some (hz, rz)) : Fw h hz := by
  unfold B_X10_isIn_25 at hJ
  obtain ⟨-, hJ⟩ := ck_some hJ
  obtain ⟨rfl, -⟩ := rs2 hJ
  exact (Fw.rf h)
theorem wb_X10_isIn_20 (N : Nat) (t0 : Nat) (h : Hp) (hJ : B_X10_isIn_20 N t0 h = some (hz, rz)) : Fw h hz := by
  unfold B_X10_isIn_20 at hJ
  exact wb_X10_isIn_25 N t0 _ _ hJ
theorem wb_X10_isIn_0 (N : Nat) (t0 : Nat) (h : Hp) (x1 : Int32) (hJ : B_X10_isIn_0 N t0 h x1 = some (hz, rz)) : Fw h hz := by
  unfold B_X10_isIn_0 at hJ
  obtain ⟨a2, ea2, -, hJ⟩ := dr_some hJ
  obtain ⟨-, hJ⟩ := ck_some hJ
  by_cases c4 : (h.bi a2 x1.toNatClampNeg) = (1 : Int32)
  · have hJ := it_pos c4 hJ
    exact wb_X10_isIn_20 N t0 _ hJ
  · have hJ := it_neg c4 hJ
    obtain ⟨a5, ea5, -, hJ⟩ := dr_some hJ
    obtain ⟨-, hJ⟩ := ck_some hJ
    by_cases c7 : (h.bi a5 x1.toNatClampNeg) = (2 : Int32)
    · have hJ := it_pos c7 hJ
      exact wb_X10_isIn_20 N t0 _ hJ
    · have hJ := it_neg c7 hJ
      exact wb_X10_isIn_25 N t0 _ _ hJ
theorem wo_X10_isIn (N : Nat) (t0 : Nat) (h : Hp) (x1 : Int32) (hJ : J_X10_isIn N t0 h x1 = some (hz, rz)) : Fw h hz := wb_X10_isIn_0 N t0 h x1 hJ
end V_X10_isIn
section V_X10_isReadKey
variable {hz : Hp} {rz : Int32}
theorem wb_X10_isReadKey_54 (N : Nat) (k14 : Hp → Int32 → Int32 → Int32 → Option (Hp × Int32)) (t0 : Nat) (h : Hp) (x1 : Int32) (x2 : Int32) (x3 : Int32) (m14 : ∀ (h : Hp) (x1 : Int32) (x2 : Int32) (x3 : Int32), k14 h x1 x2 x3 = some (hz, rz) → Fw h hz) (hJ : B_X10_isReadKey_54 N k14 t0 h x1 x2 x3 = some (hz, rz)) : Fw h hz := by
  unfold B_X10_isReadKey_54 at hJ
  exact m14 _ _ _ _ hJ
theorem wb_X10_isReadKey_14 (N : Nat) (k14 : Hp → Int32 → Int32 → Int32 → Option (Hp × Int32)) (t0 : Nat) (h : Hp) (x1 : Int32) (x2 : Int32) (x3 : Int32) (m14 : ∀ (h : Hp) (x1 : Int32) (x2 : Int32) (x3 : Int32), k14 h x1 x2 x3 = some (hz, rz) → Fw h hz) (hJ : B_X10_isReadKey_14 N k14 t0 h x1 x2 x3 = some (hz, rz)) : Fw h hz := by
  unfold B_X10_isReadKey_14 at hJ
  by_cases c1 : (h.gi 1323 t0) ≤ x3
  · have hJ := it_pos c1 hJ
    obtain ⟨rfl, -⟩ := rs2 hJ
    exact (Fw.rf h)
  · have hJ := it_neg c1 hJ
    obtain ⟨a2, ea2, -, hJ⟩ := dr_some hJ
    obtain ⟨-, hJ⟩ := ck_some hJ
    by_cases c4 : (h.bi a2 x3.toNatClampNeg) = x1
    · have hJ := it_pos c4 hJ
      obtain ⟨a5, ea5, -, hJ⟩ := dr_some hJ
      obtain ⟨-, hJ⟩ := ck_some hJ
      by_cases c7 : x2 < (h.bi a5 x3.toNatClampNeg)
      · have hJ := it_pos c7 hJ
        exact wb_X10_isReadKey_54 N k14 t0 _ _ _ _ m14 hJ
      · have hJ := it_neg c7 hJ
        obtain ⟨a8, ea8, -, hJ⟩ := dr_some hJ
        obtain ⟨-, hJ⟩ := ck_some hJ
        by_cases c10 : (h.bi a8 x3.toNatClampNeg) < x2
        · have hJ := it_pos c10 hJ
          exact wb_X10_isReadKey_54 N k14 t0 _ _ _ _ m14 hJ
        · have hJ := it_neg c10 hJ
          obtain ⟨rfl, -⟩ := rs2 hJ
          exact (Fw.rf h)
    · have hJ := it_neg c4 hJ
      exact wb_X10_isReadKey_54 N k14 t0 _ _ _ _ m14 hJ
theorem wl_X10_isReadKey_14 (N : Nat) (t0 : Nat) : ∀ (n : Nat) (h : Hp) (x1 : Int32) (x2 : Int32) (x3 : Int32), L_X10_isReadKey_14 N t0 n h x1 x2 x3 = some (hz, rz) → Fw h hz := by
  intro n
  induction n with
  | zero => intro h x1 x2 x3 hJ; cases hJ
  | succ n ih => intro h x1 x2 x3 hJ; exact wb_X10_isReadKey_14 N (L_X10_isReadKey_14 N t0 n) t0 h x1 x2 x3 ih hJ
theorem wb_X10_isReadKey_0 (N : Nat) (t0 : Nat) (h : Hp) (x1 : Int32) (x2 : Int32) (hJ : B_X10_isReadKey_0 N t0 h x1 x2 = some (hz, rz)) : Fw h hz := by
  unfold B_X10_isReadKey_0 at hJ
  obtain ⟨a11, ea11, -, hJ⟩ := dr_some hJ
  obtain ⟨-, hJ⟩ := ck_some hJ
  by_cases c13 : (h.bi a11 x1.toNatClampNeg) = (1 : Int32)
  · have hJ := it_pos c13 hJ
    obtain ⟨rfl, -⟩ := rs2 hJ
    exact (Fw.rf h)
  · have hJ := it_neg c13 hJ
    exact wl_X10_isReadKey_14 N t0 N _ _ _ _ hJ
theorem wo_X10_isReadKey (N : Nat) (t0 : Nat) (h : Hp) (x1 : Int32) (x2 : Int32) (hJ : J_X10_isReadKey N t0 h x1 x2 = some (hz, rz)) : Fw h hz := wb_X10_isReadKey_0 N t0 h x1 x2 hJ
end V_X10_isReadKey
section V_X10_precedes
variable {hz : Hp} {rz : Int32}
theorem wb_X10_precedes_52 (N : Nat) (t0 : Nat) (h : Hp) (hJ : B_X10_precedes_52 N t0 h = some (hz, rz)) : Fw h hz := by
  unfold B_X10_precedes_52 at hJ
  obtain ⟨rfl, -⟩ := rs2 hJ
  exact (Fw.rf h)
theorem wb_X10_precedes_90 (N : Nat) (k56 : Hp → Int32 → Int32 → Int32 → Option (Hp × Int32)) (t0 : Nat) (h : Hp) (x1 : Int32) (x2 : Int32) (x3 : Int32) (m56 : ∀ (h : Hp) (x1 : Int32) (x2 : Int32) (x3 : Int32), k56 h x1 x2 x3 = some (hz, rz) → Fw h hz) (hJ : B_X10_precedes_90 N k56 t0 h x1 x2 x3 = some (hz, rz)) : Fw h hz := by
  unfold B_X10_precedes_90 at hJ
  exact m56 _ _ _ _ hJ
theorem wb_X10_precedes_85 (N : Nat) (k56 : Hp → Int32 → Int32 → Int32 → Option (Hp × Int32)) (t0 : Nat) (h : Hp) (x1 : Int32) (x2 : Int32) (x3 : Int32) (y0 : Int32) (m56 : ∀ (h : Hp) (x1 : Int32) (x2 : Int32) (x3 : Int32), k56 h x1 x2 x3 = some (hz, rz) → Fw h hz) (hJ : B_X10_precedes_85 N k56 t0 h x1 x2 x3 y0 = some (hz, rz)) : Fw h hz := by
  unfold B_X10_precedes_85 at hJ
  by_cases c1 : y0 = 0
  · have hJ := it_pos c1 hJ
    exact wb_X10_precedes_90 N k56 t0 _ _ _ _ m56 hJ
  · have hJ := it_neg c1 hJ
    obtain ⟨rfl, -⟩ := rs2 hJ
    exact (Fw.rf h)
theorem wb_X10_precedes_56 (N : Nat) (k56 : Hp → Int32 → Int32 → Int32 → Option (Hp × Int32)) (t0 : Nat) (h : Hp) (x1 : Int32) (x2 : Int32) (x3 : Int32) (m56 : ∀ (h : Hp) (x1 : Int32) (x2 : Int32) (x3 : Int32), k56 h x1 x2 x3 = some (hz, rz) → Fw h hz) (hJ : B_X10_precedes_56 N k56 t0 h x1 x2 x3 = some (hz, rz)) : Fw h hz := by
  unfold B_X10_precedes_56 at hJ
  by_cases c2 : (h.gi 1328 t0) ≤ x3
  · have hJ := it_pos c2 hJ
    obtain ⟨rfl, -⟩ := rs2 hJ
    exact (Fw.rf h)
  · have hJ := it_neg c2 hJ
    obtain ⟨a3, ea3, -, hJ⟩ := dr_some hJ
    obtain ⟨-, hJ⟩ := ck_some hJ
    by_cases c5 : (h.bi a3 x3.toNatClampNeg) = x2
    · have hJ := it_pos c5 hJ
      obtain ⟨a6, ea6, -, hJ⟩ := dr_some hJ
      obtain ⟨-, hJ⟩ := ck_some hJ
      obtain ⟨⟨h8, r9⟩, e10, hJ⟩ := ob_some hJ
      exact (wo_X10_isReadKey N t0 h x1 (h.bi a6 x3.toNatClampNeg) e10).tr (wb_X10_precedes_85 N k56 t0 _ _ _ _ _ m56 hJ)
    · have hJ := it_neg c5 hJ
      exact wb_X10_precedes_90 N k56 t0 _ _ _ _ m56 hJ
theorem wl_X10_precedes_56 (N : Nat) (t0 : Nat) : ∀ (n : Nat) (h : Hp) (x1 : Int32) (x2 : Int32) (x3 : Int32), L_X10_precedes_56 N t0 n h x1 x2 x3 = some (hz, rz) → Fw h hz := by
  intro n
  induction n with
  | zero => intro h x1 x2 x3 hJ; cases hJ
  | succ n ih => intro h x1 x2 x3 hJ; exact wb_X10_precedes_56 N (L_X10_precedes_56 N t0 n) t0 h x1 x2 x3 ih hJ
theorem wb_X10_precedes_49 (N : Nat) (t0 : Nat) (h : Hp) (x1 : Int32) (x2 : Int32) (y0 : Int32) (y1 : Int32) (hJ : B_X10_precedes_49 N t0 h x1 x2 y0 y1 = some (hz, rz)) : Fw h hz := by
  unfold B_X10_precedes_49 at hJ
  by_cases c12 : y0 < y1
  · have hJ := it_pos c12 hJ
    exact wl_X10_precedes_56 N t0 N _ _ _ _ hJ
  · have hJ := it_neg c12 hJ
    exact wb_X10_precedes_52 N t0 _ hJ
theorem wb_X10_precedes_20 (N : Nat) (t0 : Nat) (h : Hp) (x1 : Int32) (x2 : Int32) (y0 : Int32) (hJ : B_X10_precedes_20 N t0 h x1 x2 y0 = some (hz, rz)) : Fw h hz := by
  unfold B_X10_precedes_20 at hJ
  by_cases c13 : y0 = 0
  · have hJ := it_pos c13 hJ
    exact wb_X10_precedes_52 N t0 _ hJ
  · have hJ := it_neg c13 hJ
    obtain ⟨a14, ea14, -, hJ⟩ := dr_some hJ
    obtain ⟨-, hJ⟩ := ck_some hJ
    obtain ⟨a16, ea16, -, hJ⟩ := dr_some hJ
    obtain ⟨-, hJ⟩ := ck_some hJ
    by_cases c18 : (h.bi a16 x2.toNatClampNeg) ≤ (h.bi a14 x1.toNatClampNeg)
    · have hJ := it_pos c18 hJ
      exact wb_X10_precedes_52 N t0 _ hJ
    · have hJ := it_neg c18 hJ
      obtain ⟨a19, ea19, -, hJ⟩ := dr_some hJ
      obtain ⟨-, hJ⟩ := ck_some hJ
      obtain ⟨⟨h21, r22⟩, e23, hJ⟩ := ob_some hJ
      exact (wo_X10_endOf N t0 h x1 e23).tr (wb_X10_precedes_49 N t0 _ _ _ _ _ hJ)
theorem wb_X10_precedes_0 (N : Nat) (t0 : Nat) (h : Hp) (x1 : Int32) (x2 : Int32) (hJ : B_X10_precedes_0 N t0 h x1 x2 = some (hz, rz)) : Fw h hz := by
  unfold B_X10_precedes_0 at hJ
  by_cases c25 : x1 = x2
  · have hJ := it_pos c25 hJ
    exact wb_X10_precedes_52 N t0 _ hJ
  · have hJ := it_neg c25 hJ
    obtain ⟨a26, ea26, -, hJ⟩ := dr_some hJ
    obtain ⟨-, hJ⟩ := ck_some hJ
    by_cases c28 : (h.bi a26 x2.toNatClampNeg) = (2 : Int32)
    · have hJ := it_pos c28 hJ
      obtain ⟨⟨h29, r30⟩, e31, hJ⟩ := ob_some hJ
      exact (wo_X10_isIn N t0 h x1 e31).tr (wb_X10_precedes_20 N t0 _ _ _ _ hJ)
    · have hJ := it_neg c28 hJ
      exact wb_X10_precedes_52 N t0 _ hJ
theorem wo_X10_precedes (N : Nat) (t0 : Nat) (h : Hp) (x1 : Int32) (x2 : Int32) (hJ : J_X10_precedes N t0 h x1 x2 = some (hz, rz)) : Fw h hz := wb_X10_precedes_0 N t0 h x1 x2 hJ
end V_X10_precedes
section V_X10_outOf
variable {hz : Hp} {rz : Int32}
theorem wb_X10_outOf_69 (N : Nat) (k4 : Hp → Int32 → Int32 → Int32 → Option (Hp × Int32)) (t0 : Nat) (h : Hp) (x1 : Int32) (x2 : Int32) (x3 : Int32) (m4 : ∀ (h : Hp) (x1 : Int32) (x2 : Int32) (x3 : Int32), k4 h x1 x2 x3 = some (hz, rz) → Fw h hz) (hJ : B_X10_outOf_69 N k4 t0 h x1 x2 x3 = some (hz, rz)) : Fw h hz := by
  unfold B_X10_outOf_69 at hJ
  exact m4 _ _ _ _ hJ
theorem wb_X10_outOf_59 (N : Nat) (k4 : Hp → Int32 → Int32 → Int32 → Option (Hp × Int32)) (t0 : Nat) (h : Hp) (x1 : Int32) (x2 : Int32) (x3 : Int32) (y0 : Int32) (m4 : ∀ (h : Hp) (x1 : Int32) (x2 : Int32) (x3 : Int32), k4 h x1 x2 x3 = some (hz, rz) → Fw h hz) (hJ : B_X10_outOf_59 N k4 t0 h x1 x2 x3 y0 = some (hz, rz)) : Fw h hz := by
  unfold B_X10_outOf_59 at hJ
  by_cases c1 : y0 = 0
  · have hJ := it_pos c1 hJ
    exact wb_X10_outOf_69 N k4 t0 _ _ _ _ m4 hJ
  · have hJ := it_neg c1 hJ
    obtain ⟨a2, ea2, -, hJ⟩ := dr_some hJ
    obtain ⟨-, hJ⟩ := ck_some hJ
    exact wb_X10_outOf_69 N k4 t0 _ _ _ _ m4 hJ
theorem wb_X10_outOf_53 (N : Nat) (k4 : Hp → Int32 → Int32 → Int32 → Option (Hp × Int32)) (t0 : Nat) (h : Hp) (x1 : Int32) (x2 : Int32) (x3 : Int32) (m4 : ∀ (h : Hp) (x1 : Int32) (x2 : Int32) (x3 : Int32), k4 h x1 x2 x3 = some (hz, rz) → Fw h hz) (hJ : B_X10_outOf_53 N k4 t0 h x1 x2 x3 = some (hz, rz)) : Fw h hz := by
  unfold B_X10_outOf_53 at hJ
  obtain ⟨⟨h4, r5⟩, e6, hJ⟩ := ob_some hJ
  exact (wo_X10_precedes N t0 h x1 x3 e6).tr (wb_X10_outOf_59 N k4 t0 _ _ _ _ _ m4 hJ)
theorem wb_X10_outOf_33 (N : Nat) (k4 : Hp → Int32 → Int32 → Int32 → Option (Hp × Int32)) (t0 : Nat) (h : Hp) (x1 : Int32) (x2 : Int32) (x3 : Int32) (y0 : Int32) (y1 : Int32) (m4 : ∀ (h : Hp) (x1 : Int32) (x2 : Int32) (x3 : Int32), k4 h x1 x2 x3 = some (hz, rz) → Fw h hz) (hJ : B_X10_outOf_33 N k4 t0 h x1 x2 x3 y0 y1 = some (hz, rz)) : Fw h hz := by
  unfold B_X10_outOf_33 at hJ
  by_cases c8 : y1 ≤ y0
  · have hJ := it_pos c8 hJ
    exact wb_X10_outOf_69 N k4 t0 _ _ _ _ m4 hJ
  · have hJ := it_neg c8 hJ
    by_cases c9 : x2 ≤ 0
    · have hJ := it_pos c9 hJ
      exact wb_X10_outOf_53 N k4 t0 _ _ _ _ m4 hJ
    · have hJ := it_neg c9 hJ
      obtain ⟨a10, ea10, -, hJ⟩ := dr_some hJ
      obtain ⟨-, hJ⟩ := ck_some hJ
      by_cases c12 : (h.bi a10 x3.toNatClampNeg) < x2
      · have hJ := it_pos c12 hJ
        exact wb_X10_outOf_53 N k4 t0 _ _ _ _ m4 hJ
      · have hJ := it_neg c12 hJ
        exact wb_X10_outOf_69 N k4 t0 _ _ _ _ m4 hJ
theorem wb_X10_outOf_4 (N : Nat) (k4 : Hp → Int32 → Int32 → Int32 → Option (Hp × Int32)) (t0 : Nat) (h : Hp) (x1 : Int32) (x2 : Int32) (x3 : Int32) (m4 : ∀ (h : Hp) (x1 : Int32) (x2 : Int32) (x3 : Int32), k4 h x1 x2 x3 = some (hz, rz) → Fw h hz) (hJ : B_X10_outOf_4 N k4 t0 h x1 x2 x3 = some (hz, rz)) : Fw h hz := by
  unfold B_X10_outOf_4 at hJ
  by_cases c13 : (h.gi 1311 t0) < x3
  · have hJ := it_pos c13 hJ
    obtain ⟨rfl, -⟩ := rs2 hJ
    exact (Fw.rf h)
  · have hJ := it_neg c13 hJ
    obtain ⟨a14, ea14, -, hJ⟩ := dr_some hJ
    obtain ⟨-, hJ⟩ := ck_some hJ
    by_cases c16 : (h.bi a14 x3.toNatClampNeg) = (2 : Int32)
    · have hJ := it_pos c16 hJ
      obtain ⟨a17, ea17, -, hJ⟩ := dr_some hJ
      obtain ⟨-, hJ⟩ := ck_some hJ
      obtain ⟨⟨h19, r20⟩, e21, hJ⟩ := ob_some hJ
      exact (wo_X10_endOf N t0 h x1 e21).tr (wb_X10_outOf_33 N k4 t0 _ _ _ _ _ _ m4 hJ)
    · have hJ := it_neg c16 hJ
      exact wb_X10_outOf_69 N k4 t0 _ _ _ _ m4 hJ
theorem wl_X10_outOf_4 (N : Nat) (t0 : Nat) : ∀ (n : Nat) (h : Hp) (x1 : Int32) (x2 : Int32) (x3 : Int32), L_X10_outOf_4 N t0 n h x1 x2 x3 = some (hz, rz) → Fw h hz := by
  intro n
  induction n with
  | zero => intro h x1 x2 x3 hJ; cases hJ
  | succ n ih => intro h x1 x2 x3 hJ; exact wb_X10_outOf_4 N (L_X10_outOf_4 N t0 n) t0 h x1 x2 x3 ih hJ
theorem wb_X10_outOf_0 (N : Nat) (t0 : Nat) (h : Hp) (x1 : Int32) (hJ : B_X10_outOf_0 N t0 h x1 = some (hz, rz)) : Fw h hz := by
  unfold B_X10_outOf_0 at hJ
  exact wl_X10_outOf_4 N t0 N _ _ _ _ hJ
theorem wo_X10_outOf (N : Nat) (t0 : Nat) (h : Hp) (x1 : Int32) (hJ : J_X10_outOf N t0 h x1 = some (hz, rz)) : Fw h hz := wb_X10_outOf_0 N t0 h x1 hJ
end V_X10_outOf
section V_X10_judgeOne
variable {hz : Hp}
theorem wb_X10_judgeOne_123 (N : Nat) (k7 : Hp → Int32 → Int32 → Int32 → Int32 → Option (Hp × Unit)) (t0 : Nat) (h : Hp) (x1 : Int32) (x2 : Int32) (x3 : Int32) (x4 : Int32) (m7 : ∀ (h : Hp) (x1 : Int32) (x2 : Int32) (x3 : Int32) (x4 : Int32), k7 h x1 x2 x3 x4 = some (hz, ()) → Fw h hz) (hJ : B_X10_judgeOne_123 N k7 t0 h x1 x2 x3 x4 = some (hz, ())) : Fw h hz := by
  unfold B_X10_judgeOne_123 at hJ
  exact m7 _ _ _ _ _ hJ
theorem wb_X10_judgeOne_122 (N : Nat) (k7 : Hp → Int32 → Int32 → Int32 → Int32 → Option (Hp × Unit)) (t0 : Nat) (h : Hp) (x1 : Int32) (x2 : Int32) (x4 : Int32) (y0 : Int32) (m7 : ∀ (h : Hp) (x1 : Int32) (x2 : Int32) (x3 : Int32) (x4 : Int32), k7 h x1 x2 x3 x4 = some (hz, ()) → Fw h hz) (hJ : B_X10_judgeOne_122 N k7 t0 h x1 x2 x4 y0 = some (hz, ())) : Fw h hz := by
  unfold B_X10_judgeOne_122 at hJ
  exact wb_X10_judgeOne_123 N k7 t0 _ _ _ _ _ m7 hJ
theorem wb_X10_judgeOne_117 (N : Nat) (k7 : Hp → Int32 → Int32 → Int32 → Int32 → Option (Hp × Unit)) (t0 : Nat) (h : Hp) (x1 : Int32) (x2 : Int32) (x4 : Int32) (m7 : ∀ (h : Hp) (x1 : Int32) (x2 : Int32) (x3 : Int32) (x4 : Int32), k7 h x1 x2 x3 x4 = some (hz, ()) → Fw h hz) (hJ : B_X10_judgeOne_117 N k7 t0 h x1 x2 x4 = some (hz, ())) : Fw h hz := by
  unfold B_X10_judgeOne_117 at hJ
  exact wb_X10_judgeOne_122 N k7 t0 _ _ _ _ _ m7 hJ
theorem wb_X10_judgeOne_121 (N : Nat) (k7 : Hp → Int32 → Int32 → Int32 → Int32 → Option (Hp × Unit)) (t0 : Nat) (h : Hp) (x1 : Int32) (x2 : Int32) (x4 : Int32) (m7 : ∀ (h : Hp) (x1 : Int32) (x2 : Int32) (x3 : Int32) (x4 : Int32), k7 h x1 x2 x3 x4 = some (hz, ()) → Fw h hz) (hJ : B_X10_judgeOne_121 N k7 t0 h x1 x2 x4 = some (hz, ())) : Fw h hz := by
  unfold B_X10_judgeOne_121 at hJ
  exact wb_X10_judgeOne_122 N k7 t0 _ _ _ _ _ m7 hJ
theorem wb_X10_judgeOne_95 (N : Nat) (k7 : Hp → Int32 → Int32 → Int32 → Int32 → Option (Hp × Unit)) (t0 : Nat) (h : Hp) (x1 : Int32) (x2 : Int32) (x3 : Int32) (x4 : Int32) (y0 : Int32) (m7 : ∀ (h : Hp) (x1 : Int32) (x2 : Int32) (x3 : Int32) (x4 : Int32), k7 h x1 x2 x3 x4 = some (hz, ()) → Fw h hz) (hJ : B_X10_judgeOne_95 N k7 t0 h x1 x2 x3 x4 y0 = some (hz, ())) : Fw h hz := by
  unfold B_X10_judgeOne_95 at hJ
  by_cases c1 : x3 = 0
  · have hJ := it_pos c1 hJ
    by_cases c2 : y0 = 0
    · have hJ := it_pos c2 hJ
      exact wb_X10_judgeOne_121 N k7 t0 _ _ _ _ m7 hJ
    · have hJ := it_neg c2 hJ
      obtain ⟨a3, ea3, -, hJ⟩ := dr_some hJ
      obtain ⟨-, hJ⟩ := ck_some hJ
      by_cases c5 : (h.bi a3 x1.toNatClampNeg) < y0
      · have hJ := it_pos c5 hJ
        exact wb_X10_judgeOne_121 N k7 t0 _ _ _ _ m7 hJ
      · have hJ := it_neg c5 hJ
        exact wb_X10_judgeOne_117 N k7 t0 _ _ _ _ m7 hJ
  · have hJ := it_neg c1 hJ
    exact wb_X10_judgeOne_117 N k7 t0 _ _ _ _ m7 hJ
theorem wb_X10_judgeOne_91 (N : Nat) (k7 : Hp → Int32 → Int32 → Int32 → Int32 → Option (Hp × Unit)) (t0 : Nat) (h : Hp) (x1 : Int32) (x2 : Int32) (x3 : Int32) (x4 : Int32) (y0 : Int32) (m7 : ∀ (h : Hp) (x1 : Int32) (x2 : Int32) (x3 : Int32) (x4 : Int32), k7 h x1 x2 x3 x4 = some (hz, ()) → Fw h hz) (hJ : B_X10_judgeOne_91 N k7 t0 h x1 x2 x3 x4 y0 = some (hz, ())) : Fw h hz := by
  unfold B_X10_judgeOne_91 at hJ
  exact wb_X10_judgeOne_95 N k7 t0 _ _ _ _ _ _ m7 hJ
theorem wb_X10_judgeOne_73 (N : Nat) (k7 : Hp → Int32 → Int32 → Int32 → Int32 → Option (Hp × Unit)) (t0 : Nat) (h : Hp) (x1 : Int32) (x3 : Int32) (x4 : Int32) (y0 : Int32) (m7 : ∀ (h : Hp) (x1 : Int32) (x2 : Int32) (x3 : Int32) (x4 : Int32), k7 h x1 x2 x3 x4 = some (hz, ()) → Fw h hz) (hJ : B_X10_judgeOne_73 N k7 t0 h x1 x3 x4 y0 = some (hz, ())) : Fw h hz := by
  unfold B_X10_judgeOne_73 at hJ
  obtain ⟨a6, ea6, -, hJ⟩ := dr_some hJ
  obtain ⟨-, hJ⟩ := ck_some hJ
  by_cases c8 : (h.bi a6 x4.toNatClampNeg) = (2 : Int32)
  · have hJ := it_pos c8 hJ
    obtain ⟨⟨h9, r10⟩, e11, hJ⟩ := ob_some hJ
    exact (wo_X10_outOf N t0 h x4 e11).tr (wb_X10_judgeOne_91 N k7 t0 _ _ _ _ _ _ m7 hJ)
  · have hJ := it_neg c8 hJ
    exact wb_X10_judgeOne_95 N k7 t0 _ _ _ _ _ _ m7 hJ
theorem wb_X10_judgeOne_68 (N : Nat) (k7 : Hp → Int32 → Int32 → Int32 → Int32 → Option (Hp × Unit)) (t0 : Nat) (h : Hp) (x1 : Int32) (x3 : Int32) (x4 : Int32) (m7 : ∀ (h : Hp) (x1 : Int32) (x2 : Int32) (x3 : Int32) (x4 : Int32), k7 h x1 x2 x3 x4 = some (hz, ()) → Fw h hz) (hJ : B_X10_judgeOne_68 N k7 t0 h x1 x3 x4 = some (hz, ())) : Fw h hz := by
  unfold B_X10_judgeOne_68 at hJ
  exact wb_X10_judgeOne_73 N k7 t0 _ _ _ _ _ m7 hJ
theorem wb_X10_judgeOne_53 (N : Nat) (k7 : Hp → Int32 → Int32 → Int32 → Int32 → Option (Hp × Unit)) (t0 : Nat) (h : Hp) (x1 : Int32) (x2 : Int32) (x3 : Int32) (x4 : Int32) (m7 : ∀ (h : Hp) (x1 : Int32) (x2 : Int32) (x3 : Int32) (x4 : Int32), k7 h x1 x2 x3 x4 = some (hz, ()) → Fw h hz) (hJ : B_X10_judgeOne_53 N k7 t0 h x1 x2 x3 x4 = some (hz, ())) : Fw h hz := by
  unfold B_X10_judgeOne_53 at hJ
  by_cases c13 : x2 = 0
  · have hJ := it_pos c13 hJ
    obtain ⟨a14, ea14, -, hJ⟩ := dr_some hJ
    obtain ⟨-, hJ⟩ := ck_some hJ
    by_cases c16 : (h.bi a14 x4.toNatClampNeg) = (1 : Int32)
    · have hJ := it_pos c16 hJ
      exact wb_X10_judgeOne_68 N k7 t0 _ _ _ _ m7 hJ
    · have hJ := it_neg c16 hJ
      exact wb_X10_judgeOne_73 N k7 t0 _ _ _ _ _ m7 hJ
  · have hJ := it_neg c13 hJ
    exact wb_X10_judgeOne_68 N k7 t0 _ _ _ _ m7 hJ
theorem wb_X10_judgeOne_151 (N : Nat) (t0 : Nat) (h : Hp) (y0 : Option Nat) (y1 : Int32) (y2 : Int32) (hJ : B_X10_judgeOne_151 N t0 h y0 y1 y2 = some (hz, ())) : Fw h hz := by
  unfold B_X10_judgeOne_151 at hJ
  obtain ⟨a17, ea17, -, hJ⟩ := dr_some hJ
  obtain ⟨-, hJ⟩ := ck_some hJ
  obtain ⟨rfl, -⟩ := rs2 hJ
  exact (Fw.rf h)
theorem wb_X10_judgeOne_7 (N : Nat) (k7 : Hp → Int32 → Int32 → Int32 → Int32 → Option (Hp × Unit)) (t0 : Nat) (h : Hp) (x1 : Int32) (x2 : Int32) (x3 : Int32) (x4 : Int32) (m7 : ∀ (h : Hp) (x1 : Int32) (x2 : Int32) (x3 : Int32) (x4 : Int32), k7 h x1 x2 x3 x4 = some (hz, ()) → Fw h hz) (hJ : B_X10_judgeOne_7 N k7 t0 h x1 x2 x3 x4 = some (hz, ())) : Fw h hz := by
  unfold B_X10_judgeOne_7 at hJ
  by_cases c19 : x1 ≤ x4
  · have hJ := it_pos c19 hJ
    by_cases c20 : x3 = 0
    · have hJ := it_pos c20 hJ
      by_cases c21 : x2 = 0
      · have hJ := it_pos c21 hJ
        exact wb_X10_judgeOne_151 N t0 _ _ _ _ hJ
      · have hJ := it_neg c21 hJ
        exact wb_X10_judgeOne_151 N t0 _ _ _ _ hJ
    · have hJ := it_neg c20 hJ
      exact wb_X10_judgeOne_151 N t0 _ _ _ _ hJ
  · have hJ := it_neg c19 hJ
    obtain ⟨a22, ea22, -, hJ⟩ := dr_some hJ
    obtain ⟨-, hJ⟩ := ck_some hJ
    by_cases c24 : (h.bi a22 x4.toNatClampNeg) = 0
    · have hJ := it_pos c24 hJ
      obtain ⟨a25, ea25, -, hJ⟩ := dr_some hJ
      obtain ⟨-, hJ⟩ := ck_some hJ
      by_cases c27 : (h.bi a25 x4.toNatClampNeg) = (1 : Int32)
      · have hJ := it_pos c27 hJ
        exact wb_X10_judgeOne_53 N k7 t0 _ _ _ _ _ m7 hJ
      · have hJ := it_neg c27 hJ
        obtain ⟨a28, ea28, -, hJ⟩ := dr_some hJ
        obtain ⟨-, hJ⟩ := ck_some hJ
        obtain ⟨a30, ea30, -, hJ⟩ := dr_some hJ
        obtain ⟨-, hJ⟩ := ck_some hJ
        by_cases c32 : (h.bi a30 x1.toNatClampNeg) ≤ (h.bi a28 x4.toNatClampNeg)
        · have hJ := it_pos c32 hJ
          exact wb_X10_judgeOne_53 N k7 t0 _ _ _ _ _ m7 hJ
        · have hJ := it_neg c32 hJ
          exact wb_X10_judgeOne_123 N k7 t0 _ _ _ _ _ m7 hJ
    · have hJ := it_neg c24 hJ
      exact wb_X10_judgeOne_123 N k7 t0 _ _ _ _ _ m7 hJ
theorem wl_X10_judgeOne_7 (N : Nat) (t0 : Nat) : ∀ (n : Nat) (h : Hp) (x1 : Int32) (x2 : Int32) (x3 : Int32) (x4 : Int32), L_X10_judgeOne_7 N t0 n h x1 x2 x3 x4 = some (hz, ()) → Fw h hz := by
  intro n
  induction n with
  | zero => intro h x1 x2 x3 x4 hJ; cases hJ
  | succ n ih => intro h x1 x2 x3 x4 hJ; exact wb_X10_judgeOne_7 N (L_X10_judgeOne_7 N t0 n) t0 h x1 x2 x3 x4 ih hJ
theorem wb_X10_judgeOne_0 (N : Nat) (t0 : Nat) (h : Hp) (x1 : Int32) (hJ : B_X10_judgeOne_0 N t0 h x1 = some (hz, ())) : Fw h hz := by
  unfold B_X10_judgeOne_0 at hJ
  exact wl_X10_judgeOne_7 N t0 N _ _ _ _ _ hJ
theorem wo_X10_judgeOne (N : Nat) (t0 : Nat) (h : Hp) (x1 : Int32) (hJ : J_X10_judgeOne N t0 h x1 = some (hz, ())) : Fw h hz := wb_X10_judgeOne_0 N t0 h x1 hJ
end V_X10_judgeOne
