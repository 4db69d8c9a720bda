/-! the reference: its arrays lie at M + 1 .. M + 46 -/
def rtab : List (Nat × Nat × Nat × Nat) := [(1301, 1, 30, 514), (1302, 2, 32, 514), (1303, 3, 30, 514), (1304, 4, 30, 514), (1305, 5, 30, 514), (1306, 6, 30, 514), (1307, 7, 30, 514), (1308, 8, 32, 514), (1309, 9, 30, 514), (1310, 10, 30, 5140), (1314, 11, 30, 514), (1315, 12, 30, 514), (1316, 13, 31, 514), (1317, 14, 32, 514), (1318, 15, 32, 514), (1320, 16, 30, 514), (1321, 17, 30, 514), (1322, 18, 30, 514), (1324, 19, 30, 514), (1325, 20, 30, 514), (1326, 21, 31, 514), (1327, 22, 32, 514), (1329, 23, 30, 514), (1330, 24, 30, 514), (1331, 25, 30, 514), (1332, 26, 30, 514), (1333, 27, 30, 514), (1334, 28, 31, 514), (1335, 29, 30, 514), (1336, 30, 30, 514), (1337, 31, 31, 514), (1338, 32, 30, 514), (1340, 33, 30, 42000), (1341, 34, 31, 42000), (1352, 35, 30, 514), (1354, 36, 30, 514), (1355, 37, 30, 514), (1356, 38, 31, 4626), (1357, 39, 31, 4626), (1358, 40, 32, 514), (1359, 41, 31, 514), (1360, 42, 30, 514), (1361, 43, 31, 514), (1362, 44, 32, 514), (1364, 45, 30, 10), (1366, 46, 32, 514)]
def Rk (h : Hp) (M : Nat) : Prop := h.kd M = 13 ∧ ∀ x ∈ rtab, h.gr x.1 M = some (M + x.2.1) ∧ h.kd (M + x.2.1) = x.2.2.1 ∧ h.al (M + x.2.1) = x.2.2.2
theorem rt_1301 : (1301, 1, 30, 514) ∈ rtab := by decide
theorem rd_1301 {β : Type} {h : Hp} {M : Nat} (q : Rk h M) (F : Nat → Option β) : dr h 30 (h.gr 1301 M) F = F (M + 1) := dr_e (q.2 _ rt_1301).1 (q.2 _ rt_1301).2.1
theorem ra_1301 {h : Hp} {M : Nat} (q : Rk h M) : h.al (M + 1) = 514 := (q.2 _ rt_1301).2.2
theorem rx_1301 {β : Type} {h : Hp} {M i : Nat} (q : Rk h M) (hi : i < 514) (x : Option β) [Decidable (¬ (nI i < 0 ∨ h.al (M + 1) ≤ (nI i).toNatClampNeg))] : ck (¬ (nI i < 0 ∨ h.al (M + 1) ≤ (nI i).toNatClampNeg)) x = x := ck_eq (by rw [ra_1301 q]; exact ix_ok hi (by decide))
theorem ry_1301 {β : Type} {h : Hp} {M i : Nat} (q : Rk h M) (hi : i < 514) (x : Option β) [Decidable (¬ (nI i < 0 ∨ h.al (M + 1) ≤ i))] : ck (¬ (nI i < 0 ∨ h.al (M + 1) ≤ i)) x = x := ck_eq (by rw [ra_1301 q]; exact ix_ok2 hi (by decide))
theorem rt_1302 : (1302, 2, 32, 514) ∈ rtab := by decide
theorem rd_1302 {β : Type} {h : Hp} {M : Nat} (q : Rk h M) (F : Nat → Option β) : dr h 32 (h.gr 1302 M) F = F (M + 2) := dr_e (q.2 _ rt_1302).1 (q.2 _ rt_1302).2.1
theorem ra_1302 {h : Hp} {M : Nat} (q : Rk h M) : h.al (M + 2) = 514 := (q.2 _ rt_1302).2.2
theorem rx_1302 {β : Type} {h : Hp} {M i : Nat} (q : Rk h M) (hi : i < 514) (x : Option β) [Decidable (¬ (nI i < 0 ∨ h.al (M + 2) ≤ (nI i).toNatClampNeg))] : ck (¬ (nI i < 0 ∨ h.al (M + 2) ≤ (nI i).toNatClampNeg)) x = x := ck_eq (by rw [ra_1302 q]; exact ix_ok hi (by decide))
theorem ry_1302 {β : Type} {h : Hp} {M i : Nat} (q : Rk h M) (hi : i < 514) (x : Option β) [Decidable (¬ (nI i < 0 ∨ h.al (M + 2) ≤ i))] : ck (¬ (nI i < 0 ∨ h.al (M + 2) ≤ i)) x = x := ck_eq (by rw [ra_1302 q]; exact ix_ok2 hi (by decide))
theorem rt_1303 : (1303, 3, 30, 514) ∈ rtab := by decide
theorem rd_1303 {β : Type} {h : Hp} {M : Nat} (q : Rk h M) (F : Nat → Option β) : dr h 30 (h.gr 1303 M) F = F (M + 3) := dr_e (q.2 _ rt_1303).1 (q.2 _ rt_1303).2.1
theorem ra_1303 {h : Hp} {M : Nat} (q : Rk h M) : h.al (M + 3) = 514 := (q.2 _ rt_1303).2.2
theorem rx_1303 {β : Type} {h : Hp} {M i : Nat} (q : Rk h M) (hi : i < 514) (x : Option β) [Decidable (¬ (nI i < 0 ∨ h.al (M + 3) ≤ (nI i).toNatClampNeg))] : ck (¬ (nI i < 0 ∨ h.al (M + 3) ≤ (nI i).toNatClampNeg)) x = x := ck_eq (by rw [ra_1303 q]; exact ix_ok hi (by decide))
theorem ry_1303 {β : Type} {h : Hp} {M i : Nat} (q : Rk h M) (hi : i < 514) (x : Option β) [Decidable (¬ (nI i < 0 ∨ h.al (M + 3) ≤ i))] : ck (¬ (nI i < 0 ∨ h.al (M + 3) ≤ i)) x = x := ck_eq (by rw [ra_1303 q]; exact ix_ok2 hi (by decide))
theorem rt_1304 : (1304, 4, 30, 514) ∈ rtab := by decide
theorem rd_1304 {β : Type} {h : Hp} {M : Nat} (q : Rk h M) (F : Nat → Option β) : dr h 30 (h.gr 1304 M) F = F (M + 4) := dr_e (q.2 _ rt_1304).1 (q.2 _ rt_1304).2.1
theorem ra_1304 {h : Hp} {M : Nat} (q : Rk h M) : h.al (M + 4) = 514 := (q.2 _ rt_1304).2.2
theorem rx_1304 {β : Type} {h : Hp} {M i : Nat} (q : Rk h M) (hi : i < 514) (x : Option β) [Decidable (¬ (nI i < 0 ∨ h.al (M + 4) ≤ (nI i).toNatClampNeg))] : ck (¬ (nI i < 0 ∨ h.al (M + 4) ≤ (nI i).toNatClampNeg)) x = x := ck_eq (by rw [ra_1304 q]; exact ix_ok hi (by decide))
theorem ry_1304 {β : Type} {h : Hp} {M i : Nat} (q : Rk h M) (hi : i < 514) (x : Option β) [Decidable (¬ (nI i < 0 ∨ h.al (M + 4) ≤ i))] : ck (¬ (nI i < 0 ∨ h.al (M + 4) ≤ i)) x = x := ck_eq (by rw [ra_1304 q]; exact ix_ok2 hi (by decide))
theorem rt_1305 : (1305, 5, 30, 514) ∈ rtab := by decide
theorem rd_1305 {β : Type} {h : Hp} {M : Nat} (q : Rk h M) (F : Nat → Option β) : dr h 30 (h.gr 1305 M) F = F (M + 5) := dr_e (q.2 _ rt_1305).1 (q.2 _ rt_1305).2.1
theorem ra_1305 {h : Hp} {M : Nat} (q : Rk h M) : h.al (M + 5) = 514 := (q.2 _ rt_1305).2.2
theorem rx_1305 {β : Type} {h : Hp} {M i : Nat} (q : Rk h M) (hi : i < 514) (x : Option β) [Decidable (¬ (nI i < 0 ∨ h.al (M + 5) ≤ (nI i).toNatClampNeg))] : ck (¬ (nI i < 0 ∨ h.al (M + 5) ≤ (nI i).toNatClampNeg)) x = x := ck_eq (by rw [ra_1305 q]; exact ix_ok hi (by decide))
theorem ry_1305 {β : Type} {h : Hp} {M i : Nat} (q : Rk h M) (hi : i < 514) (x : Option β) [Decidable (¬ (nI i < 0 ∨ h.al (M + 5) ≤ i))] : ck (¬ (nI i < 0 ∨ h.al (M + 5) ≤ i)) x = x := ck_eq (by rw [ra_1305 q]; exact ix_ok2 hi (by decide))
theorem rt_1306 : (1306, 6, 30, 514) ∈ rtab := by decide
theorem rd_1306 {β : Type} {h : Hp} {M : Nat} (q : Rk h M) (F : Nat → Option β) : dr h 30 (h.gr 1306 M) F = F (M + 6) := dr_e (q.2 _ rt_1306).1 (q.2 _ rt_1306).2.1
theorem ra_1306 {h : Hp} {M : Nat} (q : Rk h M) : h.al (M + 6) = 514 := (q.2 _ rt_1306).2.2
theorem rx_1306 {β : Type} {h : Hp} {M i : Nat} (q : Rk h M) (hi : i < 514) (x : Option β) [Decidable (¬ (nI i < 0 ∨ h.al (M + 6) ≤ (nI i).toNatClampNeg))] : ck (¬ (nI i < 0 ∨ h.al (M + 6) ≤ (nI i).toNatClampNeg)) x = x := ck_eq (by rw [ra_1306 q]; exact ix_ok hi (by decide))
theorem ry_1306 {β : Type} {h : Hp} {M i : Nat} (q : Rk h M) (hi : i < 514) (x : Option β) [Decidable (¬ (nI i < 0 ∨ h.al (M + 6) ≤ i))] : ck (¬ (nI i < 0 ∨ h.al (M + 6) ≤ i)) x = x := ck_eq (by rw [ra_1306 q]; exact ix_ok2 hi (by decide))
theorem rt_1307 : (1307, 7, 30, 514) ∈ rtab := by decide
theorem rd_1307 {β : Type} {h : Hp} {M : Nat} (q : Rk h M) (F : Nat → Option β) : dr h 30 (h.gr 1307 M) F = F (M + 7) := dr_e (q.2 _ rt_1307).1 (q.2 _ rt_1307).2.1
theorem ra_1307 {h : Hp} {M : Nat} (q : Rk h M) : h.al (M + 7) = 514 := (q.2 _ rt_1307).2.2
theorem rx_1307 {β : Type} {h : Hp} {M i : Nat} (q : Rk h M) (hi : i < 514) (x : Option β) [Decidable (¬ (nI i < 0 ∨ h.al (M + 7) ≤ (nI i).toNatClampNeg))] : ck (¬ (nI i < 0 ∨ h.al (M + 7) ≤ (nI i).toNatClampNeg)) x = x := ck_eq (by rw [ra_1307 q]; exact ix_ok hi (by decide))
theorem ry_1307 {β : Type} {h : Hp} {M i : Nat} (q : Rk h M) (hi : i < 514) (x : Option β) [Decidable (¬ (nI i < 0 ∨ h.al (M + 7) ≤ i))] : ck (¬ (nI i < 0 ∨ h.al (M + 7) ≤ i)) x = x := ck_eq (by rw [ra_1307 q]; exact ix_ok2 hi (by decide))
theorem rt_1308 : (1308, 8, 32, 514) ∈ rtab := by decide
theorem rd_1308 {β : Type} {h : Hp} {M : Nat} (q : Rk h M) (F : Nat → Option β) : dr h 32 (h.gr 1308 M) F = F (M + 8) := dr_e (q.2 _ rt_1308).1 (q.2 _ rt_1308).2.1
theorem ra_1308 {h : Hp} {M : Nat} (q : Rk h M) : h.al (M + 8) = 514 := (q.2 _ rt_1308).2.2
theorem rx_1308 {β : Type} {h : Hp} {M i : Nat} (q : Rk h M) (hi : i < 514) (x : Option β) [Decidable (¬ (nI i < 0 ∨ h.al (M + 8) ≤ (nI i).toNatClampNeg))] : ck (¬ (nI i < 0 ∨ h.al (M + 8) ≤ (nI i).toNatClampNeg)) x = x := ck_eq (by rw [ra_1308 q]; exact ix_ok hi (by decide))
theorem ry_1308 {β : Type} {h : Hp} {M i : Nat} (q : Rk h M) (hi : i < 514) (x : Option β) [Decidable (¬ (nI i < 0 ∨ h.al (M + 8) ≤ i))] : ck (¬ (nI i < 0 ∨ h.al (M + 8) ≤ i)) x = x := ck_eq (by rw [ra_1308 q]; exact ix_ok2 hi (by decide))
theorem rt_1309 : (1309, 9, 30, 514) ∈ rtab := by decide
theorem rd_1309 {β : Type} {h : Hp} {M : Nat} (q : Rk h M) (F : Nat → Option β) : dr h 30 (h.gr 1309 M) F = F (M + 9) := dr_e (q.2 _ rt_1309).1 (q.2 _ rt_1309).2.1
theorem ra_1309 {h : Hp} {M : Nat} (q : Rk h M) : h.al (M + 9) = 514 := (q.2 _ rt_1309).2.2
theorem rx_1309 {β : Type} {h : Hp} {M i : Nat} (q : Rk h M) (hi : i < 514) (x : Option β) [Decidable (¬ (nI i < 0 ∨ h.al (M + 9) ≤ (nI i).toNatClampNeg))] : ck (¬ (nI i < 0 ∨ h.al (M + 9) ≤ (nI i).toNatClampNeg)) x = x := ck_eq (by rw [ra_1309 q]; exact ix_ok hi (by decide))
theorem ry_1309 {β : Type} {h : Hp} {M i : Nat} (q : Rk h M) (hi : i < 514) (x : Option β) [Decidable (¬ (nI i < 0 ∨ h.al (M + 9) ≤ i))] : ck (¬ (nI i < 0 ∨ h.al (M + 9) ≤ i)) x = x := ck_eq (by rw [ra_1309 q]; exact ix_ok2 hi (by decide))
theorem rt_1310 : (1310, 10, 30, 5140) ∈ rtab := by decide
theorem rd_1310 {β : Type} {h : Hp} {M : Nat} (q : Rk h M) (F : Nat → Option β) : dr h 30 (h.gr 1310 M) F = F (M + 10) := dr_e (q.2 _ rt_1310).1 (q.2 _ rt_1310).2.1
theorem ra_1310 {h : Hp} {M : Nat} (q : Rk h M) : h.al (M + 10) = 5140 := (q.2 _ rt_1310).2.2
theorem rx_1310 {β : Type} {h : Hp} {M i : Nat} (q : Rk h M) (hi : i < 5140) (x : Option β) [Decidable (¬ (nI i < 0 ∨ h.al (M + 10) ≤ (nI i).toNatClampNeg))] : ck (¬ (nI i < 0 ∨ h.al (M + 10) ≤ (nI i).toNatClampNeg)) x = x := ck_eq (by rw [ra_1310 q]; exact ix_ok hi (by decide))
theorem ry_1310 {β : Type} {h : Hp} {M i : Nat} (q : Rk h M) (hi : i < 5140) (x : Option β) [Decidable (¬ (nI i < 0 ∨ h.al (M + 10) ≤ i))] : ck (¬ (nI i < 0 ∨ h.al (M + 10) ≤ i)) x = x := ck_eq (by rw [ra_1310 q]; exact ix_ok2 hi (by decide))
theorem rt_1314 : (1314, 11, 30, 514) ∈ rtab := by decide
theorem rd_1314 {β : Type} {h : Hp} {M : Nat} (q : Rk h M) (F : Nat → Option β) : dr h 30 (h.gr 1314 M) F = F (M + 11) := dr_e (q.2 _ rt_1314).1 (q.2 _ rt_1314).2.1
theorem ra_1314 {h : Hp} {M : Nat} (q : Rk h M) : h.al (M + 11) = 514 := (q.2 _ rt_1314).2.2
theorem rx_1314 {β : Type} {h : Hp} {M i : Nat} (q : Rk h M) (hi : i < 514) (x : Option β) [Decidable (¬ (nI i < 0 ∨ h.al (M + 11) ≤ (nI i).toNatClampNeg))] : ck (¬ (nI i < 0 ∨ h.al (M + 11) ≤ (nI i).toNatClampNeg)) x = x := ck_eq (by rw [ra_1314 q]; exact ix_ok hi (by decide))
theorem ry_1314 {β : Type} {h : Hp} {M i : Nat} (q : Rk h M) (hi : i < 514) (x : Option β) [Decidable (¬ (nI i < 0 ∨ h.al (M + 11) ≤ i))] : ck (¬ (nI i < 0 ∨ h.al (M + 11) ≤ i)) x = x := ck_eq (by rw [ra_1314 q]; exact ix_ok2 hi (by decide))
theorem rt_1315 : (1315, 12, 30, 514) ∈ rtab := by decide
theorem rd_1315 {β : Type} {h : Hp} {M : Nat} (q : Rk h M) (F : Nat → Option β) : dr h 30 (h.gr 1315 M) F = F (M + 12) := dr_e (q.2 _ rt_1315).1 (q.2 _ rt_1315).2.1
theorem ra_1315 {h : Hp} {M : Nat} (q : Rk h M) : h.al (M + 12) = 514 := (q.2 _ rt_1315).2.2
theorem rx_1315 {β : Type} {h : Hp} {M i : Nat} (q : Rk h M) (hi : i < 514) (x : Option β) [Decidable (¬ (nI i < 0 ∨ h.al (M + 12) ≤ (nI i).toNatClampNeg))] : ck (¬ (nI i < 0 ∨ h.al (M + 12) ≤ (nI i).toNatClampNeg)) x = x := ck_eq (by rw [ra_1315 q]; exact ix_ok hi (by decide))
theorem ry_1315 {β : Type} {h : Hp} {M i : Nat} (q : Rk h M) (hi : i < 514) (x : Option β) [Decidable (¬ (nI i < 0 ∨ h.al (M + 12) ≤ i))] : ck (¬ (nI i < 0 ∨ h.al (M + 12) ≤ i)) x = x := ck_eq (by rw [ra_1315 q]; exact ix_ok2 hi (by decide))
theorem rt_1316 : (1316, 13, 31, 514) ∈ rtab := by decide
theorem rd_1316 {β : Type} {h : Hp} {M : Nat} (q : Rk h M) (F : Nat → Option β) : dr h 31 (h.gr 1316 M) F = F (M + 13) := dr_e (q.2 _ rt_1316).1 (q.2 _ rt_1316).2.1
theorem ra_1316 {h : Hp} {M : Nat} (q : Rk h M) : h.al (M + 13) = 514 := (q.2 _ rt_1316).2.2
theorem rx_1316 {β : Type} {h : Hp} {M i : Nat} (q : Rk h M) (hi : i < 514) (x : Option β) [Decidable (¬ (nI i < 0 ∨ h.al (M + 13) ≤ (nI i).toNatClampNeg))] : ck (¬ (nI i < 0 ∨ h.al (M + 13) ≤ (nI i).toNatClampNeg)) x = x := ck_eq (by rw [ra_1316 q]; exact ix_ok hi (by decide))
theorem ry_1316 {β : Type} {h : Hp} {M i : Nat} (q : Rk h M) (hi : i < 514) (x : Option β) [Decidable (¬ (nI i < 0 ∨ h.al (M + 13) ≤ i))] : ck (¬ (nI i < 0 ∨ h.al (M + 13) ≤ i)) x = x := ck_eq (by rw [ra_1316 q]; exact ix_ok2 hi (by decide))
theorem rt_1317 : (1317, 14, 32, 514) ∈ rtab := by decide
theorem rd_1317 {β : Type} {h : Hp} {M : Nat} (q : Rk h M) (F : Nat → Option β) : dr h 32 (h.gr 1317 M) F = F (M + 14) := dr_e (q.2 _ rt_1317).1 (q.2 _ rt_1317).2.1
theorem ra_1317 {h : Hp} {M : Nat} (q : Rk h M) : h.al (M + 14) = 514 := (q.2 _ rt_1317).2.2
theorem rx_1317 {β : Type} {h : Hp} {M i : Nat} (q : Rk h M) (hi : i < 514) (x : Option β) [Decidable (¬ (nI i < 0 ∨ h.al (M + 14) ≤ (nI i).toNatClampNeg))] : ck (¬ (nI i < 0 ∨ h.al (M + 14) ≤ (nI i).toNatClampNeg)) x = x := ck_eq (by rw [ra_1317 q]; exact ix_ok hi (by decide))
theorem ry_1317 {β : Type} {h : Hp} {M i : Nat} (q : Rk h M) (hi : i < 514) (x : Option β) [Decidable (¬ (nI i < 0 ∨ h.al (M + 14) ≤ i))] : ck (¬ (nI i < 0 ∨ h.al (M + 14) ≤ i)) x = x := ck_eq (by rw [ra_1317 q]; exact ix_ok2 hi (by decide))
theorem rt_1318 : (1318, 15, 32, 514) ∈ rtab := by decide
theorem rd_1318 {β : Type} {h : Hp} {M : Nat} (q : Rk h M) (F : Nat → Option β) : dr h 32 (h.gr 1318 M) F = F (M + 15) := dr_e (q.2 _ rt_1318).1 (q.2 _ rt_1318).2.1
theorem ra_1318 {h : Hp} {M : Nat} (q : Rk h M) : h.al (M + 15) = 514 := (q.2 _ rt_1318).2.2
theorem rx_1318 {β : Type} {h : Hp} {M i : Nat} (q : Rk h M) (hi : i < 514) (x : Option β) [Decidable (¬ (nI i < 0 ∨ h.al (M + 15) ≤ (nI i).toNatClampNeg))] : ck (¬ (nI i < 0 ∨ h.al (M + 15) ≤ (nI i).toNatClampNeg)) x = x := ck_eq (by rw [ra_1318 q]; exact ix_ok hi (by decide))
theorem ry_1318 {β : Type} {h : Hp} {M i : Nat} (q : Rk h M) (hi : i < 514) (x : Option β) [Decidable (¬ (nI i < 0 ∨ h.al (M + 15) ≤ i))] : ck (¬ (nI i < 0 ∨ h.al (M + 15) ≤ i)) x = x := ck_eq (by rw [ra_1318 q]; exact ix_ok2 hi (by decide))
theorem rt_1320 : (1320, 16, 30, 514) ∈ rtab := by decide
theorem rd_1320 {β : Type} {h : Hp} {M : Nat} (q : Rk h M) (F : Nat → Option β) : dr h 30 (h.gr 1320 M) F = F (M + 16) := dr_e (q.2 _ rt_1320).1 (q.2 _ rt_1320).2.1
theorem ra_1320 {h : Hp} {M : Nat} (q : Rk h M) : h.al (M + 16) = 514 := (q.2 _ rt_1320).2.2
theorem rx_1320 {β : Type} {h : Hp} {M i : Nat} (q : Rk h M) (hi : i < 514) (x : Option β) [Decidable (¬ (nI i < 0 ∨ h.al (M + 16) ≤ (nI i).toNatClampNeg))] : ck (¬ (nI i < 0 ∨ h.al (M + 16) ≤ (nI i).toNatClampNeg)) x = x := ck_eq (by rw [ra_1320 q]; exact ix_ok hi (by decide))
theorem ry_1320 {β : Type} {h : Hp} {M i : Nat} (q : Rk h M) (hi : i < 514) (x : Option β) [Decidable (¬ (nI i < 0 ∨ h.al (M + 16) ≤ i))] : ck (¬ (nI i < 0 ∨ h.al (M + 16) ≤ i)) x = x := ck_eq (by rw [ra_1320 q]; exact ix_ok2 hi (by decide))
theorem rt_1321 : (1321, 17, 30, 514) ∈ rtab := by decide
theorem rd_1321 {β : Type} {h : Hp} {M : Nat} (q : Rk h M) (F : Nat → Option β) : dr h 30 (h.gr 1321 M) F = F (M + 17) := dr_e (q.2 _ rt_1321).1 (q.2 _ rt_1321).2.1
theorem ra_1321 {h : Hp} {M : Nat} (q : Rk h M) : h.al (M + 17) = 514 := (q.2 _ rt_1321).2.2
theorem rx_1321 {β : Type} {h : Hp} {M i : Nat} (q : Rk h M) (hi : i < 514) (x : Option β) [Decidable (¬ (nI i < 0 ∨ h.al (M + 17) ≤ (nI i).toNatClampNeg))] : ck (¬ (nI i < 0 ∨ h.al (M + 17) ≤ (nI i).toNatClampNeg)) x = x := ck_eq (by rw [ra_1321 q]; exact ix_ok hi (by decide))
theorem ry_1321 {β : Type} {h : Hp} {M i : Nat} (q : Rk h M) (hi : i < 514) (x : Option β) [Decidable (¬ (nI i < 0 ∨ h.al (M + 17) ≤ i))] : ck (¬ (nI i < 0 ∨ h.al (M + 17) ≤ i)) x = x := ck_eq (by rw [ra_1321 q]; exact ix_ok2 hi (by decide))
theorem rt_1322 : (1322, 18, 30, 514) ∈ rtab := by decide
theorem rd_1322 {β : Type} {h : Hp} {M : Nat} (q : Rk h M) (F : Nat → Option β) : dr h 30 (h.gr 1322 M) F = F (M + 18) := dr_e (q.2 _ rt_1322).1 (q.2 _ rt_1322).2.1
theorem ra_1322 {h : Hp} {M : Nat} (q : Rk h M) : h.al (M + 18) = 514 := (q.2 _ rt_1322).2.2
theorem rx_1322 {β : Type} {h : Hp} {M i : Nat} (q : Rk h M) (hi : i < 514) (x : Option β) [Decidable (¬ (nI i < 0 ∨ h.al (M + 18) ≤ (nI i).toNatClampNeg))] : ck (¬ (nI i < 0 ∨ h.al (M + 18) ≤ (nI i).toNatClampNeg)) x = x := ck_eq (by rw [ra_1322 q]; exact ix_ok hi (by decide))
theorem ry_1322 {β : Type} {h : Hp} {M i : Nat} (q : Rk h M) (hi : i < 514) (x : Option β) [Decidable (¬ (nI i < 0 ∨ h.al (M + 18) ≤ i))] : ck (¬ (nI i < 0 ∨ h.al (M + 18) ≤ i)) x = x := ck_eq (by rw [ra_1322 q]; exact ix_ok2 hi (by decide))
theorem rt_1324 : (1324, 19, 30, 514) ∈ rtab := by decide
theorem rd_1324 {β : Type} {h : Hp} {M : Nat} (q : Rk h M) (F : Nat → Option β) : dr h 30 (h.gr 1324 M) F = F (M + 19) := dr_e (q.2 _ rt_1324).1 (q.2 _ rt_1324).2.1
theorem ra_1324 {h : Hp} {M : Nat} (q : Rk h M) : h.al (M + 19) = 514 := (q.2 _ rt_1324).2.2
theorem rx_1324 {β : Type} {h : Hp} {M i : Nat} (q : Rk h M) (hi : i < 514) (x : Option β) [Decidable (¬ (nI i < 0 ∨ h.al (M + 19) ≤ (nI i).toNatClampNeg))] : ck (¬ (nI i < 0 ∨ h.al (M + 19) ≤ (nI i).toNatClampNeg)) x = x := ck_eq (by rw [ra_1324 q]; exact ix_ok hi (by decide))
theorem ry_1324 {β : Type} {h : Hp} {M i : Nat} (q : Rk h M) (hi : i < 514) (x : Option β) [Decidable (¬ (nI i < 0 ∨ h.al (M + 19) ≤ i))] : ck (¬ (nI i < 0 ∨ h.al (M + 19) ≤ i)) x = x := ck_eq (by rw [ra_1324 q]; exact ix_ok2 hi (by decide))
theorem rt_1325 : (1325, 20, 30, 514) ∈ rtab := by decide
theorem rd_1325 {β : Type} {h : Hp} {M : Nat} (q : Rk h M) (F : Nat → Option β) : dr h 30 (h.gr 1325 M) F = F (M + 20) := dr_e (q.2 _ rt_1325).1 (q.2 _ rt_1325).2.1
theorem ra_1325 {h : Hp} {M : Nat} (q : Rk h M) : h.al (M + 20) = 514 := (q.2 _ rt_1325).2.2
theorem rx_1325 {β : Type} {h : Hp} {M i : Nat} (q : Rk h M) (hi : i < 514) (x : Option β) [Decidable (¬ (nI i < 0 ∨ h.al (M + 20) ≤ (nI i).toNatClampNeg))] : ck (¬ (nI i < 0 ∨ h.al (M + 20) ≤ (nI i).toNatClampNeg)) x = x := ck_eq (by rw [ra_1325 q]; exact ix_ok hi (by decide))
theorem ry_1325 {β : Type} {h : Hp} {M i : Nat} (q : Rk h M) (hi : i < 514) (x : Option β) [Decidable (¬ (nI i < 0 ∨ h.al (M + 20) ≤ i))] : ck (¬ (nI i < 0 ∨ h.al (M + 20) ≤ i)) x = x := ck_eq (by rw [ra_1325 q]; exact ix_ok2 hi (by decide))
theorem rt_1326 : (1326, 21, 31, 514) ∈ rtab := by decide
theorem rd_1326 {β : Type} {h : Hp} {M : Nat} (q : Rk h M) (F : Nat → Option β) : dr h 31 (h.gr 1326 M) F = F (M + 21) := dr_e (q.2 _ rt_1326).1 (q.2 _ rt_1326).2.1
theorem ra_1326 {h : Hp} {M : Nat} (q : Rk h M) : h.al (M + 21) = 514 := (q.2 _ rt_1326).2.2
theorem rx_1326 {β : Type} {h : Hp} {M i : Nat} (q : Rk h M) (hi : i < 514) (x : Option β) [Decidable (¬ (nI i < 0 ∨ h.al (M + 21) ≤ (nI i).toNatClampNeg))] : ck (¬ (nI i < 0 ∨ h.al (M + 21) ≤ (nI i).toNatClampNeg)) x = x := ck_eq (by rw [ra_1326 q]; exact ix_ok hi (by decide))
theorem ry_1326 {β : Type} {h : Hp} {M i : Nat} (q : Rk h M) (hi : i < 514) (x : Option β) [Decidable (¬ (nI i < 0 ∨ h.al (M + 21) ≤ i))] : ck (¬ (nI i < 0 ∨ h.al (M + 21) ≤ i)) x = x := ck_eq (by rw [ra_1326 q]; exact ix_ok2 hi (by decide))
theorem rt_1327 : (1327, 22, 32, 514) ∈ rtab := by decide
theorem rd_1327 {β : Type} {h : Hp} {M : Nat} (q : Rk h M) (F : Nat → Option β) : dr h 32 (h.gr 1327 M) F = F (M + 22) := dr_e (q.2 _ rt_1327).1 (q.2 _ rt_1327).2.1
theorem ra_1327 {h : Hp} {M : Nat} (q : Rk h M) : h.al (M + 22) = 514 := (q.2 _ rt_1327).2.2
theorem rx_1327 {β : Type} {h : Hp} {M i : Nat} (q : Rk h M) (hi : i < 514) (x : Option β) [Decidable (¬ (nI i < 0 ∨ h.al (M + 22) ≤ (nI i).toNatClampNeg))] : ck (¬ (nI i < 0 ∨ h.al (M + 22) ≤ (nI i).toNatClampNeg)) x = x := ck_eq (by rw [ra_1327 q]; exact ix_ok hi (by decide))
theorem ry_1327 {β : Type} {h : Hp} {M i : Nat} (q : Rk h M) (hi : i < 514) (x : Option β) [Decidable (¬ (nI i < 0 ∨ h.al (M + 22) ≤ i))] : ck (¬ (nI i < 0 ∨ h.al (M + 22) ≤ i)) x = x := ck_eq (by rw [ra_1327 q]; exact ix_ok2 hi (by decide))
theorem rt_1329 : (1329, 23, 30, 514) ∈ rtab := by decide
theorem rd_1329 {β : Type} {h : Hp} {M : Nat} (q : Rk h M) (F : Nat → Option β) : dr h 30 (h.gr 1329 M) F = F (M + 23) := dr_e (q.2 _ rt_1329).1 (q.2 _ rt_1329).2.1
theorem ra_1329 {h : Hp} {M : Nat} (q : Rk h M) : h.al (M + 23) = 514 := (q.2 _ rt_1329).2.2
theorem rx_1329 {β : Type} {h : Hp} {M i : Nat} (q : Rk h M) (hi : i < 514) (x : Option β) [Decidable (¬ (nI i < 0 ∨ h.al (M + 23) ≤ (nI i).toNatClampNeg))] : ck (¬ (nI i < 0 ∨ h.al (M + 23) ≤ (nI i).toNatClampNeg)) x = x := ck_eq (by rw [ra_1329 q]; exact ix_ok hi (by decide))
theorem ry_1329 {β : Type} {h : Hp} {M i : Nat} (q : Rk h M) (hi : i < 514) (x : Option β) [Decidable (¬ (nI i < 0 ∨ h.al (M + 23) ≤ i))] : ck (¬ (nI i < 0 ∨ h.al (M + 23) ≤ i)) x = x := ck_eq (by rw [ra_1329 q]; exact ix_ok2 hi (by decide))
theorem rt_1330 : (1330, 24, 30, 514) ∈ rtab := by decide
theorem rd_1330 {β : Type} {h : Hp} {M : Nat} (q : Rk h M) (F : Nat → Option β) : dr h 30 (h.gr 1330 M) F = F (M + 24) := dr_e (q.2 _ rt_1330).1 (q.2 _ rt_1330).2.1
theorem ra_1330 {h : Hp} {M : Nat} (q : Rk h M) : h.al (M + 24) = 514 := (q.2 _ rt_1330).2.2
theorem rx_1330 {β : Type} {h : Hp} {M i : Nat} (q : Rk h M) (hi : i < 514) (x : Option β) [Decidable (¬ (nI i < 0 ∨ h.al (M + 24) ≤ (nI i).toNatClampNeg))] : ck (¬ (nI i < 0 ∨ h.al (M + 24) ≤ (nI i).toNatClampNeg)) x = x := ck_eq (by rw [ra_1330 q]; exact ix_ok hi (by decide))
theorem ry_1330 {β : Type} {h : Hp} {M i : Nat} (q : Rk h M) (hi : i < 514) (x : Option β) [Decidable (¬ (nI i < 0 ∨ h.al (M + 24) ≤ i))] : ck (¬ (nI i < 0 ∨ h.al (M + 24) ≤ i)) x = x := ck_eq (by rw [ra_1330 q]; exact ix_ok2 hi (by decide))
theorem rt_1331 : (1331, 25, 30, 514) ∈ rtab := by decide
theorem rd_1331 {β : Type} {h : Hp} {M : Nat} (q : Rk h M) (F : Nat → Option β) : dr h 30 (h.gr 1331 M) F = F (M + 25) := dr_e (q.2 _ rt_1331).1 (q.2 _ rt_1331).2.1
theorem ra_1331 {h : Hp} {M : Nat} (q : Rk h M) : h.al (M + 25) = 514 := (q.2 _ rt_1331).2.2
theorem rx_1331 {β : Type} {h : Hp} {M i : Nat} (q : Rk h M) (hi : i < 514) (x : Option β) [Decidable (¬ (nI i < 0 ∨ h.al (M + 25) ≤ (nI i).toNatClampNeg))] : ck (¬ (nI i < 0 ∨ h.al (M + 25) ≤ (nI i).toNatClampNeg)) x = x := ck_eq (by rw [ra_1331 q]; exact ix_ok hi (by decide))
theorem ry_1331 {β : Type} {h : Hp} {M i : Nat} (q : Rk h M) (hi : i < 514) (x : Option β) [Decidable (¬ (nI i < 0 ∨ h.al (M + 25) ≤ i))] : ck (¬ (nI i < 0 ∨ h.al (M + 25) ≤ i)) x = x := ck_eq (by rw [ra_1331 q]; exact ix_ok2 hi (by decide))
theorem rt_1332 : (1332, 26, 30, 514) ∈ rtab := by decide
theorem rd_1332 {β : Type} {h : Hp} {M : Nat} (q : Rk h M) (F : Nat → Option β) : dr h 30 (h.gr 1332 M) F = F (M + 26) := dr_e (q.2 _ rt_1332).1 (q.2 _ rt_1332).2.1
theorem ra_1332 {h : Hp} {M : Nat} (q : Rk h M) : h.al (M + 26) = 514 := (q.2 _ rt_1332).2.2
theorem rx_1332 {β : Type} {h : Hp} {M i : Nat} (q : Rk h M) (hi : i < 514) (x : Option β) [Decidable (¬ (nI i < 0 ∨ h.al (M + 26) ≤ (nI i).toNatClampNeg))] : ck (¬ (nI i < 0 ∨ h.al (M + 26) ≤ (nI i).toNatClampNeg)) x = x := ck_eq (by rw [ra_1332 q]; exact ix_ok hi (by decide))
theorem ry_1332 {β : Type} {h : Hp} {M i : Nat} (q : Rk h M) (hi : i < 514) (x : Option β) [Decidable (¬ (nI i < 0 ∨ h.al (M + 26) ≤ i))] : ck (¬ (nI i < 0 ∨ h.al (M + 26) ≤ i)) x = x := ck_eq (by rw [ra_1332 q]; exact ix_ok2 hi (by decide))
theorem rt_1333 : (1333, 27, 30, 514) ∈ rtab := by decide
theorem rd_1333 {β : Type} {h : Hp} {M : Nat} (q : Rk h M) (F : Nat → Option β) : dr h 30 (h.gr 1333 M) F = F (M + 27) := dr_e (q.2 _ rt_1333).1 (q.2 _ rt_1333).2.1
theorem ra_1333 {h : Hp} {M : Nat} (q : Rk h M) : h.al (M + 27) = 514 := (q.2 _ rt_1333).2.2
theorem rx_1333 {β : Type} {h : Hp} {M i : Nat} (q : Rk h M) (hi : i < 514) (x : Option β) [Decidable (¬ (nI i < 0 ∨ h.al (M + 27) ≤ (nI i).toNatClampNeg))] : ck (¬ (nI i < 0 ∨ h.al (M + 27) ≤ (nI i).toNatClampNeg)) x = x := ck_eq (by rw [ra_1333 q]; exact ix_ok hi (by decide))
theorem ry_1333 {β : Type} {h : Hp} {M i : Nat} (q : Rk h M) (hi : i < 514) (x : Option β) [Decidable (¬ (nI i < 0 ∨ h.al (M + 27) ≤ i))] : ck (¬ (nI i < 0 ∨ h.al (M + 27) ≤ i)) x = x := ck_eq (by rw [ra_1333 q]; exact ix_ok2 hi (by decide))
theorem rt_1334 : (1334, 28, 31, 514) ∈ rtab := by decide
theorem rd_1334 {β : Type} {h : Hp} {M : Nat} (q : Rk h M) (F : Nat → Option β) : dr h 31 (h.gr 1334 M) F = F (M + 28) := dr_e (q.2 _ rt_1334).1 (q.2 _ rt_1334).2.1
theorem ra_1334 {h : Hp} {M : Nat} (q : Rk h M) : h.al (M + 28) = 514 := (q.2 _ rt_1334).2.2
theorem rx_1334 {β : Type} {h : Hp} {M i : Nat} (q : Rk h M) (hi : i < 514) (x : Option β) [Decidable (¬ (nI i < 0 ∨ h.al (M + 28) ≤ (nI i).toNatClampNeg))] : ck (¬ (nI i < 0 ∨ h.al (M + 28) ≤ (nI i).toNatClampNeg)) x = x := ck_eq (by rw [ra_1334 q]; exact ix_ok hi (by decide))
theorem ry_1334 {β : Type} {h : Hp} {M i : Nat} (q : Rk h M) (hi : i < 514) (x : Option β) [Decidable (¬ (nI i < 0 ∨ h.al (M + 28) ≤ i))] : ck (¬ (nI i < 0 ∨ h.al (M + 28) ≤ i)) x = x := ck_eq (by rw [ra_1334 q]; exact ix_ok2 hi (by decide))
theorem rt_1335 : (1335, 29, 30, 514) ∈ rtab := by decide
theorem rd_1335 {β : Type} {h : Hp} {M : Nat} (q : Rk h M) (F : Nat → Option β) : dr h 30 (h.gr 1335 M) F = F (M + 29) := dr_e (q.2 _ rt_1335).1 (q.2 _ rt_1335).2.1
theorem ra_1335 {h : Hp} {M : Nat} (q : Rk h M) : h.al (M + 29) = 514 := (q.2 _ rt_1335).2.2
theorem rx_1335 {β : Type} {h : Hp} {M i : Nat} (q : Rk h M) (hi : i < 514) (x : Option β) [Decidable (¬ (nI i < 0 ∨ h.al (M + 29) ≤ (nI i).toNatClampNeg))] : ck (¬ (nI i < 0 ∨ h.al (M + 29) ≤ (nI i).toNatClampNeg)) x = x := ck_eq (by rw [ra_1335 q]; exact ix_ok hi (by decide))
theorem ry_1335 {β : Type} {h : Hp} {M i : Nat} (q : Rk h M) (hi : i < 514) (x : Option β) [Decidable (¬ (nI i < 0 ∨ h.al (M + 29) ≤ i))] : ck (¬ (nI i < 0 ∨ h.al (M + 29) ≤ i)) x = x := ck_eq (by rw [ra_1335 q]; exact ix_ok2 hi (by decide))
theorem rt_1336 : (1336, 30, 30, 514) ∈ rtab := by decide
theorem rd_1336 {β : Type} {h : Hp} {M : Nat} (q : Rk h M) (F : Nat → Option β) : dr h 30 (h.gr 1336 M) F = F (M + 30) := dr_e (q.2 _ rt_1336).1 (q.2 _ rt_1336).2.1
theorem ra_1336 {h : Hp} {M : Nat} (q : Rk h M) : h.al (M + 30) = 514 := (q.2 _ rt_1336).2.2
theorem rx_1336 {β : Type} {h : Hp} {M i : Nat} (q : Rk h M) (hi : i < 514) (x : Option β) [Decidable (¬ (nI i < 0 ∨ h.al (M + 30) ≤ (nI i).toNatClampNeg))] : ck (¬ (nI i < 0 ∨ h.al (M + 30) ≤ (nI i).toNatClampNeg)) x = x := ck_eq (by rw [ra_1336 q]; exact ix_ok hi (by decide))
theorem ry_1336 {β : Type} {h : Hp} {M i : Nat} (q : Rk h M) (hi : i < 514) (x : Option β) [Decidable (¬ (nI i < 0 ∨ h.al (M + 30) ≤ i))] : ck (¬ (nI i < 0 ∨ h.al (M + 30) ≤ i)) x = x := ck_eq (by rw [ra_1336 q]; exact ix_ok2 hi (by decide))
theorem rt_1337 : (1337, 31, 31, 514) ∈ rtab := by decide
theorem rd_1337 {β : Type} {h : Hp} {M : Nat} (q : Rk h M) (F : Nat → Option β) : dr h 31 (h.gr 1337 M) F = F (M + 31) := dr_e (q.2 _ rt_1337).1 (q.2 _ rt_1337).2.1
theorem ra_1337 {h : Hp} {M : Nat} (q : Rk h M) : h.al (M + 31) = 514 := (q.2 _ rt_1337).2.2
theorem rx_1337 {β : Type} {h : Hp} {M i : Nat} (q : Rk h M) (hi : i < 514) (x : Option β) [Decidable (¬ (nI i < 0 ∨ h.al (M + 31) ≤ (nI i).toNatClampNeg))] : ck (¬ (nI i < 0 ∨ h.al (M + 31) ≤ (nI i).toNatClampNeg)) x = x := ck_eq (by rw [ra_1337 q]; exact ix_ok hi (by decide))
theorem ry_1337 {β : Type} {h : Hp} {M i : Nat} (q : Rk h M) (hi : i < 514) (x : Option β) [Decidable (¬ (nI i < 0 ∨ h.al (M + 31) ≤ i))] : ck (¬ (nI i < 0 ∨ h.al (M + 31) ≤ i)) x = x := ck_eq (by rw [ra_1337 q]; exact ix_ok2 hi (by decide))
theorem rt_1338 : (1338, 32, 30, 514) ∈ rtab := by decide
theorem rd_1338 {β : Type} {h : Hp} {M : Nat} (q : Rk h M) (F : Nat → Option β) : dr h 30 (h.gr 1338 M) F = F (M + 32) := dr_e (q.2 _ rt_1338).1 (q.2 _ rt_1338).2.1
theorem ra_1338 {h : Hp} {M : Nat} (q : Rk h M) : h.al (M + 32) = 514 := (q.2 _ rt_1338).2.2
theorem rx_1338 {β : Type} {h : Hp} {M i : Nat} (q : Rk h M) (hi : i < 514) (x : Option β) [Decidable (¬ (nI i < 0 ∨ h.al (M + 32) ≤ (nI i).toNatClampNeg))] : ck (¬ (nI i < 0 ∨ h.al (M + 32) ≤ (nI i).toNatClampNeg)) x = x := ck_eq (by rw [ra_1338 q]; exact ix_ok hi (by decide))
theorem ry_1338 {β : Type} {h : Hp} {M i : Nat} (q : Rk h M) (hi : i < 514) (x : Option β) [Decidable (¬ (nI i < 0 ∨ h.al (M + 32) ≤ i))] : ck (¬ (nI i < 0 ∨ h.al (M + 32) ≤ i)) x = x := ck_eq (by rw [ra_1338 q]; exact ix_ok2 hi (by decide))
theorem rt_1340 : (1340, 33, 30, 42000) ∈ rtab := by decide
theorem rd_1340 {β : Type} {h : Hp} {M : Nat} (q : Rk h M) (F : Nat → Option β) : dr h 30 (h.gr 1340 M) F = F (M + 33) := dr_e (q.2 _ rt_1340).1 (q.2 _ rt_1340).2.1
theorem ra_1340 {h : Hp} {M : Nat} (q : Rk h M) : h.al (M + 33) = 42000 := (q.2 _ rt_1340).2.2
theorem rx_1340 {β : Type} {h : Hp} {M i : Nat} (q : Rk h M) (hi : i < 42000) (x : Option β) [Decidable (¬ (nI i < 0 ∨ h.al (M + 33) ≤ (nI i).toNatClampNeg))] : ck (¬ (nI i < 0 ∨ h.al (M + 33) ≤ (nI i).toNatClampNeg)) x = x := ck_eq (by rw [ra_1340 q]; exact ix_ok hi (by decide))
theorem ry_1340 {β : Type} {h : Hp} {M i : Nat} (q : Rk h M) (hi : i < 42000) (x : Option β) [Decidable (¬ (nI i < 0 ∨ h.al (M + 33) ≤ i))] : ck (¬ (nI i < 0 ∨ h.al (M + 33) ≤ i)) x = x := ck_eq (by rw [ra_1340 q]; exact ix_ok2 hi (by decide))
theorem rt_1341 : (1341, 34, 31, 42000) ∈ rtab := by decide
theorem rd_1341 {β : Type} {h : Hp} {M : Nat} (q : Rk h M) (F : Nat → Option β) : dr h 31 (h.gr 1341 M) F = F (M + 34) := dr_e (q.2 _ rt_1341).1 (q.2 _ rt_1341).2.1
theorem ra_1341 {h : Hp} {M : Nat} (q : Rk h M) : h.al (M + 34) = 42000 := (q.2 _ rt_1341).2.2
theorem rx_1341 {β : Type} {h : Hp} {M i : Nat} (q : Rk h M) (hi : i < 42000) (x : Option β) [Decidable (¬ (nI i < 0 ∨ h.al (M + 34) ≤ (nI i).toNatClampNeg))] : ck (¬ (nI i < 0 ∨ h.al (M + 34) ≤ (nI i).toNatClampNeg)) x = x := ck_eq (by rw [ra_1341 q]; exact ix_ok hi (by decide))
theorem ry_1341 {β : Type} {h : Hp} {M i : Nat} (q : Rk h M) (hi : i < 42000) (x : Option β) [Decidable (¬ (nI i < 0 ∨ h.al (M + 34) ≤ i))] : ck (¬ (nI i < 0 ∨ h.al (M + 34) ≤ i)) x = x := ck_eq (by rw [ra_1341 q]; exact ix_ok2 hi (by decide))
theorem rt_1352 : (1352, 35, 30, 514) ∈ rtab := by decide
theorem rd_1352 {β : Type} {h : Hp} {M : Nat} (q : Rk h M) (F : Nat → Option β) : dr h 30 (h.gr 1352 M) F = F (M + 35) := dr_e (q.2 _ rt_1352).1 (q.2 _ rt_1352).2.1
theorem ra_1352 {h : Hp} {M : Nat} (q : Rk h M) : h.al (M + 35) = 514 := (q.2 _ rt_1352).2.2
theorem rx_1352 {β : Type} {h : Hp} {M i : Nat} (q : Rk h M) (hi : i < 514) (x : Option β) [Decidable (¬ (nI i < 0 ∨ h.al (M + 35) ≤ (nI i).toNatClampNeg))] : ck (¬ (nI i < 0 ∨ h.al (M + 35) ≤ (nI i).toNatClampNeg)) x = x := ck_eq (by rw [ra_1352 q]; exact ix_ok hi (by decide))
theorem ry_1352 {β : Type} {h : Hp} {M i : Nat} (q : Rk h M) (hi : i < 514) (x : Option β) [Decidable (¬ (nI i < 0 ∨ h.al (M + 35) ≤ i))] : ck (¬ (nI i < 0 ∨ h.al (M + 35) ≤ i)) x = x := ck_eq (by rw [ra_1352 q]; exact ix_ok2 hi (by decide))
theorem rt_1354 : (1354, 36, 30, 514) ∈ rtab := by decide
theorem rd_1354 {β : Type} {h : Hp} {M : Nat} (q : Rk h M) (F : Nat → Option β) : dr h 30 (h.gr 1354 M) F = F (M + 36) := dr_e (q.2 _ rt_1354).1 (q.2 _ rt_1354).2.1
theorem ra_1354 {h : Hp} {M : Nat} (q : Rk h M) : h.al (M + 36) = 514 := (q.2 _ rt_1354).2.2
theorem rx_1354 {β : Type} {h : Hp} {M i : Nat} (q : Rk h M) (hi : i < 514) (x : Option β) [Decidable (¬ (nI i < 0 ∨ h.al (M + 36) ≤ (nI i).toNatClampNeg))] : ck (¬ (nI i < 0 ∨ h.al (M + 36) ≤ (nI i).toNatClampNeg)) x = x := ck_eq (by rw [ra_1354 q]; exact ix_ok hi (by decide))
theorem ry_1354 {β : Type} {h : Hp} {M i : Nat} (q : Rk h M) (hi : i < 514) (x : Option β) [Decidable (¬ (nI i < 0 ∨ h.al (M + 36) ≤ i))] : ck (¬ (nI i < 0 ∨ h.al (M + 36) ≤ i)) x = x := ck_eq (by rw [ra_1354 q]; exact ix_ok2 hi (by decide))
theorem rt_1355 : (1355, 37, 30, 514) ∈ rtab := by decide
theorem rd_1355 {β : Type} {h : Hp} {M : Nat} (q : Rk h M) (F : Nat → Option β) : dr h 30 (h.gr 1355 M) F = F (M + 37) := dr_e (q.2 _ rt_1355).1 (q.2 _ rt_1355).2.1
theorem ra_1355 {h : Hp} {M : Nat} (q : Rk h M) : h.al (M + 37) = 514 := (q.2 _ rt_1355).2.2
theorem rx_1355 {β : Type} {h : Hp} {M i : Nat} (q : Rk h M) (hi : i < 514) (x : Option β) [Decidable (¬ (nI i < 0 ∨ h.al (M + 37) ≤ (nI i).toNatClampNeg))] : ck (¬ (nI i < 0 ∨ h.al (M + 37) ≤ (nI i).toNatClampNeg)) x = x := ck_eq (by rw [ra_1355 q]; exact ix_ok hi (by decide))
theorem ry_1355 {β : Type} {h : Hp} {M i : Nat} (q : Rk h M) (hi : i < 514) (x : Option β) [Decidable (¬ (nI i < 0 ∨ h.al (M + 37) ≤ i))] : ck (¬ (nI i < 0 ∨ h.al (M + 37) ≤ i)) x = x := ck_eq (by rw [ra_1355 q]; exact ix_ok2 hi (by decide))
theorem rt_1356 : (1356, 38, 31, 4626) ∈ rtab := by decide
theorem rd_1356 {β : Type} {h : Hp} {M : Nat} (q : Rk h M) (F : Nat → Option β) : dr h 31 (h.gr 1356 M) F = F (M + 38) := dr_e (q.2 _ rt_1356).1 (q.2 _ rt_1356).2.1
theorem ra_1356 {h : Hp} {M : Nat} (q : Rk h M) : h.al (M + 38) = 4626 := (q.2 _ rt_1356).2.2
theorem rx_1356 {β : Type} {h : Hp} {M i : Nat} (q : Rk h M) (hi : i < 4626) (x : Option β) [Decidable (¬ (nI i < 0 ∨ h.al (M + 38) ≤ (nI i).toNatClampNeg))] : ck (¬ (nI i < 0 ∨ h.al (M + 38) ≤ (nI i).toNatClampNeg)) x = x := ck_eq (by rw [ra_1356 q]; exact ix_ok hi (by decide))
theorem ry_1356 {β : Type} {h : Hp} {M i : Nat} (q : Rk h M) (hi : i < 4626) (x : Option β) [Decidable (¬ (nI i < 0 ∨ h.al (M + 38) ≤ i))] : ck (¬ (nI i < 0 ∨ h.al (M + 38) ≤ i)) x = x := ck_eq (by rw [ra_1356 q]; exact ix_ok2 hi (by decide))
theorem rt_1357 : (1357, 39, 31, 4626) ∈ rtab := by decide
theorem rd_1357 {β : Type} {h : Hp} {M : Nat} (q : Rk h M) (F : Nat → Option β) : dr h 31 (h.gr 1357 M) F = F (M + 39) := dr_e (q.2 _ rt_1357).1 (q.2 _ rt_1357).2.1
theorem ra_1357 {h : Hp} {M : Nat} (q : Rk h M) : h.al (M + 39) = 4626 := (q.2 _ rt_1357).2.2
theorem rx_1357 {β : Type} {h : Hp} {M i : Nat} (q : Rk h M) (hi : i < 4626) (x : Option β) [Decidable (¬ (nI i < 0 ∨ h.al (M + 39) ≤ (nI i).toNatClampNeg))] : ck (¬ (nI i < 0 ∨ h.al (M + 39) ≤ (nI i).toNatClampNeg)) x = x := ck_eq (by rw [ra_1357 q]; exact ix_ok hi (by decide))
theorem ry_1357 {β : Type} {h : Hp} {M i : Nat} (q : Rk h M) (hi : i < 4626) (x : Option β) [Decidable (¬ (nI i < 0 ∨ h.al (M + 39) ≤ i))] : ck (¬ (nI i < 0 ∨ h.al (M + 39) ≤ i)) x = x := ck_eq (by rw [ra_1357 q]; exact ix_ok2 hi (by decide))
theorem rt_1358 : (1358, 40, 32, 514) ∈ rtab := by decide
theorem rd_1358 {β : Type} {h : Hp} {M : Nat} (q : Rk h M) (F : Nat → Option β) : dr h 32 (h.gr 1358 M) F = F (M + 40) := dr_e (q.2 _ rt_1358).1 (q.2 _ rt_1358).2.1
theorem ra_1358 {h : Hp} {M : Nat} (q : Rk h M) : h.al (M + 40) = 514 := (q.2 _ rt_1358).2.2
theorem rx_1358 {β : Type} {h : Hp} {M i : Nat} (q : Rk h M) (hi : i < 514) (x : Option β) [Decidable (¬ (nI i < 0 ∨ h.al (M + 40) ≤ (nI i).toNatClampNeg))] : ck (¬ (nI i < 0 ∨ h.al (M + 40) ≤ (nI i).toNatClampNeg)) x = x := ck_eq (by rw [ra_1358 q]; exact ix_ok hi (by decide))
theorem ry_1358 {β : Type} {h : Hp} {M i : Nat} (q : Rk h M) (hi : i < 514) (x : Option β) [Decidable (¬ (nI i < 0 ∨ h.al (M + 40) ≤ i))] : ck (¬ (nI i < 0 ∨ h.al (M + 40) ≤ i)) x = x := ck_eq (by rw [ra_1358 q]; exact ix_ok2 hi (by decide))
theorem rt_1359 : (1359, 41, 31, 514) ∈ rtab := by decide
theorem rd_1359 {β : Type} {h : Hp} {M : Nat} (q : Rk h M) (F : Nat → Option β) : dr h 31 (h.gr 1359 M) F = F (M + 41) := dr_e (q.2 _ rt_1359).1 (q.2 _ rt_1359).2.1
theorem ra_1359 {h : Hp} {M : Nat} (q : Rk h M) : h.al (M + 41) = 514 := (q.2 _ rt_1359).2.2
theorem rx_1359 {β : Type} {h : Hp} {M i : Nat} (q : Rk h M) (hi : i < 514) (x : Option β) [Decidable (¬ (nI i < 0 ∨ h.al (M + 41) ≤ (nI i).toNatClampNeg))] : ck (¬ (nI i < 0 ∨ h.al (M + 41) ≤ (nI i).toNatClampNeg)) x = x := ck_eq (by rw [ra_1359 q]; exact ix_ok hi (by decide))
theorem ry_1359 {β : Type} {h : Hp} {M i : Nat} (q : Rk h M) (hi : i < 514) (x : Option β) [Decidable (¬ (nI i < 0 ∨ h.al (M + 41) ≤ i))] : ck (¬ (nI i < 0 ∨ h.al (M + 41) ≤ i)) x = x := ck_eq (by rw [ra_1359 q]; exact ix_ok2 hi (by decide))
theorem rt_1360 : (1360, 42, 30, 514) ∈ rtab := by decide
theorem rd_1360 {β : Type} {h : Hp} {M : Nat} (q : Rk h M) (F : Nat → Option β) : dr h 30 (h.gr 1360 M) F = F (M + 42) := dr_e (q.2 _ rt_1360).1 (q.2 _ rt_1360).2.1
theorem ra_1360 {h : Hp} {M : Nat} (q : Rk h M) : h.al (M + 42) = 514 := (q.2 _ rt_1360).2.2
theorem rx_1360 {β : Type} {h : Hp} {M i : Nat} (q : Rk h M) (hi : i < 514) (x : Option β) [Decidable (¬ (nI i < 0 ∨ h.al (M + 42) ≤ (nI i).toNatClampNeg))] : ck (¬ (nI i < 0 ∨ h.al (M + 42) ≤ (nI i).toNatClampNeg)) x = x := ck_eq (by rw [ra_1360 q]; exact ix_ok hi (by decide))
theorem ry_1360 {β : Type} {h : Hp} {M i : Nat} (q : Rk h M) (hi : i < 514) (x : Option β) [Decidable (¬ (nI i < 0 ∨ h.al (M + 42) ≤ i))] : ck (¬ (nI i < 0 ∨ h.al (M + 42) ≤ i)) x = x := ck_eq (by rw [ra_1360 q]; exact ix_ok2 hi (by decide))
theorem rt_1361 : (1361, 43, 31, 514) ∈ rtab := by decide
theorem rd_1361 {β : Type} {h : Hp} {M : Nat} (q : Rk h M) (F : Nat → Option β) : dr h 31 (h.gr 1361 M) F = F (M + 43) := dr_e (q.2 _ rt_1361).1 (q.2 _ rt_1361).2.1
theorem ra_1361 {h : Hp} {M : Nat} (q : Rk h M) : h.al (M + 43) = 514 := (q.2 _ rt_1361).2.2
theorem rx_1361 {β : Type} {h : Hp} {M i : Nat} (q : Rk h M) (hi : i < 514) (x : Option β) [Decidable (¬ (nI i < 0 ∨ h.al (M + 43) ≤ (nI i).toNatClampNeg))] : ck (¬ (nI i < 0 ∨ h.al (M + 43) ≤ (nI i).toNatClampNeg)) x = x := ck_eq (by rw [ra_1361 q]; exact ix_ok hi (by decide))
theorem ry_1361 {β : Type} {h : Hp} {M i : Nat} (q : Rk h M) (hi : i < 514) (x : Option β) [Decidable (¬ (nI i < 0 ∨ h.al (M + 43) ≤ i))] : ck (¬ (nI i < 0 ∨ h.al (M + 43) ≤ i)) x = x := ck_eq (by rw [ra_1361 q]; exact ix_ok2 hi (by decide))
theorem rt_1362 : (1362, 44, 32, 514) ∈ rtab := by decide
theorem rd_1362 {β : Type} {h : Hp} {M : Nat} (q : Rk h M) (F : Nat → Option β) : dr h 32 (h.gr 1362 M) F = F (M + 44) := dr_e (q.2 _ rt_1362).1 (q.2 _ rt_1362).2.1
theorem ra_1362 {h : Hp} {M : Nat} (q : Rk h M) : h.al (M + 44) = 514 := (q.2 _ rt_1362).2.2
theorem rx_1362 {β : Type} {h : Hp} {M i : Nat} (q : Rk h M) (hi : i < 514) (x : Option β) [Decidable (¬ (nI i < 0 ∨ h.al (M + 44) ≤ (nI i).toNatClampNeg))] : ck (¬ (nI i < 0 ∨ h.al (M + 44) ≤ (nI i).toNatClampNeg)) x = x := ck_eq (by rw [ra_1362 q]; exact ix_ok hi (by decide))
theorem ry_1362 {β : Type} {h : Hp} {M i : Nat} (q : Rk h M) (hi : i < 514) (x : Option β) [Decidable (¬ (nI i < 0 ∨ h.al (M + 44) ≤ i))] : ck (¬ (nI i < 0 ∨ h.al (M + 44) ≤ i)) x = x := ck_eq (by rw [ra_1362 q]; exact ix_ok2 hi (by decide))
theorem rt_1364 : (1364, 45, 30, 10) ∈ rtab := by decide
theorem rd_1364 {β : Type} {h : Hp} {M : Nat} (q : Rk h M) (F : Nat → Option β) : dr h 30 (h.gr 1364 M) F = F (M + 45) := dr_e (q.2 _ rt_1364).1 (q.2 _ rt_1364).2.1
theorem ra_1364 {h : Hp} {M : Nat} (q : Rk h M) : h.al (M + 45) = 10 := (q.2 _ rt_1364).2.2
theorem rx_1364 {β : Type} {h : Hp} {M i : Nat} (q : Rk h M) (hi : i < 10) (x : Option β) [Decidable (¬ (nI i < 0 ∨ h.al (M + 45) ≤ (nI i).toNatClampNeg))] : ck (¬ (nI i < 0 ∨ h.al (M + 45) ≤ (nI i).toNatClampNeg)) x = x := ck_eq (by rw [ra_1364 q]; exact ix_ok hi (by decide))
theorem ry_1364 {β : Type} {h : Hp} {M i : Nat} (q : Rk h M) (hi : i < 10) (x : Option β) [Decidable (¬ (nI i < 0 ∨ h.al (M + 45) ≤ i))] : ck (¬ (nI i < 0 ∨ h.al (M + 45) ≤ i)) x = x := ck_eq (by rw [ra_1364 q]; exact ix_ok2 hi (by decide))
theorem rt_1366 : (1366, 46, 32, 514) ∈ rtab := by decide
theorem rd_1366 {β : Type} {h : Hp} {M : Nat} (q : Rk h M) (F : Nat → Option β) : dr h 32 (h.gr 1366 M) F = F (M + 46) := dr_e (q.2 _ rt_1366).1 (q.2 _ rt_1366).2.1
theorem ra_1366 {h : Hp} {M : Nat} (q : Rk h M) : h.al (M + 46) = 514 := (q.2 _ rt_1366).2.2
theorem rx_1366 {β : Type} {h : Hp} {M i : Nat} (q : Rk h M) (hi : i < 514) (x : Option β) [Decidable (¬ (nI i < 0 ∨ h.al (M + 46) ≤ (nI i).toNatClampNeg))] : ck (¬ (nI i < 0 ∨ h.al (M + 46) ≤ (nI i).toNatClampNeg)) x = x := ck_eq (by rw [ra_1366 q]; exact ix_ok hi (by decide))
theorem ry_1366 {β : Type} {h : Hp} {M i : Nat} (q : Rk h M) (hi : i < 514) (x : Option β) [Decidable (¬ (nI i < 0 ∨ h.al (M + 46) ≤ i))] : ck (¬ (nI i < 0 ∨ h.al (M + 46) ≤ i)) x = x := ck_eq (by rw [ra_1366 q]; exact ix_ok2 hi (by decide))
theorem Rk.sgi {h : Hp} {M : Nat} (q : Rk h M) (f a : Nat) (v : Int32) : Rk (h.sgi f a v) M := q
theorem Rk.sgl {h : Hp} {M : Nat} (q : Rk h M) (f a : Nat) (v : Int64) : Rk (h.sgl f a v) M := q
theorem Rk.sbi {h : Hp} {M : Nat} (q : Rk h M) (a i : Nat) (v : Int32) : Rk (h.sbi a i v) M := q
theorem Rk.sbw {h : Hp} {M : Nat} (q : Rk h M) (a i : Nat) (v : Int64) : Rk (h.sbw a i v) M := q
theorem gi_same {h : Hp} {f a : Nat} {v : Int32} : (h.sgi f a v).gi f a = v := by rw [pj_sgi_gi, if_pos rfl, if_pos rfl]
theorem gi_oth {h : Hp} {f f' a b : Nat} {v : Int32} (n : f' ≠ f) : (h.sgi f a v).gi f' b = h.gi f' b := by rw [pj_sgi_gi, if_neg n]
theorem gl_same {h : Hp} {f a : Nat} {v : Int64} : (h.sgl f a v).gl f a = v := by rw [pj_sgl_gl, if_pos rfl, if_pos rfl]
theorem gl_oth {h : Hp} {f f' a b : Nat} {v : Int64} (n : f' ≠ f) : (h.sgl f a v).gl f' b = h.gl f' b := by rw [pj_sgl_gl, if_neg n]
theorem bi_oth {h : Hp} {a b i : Nat} {v : Int32} (n : b ≠ a) : (h.sbi a i v).bi b = h.bi b := by
  funext j
  rw [pj_sbi_bi, if_neg n]
theorem bi_at (h : Hp) (a i : Nat) (v : Int32) (j : Nat) : (h.sbi a i v).bi a j = if j = i then v else h.bi a j := by rw [pj_sbi_bi, if_pos rfl]
theorem bw_oth {h : Hp} {a b i : Nat} {v : Int64} (n : b ≠ a) : (h.sbw a i v).bw b = h.bw b := by
  funext j
  rw [pj_sbw_bw, if_neg n]
theorem bw_at (h : Hp) (a i : Nat) (v : Int64) (j : Nat) : (h.sbw a i v).bw a j = if j = i then v else h.bw a j := by rw [pj_sbw_bw, if_pos rfl]
/-- how many there are: began, commits, writes, looks, versions, calls, rows -/
def Rn (h : Hp) (M b c w l v k r : Nat) : Prop := h.gi 1311 M = nI b ∧ h.gi 1312 M = nI c ∧ h.gi 1319 M = nI w ∧ h.gi 1323 M = nI l ∧ h.gi 1328 M = nI v ∧ h.gi 1339 M = nI k ∧ h.gi 1342 M = nI r ∧ b ≤ 512 ∧ c ≤ 512 ∧ w ≤ 512 ∧ l ≤ 512 ∧ v ≤ 512 ∧ k ≤ 512 ∧ r ≤ 41200
section RF
variable {h : Hp} {M b c w l v k r : Nat}
theorem rf_am (q : Rk h M) (n : Rn h M b c w l v k r) (N : Nat) : ∀ (d t F a : Nat), d = b + 1 - t → 1 ≤ t → t ≤ b + 1 → d < F → L_X10_activeMany_4 N M F h (nI a) (nI t) = some (h, nI (a + ((List.range' t d).countP (fun u => decide (h.bi (M + 1) u = 1))))) := by
  have hb := n.2.2.2.2.2.2.2.1
  intro d
  induction d with
  | zero =>
    intro t F a hd h1 h2 hF
    obtain ⟨F, rfl⟩ : ∃ F', F = F' + 1 := ⟨F - 1, by omega⟩
    show B_X10_activeMany_4 N _ M h (nI a) (nI t) = _
    unfold B_X10_activeMany_4
    rw [n.1]
    refine (if_pos (by exact (ni_lt (by omega) (by omega)).mpr (by omega))).trans ?_
    rfl
  | succ d ih =>
    intro t F a hd h1 h2 hF
    obtain ⟨F, rfl⟩ : ∃ F', F = F' + 1 := ⟨F - 1, by omega⟩
    show B_X10_activeMany_4 N (L_X10_activeMany_4 N M F) M h (nI a) (nI t) = _
    unfold B_X10_activeMany_4 B_X10_activeMany_28
    rw [n.1]
    refine (if_neg (by exact fun z => by rw [ni_lt (by omega) (by omega)] at z; omega)).trans ?_
    rw [rd_1301 q, rx_1301 q (by omega), ni_clp (by omega), List.range'_succ, List.countP_cons, ni_inc, ni_inc]
    by_cases z : h.bi (M + 1) t = 1
    · rw [if_pos z, if_pos (decide_eq_true z), ih (t + 1) F (a + 1) (by omega) (by omega) (by omega) (by omega)]
      congr 3
      omega
    · rw [if_neg z, if_neg (fun y => z (of_decide_eq_true y)), show nI a + 0 = nI a from nI_add a 0, ih (t + 1) F a (by omega) (by omega) (by omega) (by omega)]
      rfl
theorem rf_activeMany (q : Rk h M) (n : Rn h M b c w l v k r) (N : Nat) (hN : 1000 < N) : J_X10_activeMany N M h = some (h, nI ((List.range' 1 b).countP (fun u => decide (h.bi (M + 1) u = 1)))) := by
  have hb := n.2.2.2.2.2.2.2.1
  have := rf_am q n N b 1 N 0 (by omega) (by omega) (by omega) (by omega)
  rw [Nat.zero_add] at this
  exact this
/-- a transaction's end: none, or its moment -/
def endT (h : Hp) (M t : Nat) : Int32 := if h.bi (M + 1) t = 1 then 2147483647 else h.bi (M + 4) t
theorem rf_endOf (q : Rk h M) (N : Nat) {t : Nat} (ht : t < 514) : J_X10_endOf N M h (nI t) = some (h, endT h M t) := by
  unfold J_X10_endOf B_X10_endOf_0 B_X10_endOf_21 endT
  rw [rd_1301 q, rx_1301 q ht, ni_clp (by omega)]
  by_cases z : h.bi (M + 1) t = 1
  · rw [if_pos z, if_pos z]
  · rw [if_neg z, if_neg z, rd_1304 q, ry_1304 q ht]
def inT (h : Hp) (M t : Nat) : Prop := h.bi (M + 1) t = 1 ∨ h.bi (M + 1) t = 2
theorem rf_isIn (q : Rk h M) (N : Nat) {t : Nat} (ht : t < 514) : ∃ x, J_X10_isIn N M h (nI t) = some (h, x) ∧ ((x = 1 ∧ inT h M t) ∨ (x = 0 ∧ ¬ inT h M t)) := by
  unfold J_X10_isIn B_X10_isIn_0 B_X10_isIn_20 B_X10_isIn_25 inT
  rw [rd_1301 q, rx_1301 q ht, rd_1301 q, rx_1301 q ht, ni_clp (by omega)]
  by_cases z : h.bi (M + 1) t = 1
  · rw [if_pos z]
    exact ⟨1, rfl, Or.inl ⟨rfl, Or.inl z⟩⟩
  · rw [if_neg z]
    by_cases z2 : h.bi (M + 1) t = 2
    · rw [if_pos z2]
      exact ⟨1, rfl, Or.inl ⟨rfl, Or.inr z2⟩⟩
    · rw [if_neg z2]
      exact ⟨0, rfl, Or.inr ⟨rfl, fun y => y.elim z z2⟩⟩
end RF
