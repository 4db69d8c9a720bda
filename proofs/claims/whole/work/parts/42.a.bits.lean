/-! bits of longs -/
def bt (v : Int64) (k : Nat) : Bool := v.toBitVec.getLsbD k
theorem nI_bv (n : Nat) : (nI n).toBitVec = BitVec.ofNat 32 n := rfl
theorem and63 (n : Nat) (h : n < 2147483648) : nI n &&& (63 : Int32) = nI (n % 64) := by
  apply Int32.toBitVec_inj.mp
  rw [Int32.toBitVec_and, nI_bv, nI_bv]
  apply BitVec.eq_of_toNat_eq
  rw [BitVec.toNat_and, BitVec.toNat_ofNat, BitVec.toNat_ofNat]
  show (n % 4294967296) &&& 63 = n % 64 % 4294967296
  rw [Nat.mod_eq_of_lt (by omega), Nat.mod_eq_of_lt (by omega)]
  exact Nat.and_two_pow_sub_one_eq_mod n 6
theorem shr6 {n : Nat} (h : n < 2147483648) : ((nI n).toUInt32 >>> ((6 : Int32).toUInt32 &&& Int32.toUInt32 31)).toInt32 = nI (n / 64) := by
  apply Int32.toBitVec_inj.mp
  show (nI n).toBitVec >>> (6 : Nat) = BitVec.ofNat 32 (n / 64)
  apply BitVec.eq_of_toNat_eq
  rw [BitVec.toNat_ushiftRight, nI_bv, BitVec.toNat_ofNat, BitVec.toNat_ofNat, Nat.shiftRight_eq_div_pow]
  show n % 4294967296 / 64 = n / 64 % 4294967296
  rw [Nat.mod_eq_of_lt (by omega), Nat.mod_eq_of_lt (by omega)]
theorem bt_or (a b : Int64) (k : Nat) : bt (a ||| b) k = (bt a k || bt b k) := by
  unfold bt
  rw [Int64.toBitVec_or, BitVec.getLsbD_or]
theorem bt_and (a b : Int64) (k : Nat) : bt (a &&& b) k = (bt a k && bt b k) := by
  unfold bt
  rw [Int64.toBitVec_and, BitVec.getLsbD_and]
theorem bt_not (a : Int64) {k : Nat} (hk : k < 64) : bt (a ^^^ (-1 : Int64)) k = !bt a k := by
  unfold bt
  rw [Int64.toBitVec_xor, BitVec.getLsbD_xor]
  have : (-1 : Int64).toBitVec = BitVec.allOnes 64 := by decide
  rw [this, BitVec.getLsbD_allOnes, decide_eq_true hk, Bool.xor_true]
theorem bt_0 (k : Nat) : bt 0 k = false := by
  unfold bt
  show (0#64).getLsbD k = false
  exact BitVec.getLsbD_zero
theorem bt_big (v : Int64) {k : Nat} (h : 64 ≤ k) : bt v k = false := by
  unfold bt
  exact BitVec.getLsbD_of_ge _ _ h
theorem bt_ext {a b : Int64} (h : ∀ k, k < 64 → bt a k = bt b k) : a = b := Int64.toBitVec_inj.mp (BitVec.eq_of_getLsbD_eq h)
theorem bt_zero {a : Int64} : a = 0 ↔ ∀ k, k < 64 → bt a k = false := ⟨fun e k _ => by rw [e]; exact bt_0 k, fun h => bt_ext (fun k hk => by rw [h k hk, bt_0])⟩
/-- no bit of a that isn't one of b -/
theorem bt_sub {a b : Int64} : a &&& (b ^^^ (-1 : Int64)) = 0 ↔ ∀ k, k < 64 → bt a k = true → bt b k = true := by
  rw [bt_zero]
  constructor
  · intro h k hk ha
    have := h k hk
    rw [bt_and, bt_not b hk, ha] at this
    simpa using this
  · intro h k hk
    rw [bt_and, bt_not b hk]
    cases ha : bt a k with
    | false => rfl
    | true => rw [h k hk ha]; rfl
theorem sh64 {k : Nat} (hk : k < 64) : ((nI k).toInt64 &&& 63).toBitVec = BitVec.ofNat 64 k := by
  have : ∀ k : Fin 64, ((nI k.val).toInt64 &&& 63).toBitVec = BitVec.ofNat 64 k.val := by decide +kernel
  exact this ⟨k, hk⟩
theorem sh64u {k : Nat} (hk : k < 64) : ((nI k).toInt64.toUInt64 &&& Int64.toUInt64 63).toBitVec = BitVec.ofNat 64 k := by
  have : ∀ k : Fin 64, ((nI k.val).toInt64.toUInt64 &&& Int64.toUInt64 63).toBitVec = BitVec.ofNat 64 k.val := by decide +kernel
  exact this ⟨k, hk⟩
theorem one_shl {k : Nat} (hk : k < 64) (j : Nat) : bt ((1 : Int64) <<< ((nI k).toInt64 &&& 63)) j = decide (j = k) := by
  have : ∀ k : Fin 64, ((1 : Int64) <<< ((nI k.val).toInt64 &&& 63)).toBitVec = BitVec.ofNat 64 (2 ^ k.val) := by decide +kernel
  unfold bt
  rw [this ⟨k, hk⟩]
  by_cases c : j < 64
  · rw [BitVec.getLsbD_ofNat, decide_eq_true c, Bool.true_and, Nat.testBit_two_pow]
    by_cases e : k = j
    · rw [decide_eq_true e, decide_eq_true e.symm]
    · rw [decide_eq_false e, decide_eq_false (Ne.symm e)]
  · rw [BitVec.getLsbD_of_ge _ _ (by omega), decide_eq_false (by omega)]
/-- the test of the class: a logical shift -/
theorem bt_lshr (v : Int64) {k : Nat} (hk : k < 64) : ((v.toUInt64 >>> ((nI k).toInt64.toUInt64 &&& Int64.toUInt64 63)).toInt64 &&& (1 : Int64)) = 0 ↔ bt v k = false := by
  rw [bt_zero]
  have e : ∀ j, bt (v.toUInt64 >>> ((nI k).toInt64.toUInt64 &&& Int64.toUInt64 63)).toInt64 j = bt v (k + j) := by
    intro j
    unfold bt
    show (v.toUInt64 >>> ((nI k).toInt64.toUInt64 &&& Int64.toUInt64 63)).toBitVec.getLsbD j = _
    rw [UInt64.toBitVec_shiftRight, sh64u hk]
    show (v.toBitVec >>> (BitVec.ofNat 64 k % 64#64)).getLsbD j = _
    rw [BitVec.ushiftRight_eq', BitVec.getLsbD_ushiftRight]
    congr 1
    have : (BitVec.ofNat 64 k % 64#64).toNat = k := by
      rw [BitVec.toNat_umod, BitVec.toNat_ofNat, BitVec.toNat_ofNat]
      show k % 18446744073709551616 % (64 % 18446744073709551616) = k
      rw [Nat.mod_eq_of_lt (by omega)]
      exact Nat.mod_eq_of_lt (by omega)
    rw [this]
  have e1 : ∀ j, bt 1 j = decide (j = 0) := by
    intro j
    unfold bt
    show (1#64).getLsbD j = _
    rw [BitVec.getLsbD_one]
    simp
  constructor
  · intro h
    have := h 0 (by omega)
    rw [bt_and, e, e1] at this
    simpa using this
  · intro h j hj
    rw [bt_and, e, e1]
    by_cases c : j = 0
    · rw [c, Nat.add_zero, h]; rfl
    · rw [decide_eq_false c, Bool.and_false]
