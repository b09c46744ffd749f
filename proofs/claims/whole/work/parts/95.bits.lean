/-! layer 2: bits -/
def bt_ (x r : Int) : Bool := x.toNat.testBit r.toNat
theorem i32_nat (n : Nat) : (Int32.ofInt (n : Int)).toBitVec = BitVec.ofNat 32 n := BitVec.ofInt_natCast ..
theorem toI32 {b : Int32} {n : Nat} (h : b.toBitVec.toNat = n) (hn : n < 2147483648) : b.toInt = (n : Int) := by
  show b.toBitVec.toInt = _
  rw [BitVec.toInt_eq_toNat_of_lt (by omega), h]
theorem bO_n {x y : Nat} (hx : x < 2147483648) (hy : y < 2147483648) : bO_ (x : Int) (y : Int) = ((x ||| y : Nat) : Int) := by
  unfold bO_
  refine toI32 ?_ (Nat.or_lt_two_pow (n := 31) hx hy)
  rw [Int32.toBitVec_or, BitVec.toNat_or, i32_nat, i32_nat, BitVec.toNat_ofNat, BitVec.toNat_ofNat, Nat.mod_eq_of_lt (by omega), Nat.mod_eq_of_lt (by omega)]
theorem bA_n {x y : Nat} (hx : x < 2147483648) (hy : y < 4294967296) : bA_ (x : Int) (y : Int) = ((x &&& y : Nat) : Int) := by
  unfold bA_
  refine toI32 ?_ (Nat.lt_of_le_of_lt Nat.and_le_left hx)
  rw [Int32.toBitVec_and, BitVec.toNat_and, i32_nat, i32_nat, BitVec.toNat_ofNat, BitVec.toNat_ofNat, Nat.mod_eq_of_lt (by omega), Nat.mod_eq_of_lt (by omega)]
theorem sh32 : ∀ r : Nat, r < 32 → (Int32.ofInt (r : Int) &&& 31).toBitVec.smod 32#32 = BitVec.ofNat 32 r := by decide
theorem sR_n {x r : Nat} (hx : x < 2147483648) (hr : r < 32) : sR_ (x : Int) (r : Int) = ((x >>> r : Nat) : Int) := by
  unfold sR_
  have hx2 : (BitVec.ofNat 32 x).toNat = x := by rw [BitVec.toNat_ofNat, Nat.mod_eq_of_lt (by omega)]
  refine toI32 ?_ (Nat.lt_of_le_of_lt (Nat.shiftRight_le x r) hx)
  rw [Int32.toBitVec_shiftRight]
  show ((Int32.ofInt (x : Int)).toBitVec.sshiftRight' ((Int32.ofInt (r : Int) &&& 31).toBitVec.smod 32#32)).toNat = _
  rw [sh32 r hr, i32_nat]
  show ((BitVec.ofNat 32 x).sshiftRight (BitVec.ofNat 32 r).toNat).toNat = _
  rw [BitVec.toNat_ofNat, Nat.mod_eq_of_lt (by omega), BitVec.sshiftRight_eq_of_msb_false (by
    rw [BitVec.msb_eq_false_iff_two_mul_lt, hx2]; omega), BitVec.toNat_ushiftRight, hx2]
theorem bit_n {x r : Nat} (hx : x < 2147483648) (hr : r < 32) : bA_ (sR_ (x : Int) (r : Int)) 1 = if x.testBit r then 1 else 0 := by
  rw [sR_n hx hr, show (1 : Int) = ((1 : Nat) : Int) from rfl, bA_n (Nat.lt_of_le_of_lt (Nat.shiftRight_le x r) hx) (by decide), Nat.and_one_is_mod]
  unfold Nat.testBit
  rw [Nat.one_and_eq_mod_two]
  rcases Nat.mod_two_eq_zero_or_one (x >>> r) with h | h <;> rw [h] <;> rfl
theorem bit_e {x r : Int} (hx : 0 ≤ x ∧ x < 2147483648) (hr : 0 ≤ r ∧ r < 32) : bA_ (sR_ x r) 1 = if bt_ x r then 1 else 0 := by
  obtain ⟨n, rfl⟩ := Int.eq_ofNat_of_zero_le hx.1
  obtain ⟨m, rfl⟩ := Int.eq_ofNat_of_zero_le hr.1
  exact bit_n (by omega) (by omega)
theorem bO_e {x y : Int} (hx : 0 ≤ x ∧ x < 256) (hy : 0 ≤ y ∧ y < 256) : (0 ≤ bO_ x y ∧ bO_ x y < 256) ∧ ∀ r, bt_ (bO_ x y) r = (bt_ x r || bt_ y r) := by
  obtain ⟨n, rfl⟩ := Int.eq_ofNat_of_zero_le hx.1
  obtain ⟨m, rfl⟩ := Int.eq_ofNat_of_zero_le hy.1
  have h := Nat.or_lt_two_pow (n := 8) (x := n) (y := m) (by omega) (by omega)
  rw [bO_n (by omega) (by omega)]
  refine ⟨by omega, fun r => ?_⟩
  unfold bt_
  exact Nat.testBit_or ..
theorem bO_64 {x y : Int} (hx : 0 ≤ x ∧ x < 64) (hy : 0 ≤ y ∧ y < 64) : 0 ≤ bO_ x y ∧ bO_ x y < 64 := by
  obtain ⟨n, rfl⟩ := Int.eq_ofNat_of_zero_le hx.1
  obtain ⟨m, rfl⟩ := Int.eq_ofNat_of_zero_le hy.1
  have h := Nat.or_lt_two_pow (n := 6) (x := n) (y := m) (by omega) (by omega)
  rw [bO_n (by omega) (by omega)]
  omega
theorem sL_1 : ∀ r : Nat, r < 8 → sL_ 1 (r : Int) = ((2 ^ r : Nat) : Int) := by decide
theorem sL_t : ∀ r : Nat, r < 8 → ∀ q : Nat, q < 8 → (2 ^ r : Nat).testBit q = decide (q = r) := by decide
theorem sL_e {r : Int} (hr : 0 ≤ r ∧ r < 8) : (0 ≤ sL_ 1 r ∧ sL_ 1 r < 256) ∧ ∀ q, 0 ≤ q → q < 8 → bt_ (sL_ 1 r) q = decide (q = r) := by
  obtain ⟨n, rfl⟩ := Int.eq_ofNat_of_zero_le hr.1
  have h : 2 ^ n < 2 ^ 8 := Nat.pow_lt_pow_right (by decide) (by omega)
  rw [sL_1 n (by omega)]
  refine ⟨⟨Int.natCast_nonneg _, Int.ofNat_lt.mpr h⟩, fun q h0 h1 => ?_⟩
  obtain ⟨m, rfl⟩ := Int.eq_ofNat_of_zero_le h0
  unfold bt_
  refine (sL_t n (by omega) m (by omega)).trans ?_
  simp only [decide_eq_decide]
  omega
theorem sL_64 {r : Int} (hr : 0 ≤ r ∧ r < 6) : 0 ≤ sL_ 1 r ∧ sL_ 1 r < 64 := by
  obtain ⟨n, rfl⟩ := Int.eq_ofNat_of_zero_le hr.1
  have h : 2 ^ n < 2 ^ 6 := Nat.pow_lt_pow_right (by decide) (by omega)
  rw [sL_1 n (by omega)]
  exact ⟨Int.natCast_nonneg _, Int.ofNat_lt.mpr h⟩
theorem nX_1 : ∀ r : Nat, r < 8 → (Int32.ofInt (bX_ (sL_ 1 (r : Int)) (-1))).toBitVec = BitVec.ofNat 32 (4294967295 - 2 ^ r) := by decide
theorem nX_t : ∀ r : Nat, r < 8 → ∀ q : Nat, q < 8 → (4294967295 - 2 ^ r : Nat).testBit q = decide (q ≠ r) := by decide
theorem nA_e {x r : Int} (hx : 0 ≤ x ∧ x < 256) (hr : 0 ≤ r ∧ r < 8) : (0 ≤ bA_ x (bX_ (sL_ 1 r) (-1)) ∧ bA_ x (bX_ (sL_ 1 r) (-1)) ≤ x) ∧ ∀ q, 0 ≤ q → q < 8 → bt_ (bA_ x (bX_ (sL_ 1 r) (-1))) q = (bt_ x q && decide (q ≠ r)) := by
  obtain ⟨n, rfl⟩ := Int.eq_ofNat_of_zero_le hx.1
  obtain ⟨m, rfl⟩ := Int.eq_ofNat_of_zero_le hr.1
  have e : bA_ (n : Int) (bX_ (sL_ 1 (m : Int)) (-1)) = ((n &&& (4294967295 - 2 ^ m) : Nat) : Int) := by
    unfold bA_
    refine toI32 ?_ (Nat.lt_of_le_of_lt Nat.and_le_left (by omega))
    rw [Int32.toBitVec_and, BitVec.toNat_and, i32_nat, nX_1 m (by omega), BitVec.toNat_ofNat, BitVec.toNat_ofNat, Nat.mod_eq_of_lt (by omega), Nat.mod_eq_of_lt (Nat.lt_of_le_of_lt (Nat.sub_le _ _) (by decide))]
  have l := Nat.and_le_left (n := n) (m := 4294967295 - 2 ^ m)
  rw [e]
  refine ⟨by omega, fun q h0 h1 => ?_⟩
  obtain ⟨k, rfl⟩ := Int.eq_ofNat_of_zero_le h0
  unfold bt_
  refine (Nat.testBit_and ..).trans ?_
  refine congrArg (n.testBit k && ·) ((nX_t m (by omega) k (by omega)).trans ?_)
  simp only [decide_eq_decide]
  omega
theorem bt_ext {x y : Int} (hx : 0 ≤ x ∧ x < 256) (hy : 0 ≤ y ∧ y < 256) (h : ∀ q, 0 ≤ q → q < 8 → bt_ x q = bt_ y q) : x = y := by
  obtain ⟨n, rfl⟩ := Int.eq_ofNat_of_zero_le hx.1
  obtain ⟨m, rfl⟩ := Int.eq_ofNat_of_zero_le hy.1
  congr 1
  refine Nat.eq_of_testBit_eq fun i => ?_
  by_cases c : i < 8
  · exact h i (by omega) (by omega)
  · have p : 2 ^ 8 ≤ 2 ^ i := Nat.pow_le_pow_right (by decide) (by omega)
    rw [Nat.testBit_lt_two_pow (by omega), Nat.testBit_lt_two_pow (by omega)]
theorem bX_m {x : Int} (h : iR_ x) : bX_ x (-1) = -1 - x := by
  unfold bX_ iR_ at *
  have e : (Int32.ofInt x ^^^ Int32.ofInt (-1)).toBitVec = ~~~ (BitVec.ofInt 32 x) := by
    rw [Int32.toBitVec_xor]
    exact BitVec.xor_allOnes
  show (Int32.ofInt x ^^^ Int32.ofInt (-1)).toBitVec.toInt = _
  rw [e, BitVec.not_eq_neg_add]
  have e2 : -BitVec.ofInt 32 x - 1#32 = BitVec.ofInt 32 (-1 - x) := by
    rw [show (-1 - x : Int) = -x + -1 by omega, BitVec.ofInt_add, BitVec.ofInt_neg, BitVec.sub_eq_add_neg]
    rfl
  rw [e2, BitVec.toInt_ofInt_eq_self (by decide) (by omega) (by omega)]
/-- bits of long ones -/
theorem i64_nat (n : Nat) : (Int64.ofInt (n : Int)).toBitVec = BitVec.ofNat 64 n := BitVec.ofInt_natCast ..
theorem toI64 {b : Int64} {n : Nat} (h : b.toBitVec.toNat = n) (hn : n < 9223372036854775808) : b.toInt = (n : Int) := by
  show b.toBitVec.toInt = _
  rw [BitVec.toInt_eq_toNat_of_lt (by omega), h]
theorem lO_n {x y : Nat} (hx : x < 9223372036854775808) (hy : y < 9223372036854775808) : lO_ (x : Int) (y : Int) = ((x ||| y : Nat) : Int) := by
  unfold lO_
  refine toI64 ?_ (Nat.or_lt_two_pow (n := 63) hx hy)
  rw [Int64.toBitVec_or, BitVec.toNat_or, i64_nat, i64_nat, BitVec.toNat_ofNat, BitVec.toNat_ofNat, Nat.mod_eq_of_lt (by omega), Nat.mod_eq_of_lt (by omega)]
theorem lA_n {x y : Nat} (hx : x < 9223372036854775808) (hy : y < 9223372036854775808) : lA_ (x : Int) (y : Int) = ((x &&& y : Nat) : Int) := by
  unfold lA_
  refine toI64 ?_ (Nat.lt_of_le_of_lt Nat.and_le_left hx)
  rw [Int64.toBitVec_and, BitVec.toNat_and, i64_nat, i64_nat, BitVec.toNat_ofNat, BitVec.toNat_ofNat, Nat.mod_eq_of_lt (by omega), Nat.mod_eq_of_lt (by omega)]
theorem sh64 : ∀ r : Nat, r < 34 → ((Int32.ofInt (r : Int)).toInt64 &&& 63).toBitVec.smod 64#64 = BitVec.ofNat 64 r := by decide
theorem lR_n {x r : Nat} (hx : x < 9223372036854775808) (hr : r < 34) : lR_ (x : Int) (r : Int) = ((x >>> r : Nat) : Int) := by
  unfold lR_
  have hx2 : (BitVec.ofNat 64 x).toNat = x := by rw [BitVec.toNat_ofNat, Nat.mod_eq_of_lt (by omega)]
  refine toI64 ?_ (Nat.lt_of_le_of_lt (Nat.shiftRight_le x r) hx)
  rw [Int64.toBitVec_shiftRight]
  show ((Int64.ofInt (x : Int)).toBitVec.sshiftRight' (((Int32.ofInt (r : Int)).toInt64 &&& 63).toBitVec.smod 64#64)).toNat = _
  rw [sh64 r hr, i64_nat]
  show ((BitVec.ofNat 64 x).sshiftRight (BitVec.ofNat 64 r).toNat).toNat = _
  rw [BitVec.toNat_ofNat, Nat.mod_eq_of_lt (by omega), BitVec.sshiftRight_eq_of_msb_false (by
    rw [BitVec.msb_eq_false_iff_two_mul_lt, hx2]; omega), BitVec.toNat_ushiftRight, hx2]
theorem lL_1 : ∀ r : Nat, r < 34 → lL_ 1 (r : Int) = ((2 ^ r : Nat) : Int) := by decide
/-- the held faults: a bit for each split -/
theorem lbit_e {x r : Int} (hx : 0 ≤ x ∧ x < 9223372036854775808) (hr : 0 ≤ r ∧ r < 34) : lc_ (lA_ (lR_ x r) 1) 1 = if bt_ x r then 0 else -1 := by
  obtain ⟨n, rfl⟩ := Int.eq_ofNat_of_zero_le hx.1
  obtain ⟨m, rfl⟩ := Int.eq_ofNat_of_zero_le hr.1
  rw [lR_n (by omega) (by omega), show (1 : Int) = ((1 : Nat) : Int) from rfl, lA_n (Nat.lt_of_le_of_lt (Nat.shiftRight_le n m) (by omega)) (by decide), Nat.and_one_is_mod]
  unfold bt_ Nat.testBit
  rw [Int.toNat_natCast, Int.toNat_natCast, Nat.one_and_eq_mod_two]
  rcases Nat.mod_two_eq_zero_or_one (n >>> m) with h | h <;> rw [h] <;> rfl
theorem lset_e {x r : Int} (hx : 0 ≤ x ∧ x < 9223372036854775808) (hr : 0 ≤ r ∧ r < 34) : (0 ≤ lO_ x (lL_ 1 r) ∧ lO_ x (lL_ 1 r) < 9223372036854775808) ∧ ∀ q, 0 ≤ q → bt_ (lO_ x (lL_ 1 r)) q = (bt_ x q || decide (q = r)) := by
  obtain ⟨n, rfl⟩ := Int.eq_ofNat_of_zero_le hx.1
  obtain ⟨m, rfl⟩ := Int.eq_ofNat_of_zero_le hr.1
  have h2 : 2 ^ m < 2 ^ 63 := Nat.pow_lt_pow_right (by decide) (by omega)
  have h := Nat.or_lt_two_pow (n := 63) (x := n) (y := 2 ^ m) (by omega) (by omega)
  rw [lL_1 m (by omega), lO_n (by omega) (by omega)]
  refine ⟨by omega, fun q h0 => ?_⟩
  obtain ⟨k, rfl⟩ := Int.eq_ofNat_of_zero_le h0
  unfold bt_
  refine (Nat.testBit_or ..).trans ?_
  refine congrArg (n.testBit k || ·) (Nat.testBit_two_pow.trans ?_)
  simp only [decide_eq_decide]
  omega
