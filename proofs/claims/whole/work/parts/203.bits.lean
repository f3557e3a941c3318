/-! bits -/
theorem nBV (a : Nat) : (nI a).toBitVec = BitVec.ofNat 32 a := rfl
theorem bvE {x y : Int32} (h : x.toBitVec = y.toBitVec) : x = y := Int32.toBitVec_inj.mp h
theorem nXor (a b : Nat) : nI a ^^^ nI b = nI (a ^^^ b) := by
  apply bvE; rw [Int32.toBitVec_xor, nBV, nBV, nBV, BitVec.ofNat_xor]
theorem nAnd (a b : Nat) : nI a &&& nI b = nI (a &&& b) := by
  apply bvE; rw [Int32.toBitVec_and, nBV, nBV, nBV, BitVec.ofNat_and]
theorem nOr (a b : Nat) : nI a ||| nI b = nI (a ||| b) := by
  apply bvE; rw [Int32.toBitVec_or, nBV, nBV, nBV, BitVec.ofNat_or]
theorem nShl {n : Nat} (h : n < 31) : nI 1 <<< (nI n &&& nI 31) = nI (2 ^ n) := by
  have q : ∀ n, n < 31 → nI 1 <<< (nI n &&& nI 31) = nI (2 ^ n) := by decide +kernel
  exact q n h
theorem n31 {n : Nat} (h : n < 32) : nI n &&& nI 31 = nI n := by
  have q : ∀ n, n < 32 → nI n &&& nI 31 = nI n := by decide +kernel
  exact q n h
theorem nShr {j n : Nat} (hj : j < 2147483648) (h : n < 32) : nI j >>> (nI n &&& nI 31) = nI (j >>> n) := by
  rw [n31 h]
  apply bvE
  rw [Int32.toBitVec_shiftRight, nBV, nBV, nBV]
  have e : (BitVec.ofNat 32 n).smod 32 = BitVec.ofNat 32 n := by
    have q : ∀ n, n < 32 → (BitVec.ofNat 32 n).smod 32 = BitVec.ofNat 32 n := by decide +kernel
    exact q n h
  rw [e]
  have hm : (BitVec.ofNat 32 j).msb = false := by
    rw [BitVec.msb_eq_decide]
    apply decide_eq_false
    rw [BitVec.toNat_ofNat]; omega
  rw [BitVec.sshiftRight'_ofNat_eq_sshiftRight, BitVec.sshiftRight_eq_of_msb_false hm]
  apply BitVec.eq_of_toNat_eq
  rw [BitVec.toNat_ushiftRight, BitVec.toNat_ofNat, BitVec.toNat_ofNat]
  rw [Nat.mod_eq_of_lt (show j < 2 ^ 32 by omega), Nat.mod_eq_of_lt (show n < 2 ^ 32 by omega), Nat.mod_eq_of_lt]
  have := Nat.shiftRight_le j n
  omega
theorem tb1 (j n : Nat) : ((j >>> n) &&& 1 = 1) = (j.testBit n = true) := by
  rw [Nat.testBit, Nat.and_comm]
  have : 1 &&& (j >>> n) = 0 ∨ 1 &&& (j >>> n) = 1 := by
    rw [Nat.and_comm, Nat.and_one_is_mod]; omega
  rcases this with h | h <;> rw [h] <;> simp
theorem hasN {j n : Nat} (hj : j < 2147483648) (h : n < 32) : ((nI j >>> (nI n &&& nI 31)) &&& nI 1 = nI 1) = (j.testBit n = true) := by
  have := Nat.shiftRight_le j n
  have h2 := Nat.and_le_left (n := j >>> n) (m := 1)
  rw [nShr hj h, nAnd, nEq (by omega) (by omega), tb1]
theorem nM1 : -nI 1 = nI 4294967295 := by decide
theorem nClr {a n : Nat} (h : n < 31) : nI a &&& ((nI 1 <<< (nI n &&& nI 31)) ^^^ -nI 1) = nI (a &&& (2 ^ n ^^^ 4294967295)) := by
  rw [nShl h, nM1, nXor, nAnd]
theorem clr_le (a n : Nat) : a &&& (2 ^ n ^^^ 4294967295) ≤ a := Nat.and_le_left
theorem clr_tb {a n i : Nat} (hi : i < 32) : (a &&& (2 ^ n ^^^ 4294967295)).testBit i = (a.testBit i && !decide (n = i)) := by
  rw [Nat.testBit_and, Nat.testBit_xor, Nat.testBit_two_pow, show (4294967295 : Nat) = 2 ^ 32 - 1 from rfl, Nat.testBit_two_pow_sub_one]
  simp [hi]
theorem xor_lt {j n m : Nat} (hj : j < 2 ^ m) (hn : n < m) : j ^^^ 2 ^ n < 2 ^ m := Nat.xor_lt_two_pow hj (Nat.pow_lt_pow_right (by omega) hn)
theorem or_lt {j n m : Nat} (hj : j < 2 ^ m) (hn : n < m) : j ||| 2 ^ n < 2 ^ m := Nat.or_lt_two_pow hj (Nat.pow_lt_pow_right (by omega) hn)
theorem and63 (x : Int32) : ∃ n, n ≤ 63 ∧ x &&& nI 63 = nI n := by
  refine ⟨x.toBitVec.toNat &&& 63, Nat.and_le_right, ?_⟩
  apply bvE
  rw [Int32.toBitVec_and, nBV, nBV]
  apply BitVec.eq_of_toNat_eq
  rw [BitVec.toNat_and, BitVec.toNat_ofNat, BitVec.toNat_ofNat, Nat.mod_eq_of_lt (show 63 < 2 ^ 32 by omega), Nat.mod_eq_of_lt]
  have := Nat.and_le_right (n := x.toBitVec.toNat) (m := 63)
  omega
theorem and7 (x : Int32) : ∃ n, n ≤ 7 ∧ x &&& nI 7 = nI n := by
  refine ⟨x.toBitVec.toNat &&& 7, Nat.and_le_right, ?_⟩
  apply bvE
  rw [Int32.toBitVec_and, nBV, nBV]
  apply BitVec.eq_of_toNat_eq
  rw [BitVec.toNat_and, BitVec.toNat_ofNat, BitVec.toNat_ofNat, Nat.mod_eq_of_lt (show 7 < 2 ^ 32 by omega), Nat.mod_eq_of_lt]
  have := Nat.and_le_right (n := x.toBitVec.toNat) (m := 7)
  omega
