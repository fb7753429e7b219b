/-! bits of small numbers -/
theorem zsm : ∀ k, k < 32 → ((nI k &&& 31).toBitVec.smod 32).toNat = k := by decide +kernel
theorem zand (a b : Nat) : nI a &&& nI b = nI (a &&& b) := by
  refine Int32.toBitVec_inj.mp ?_
  rw [Int32.toBitVec_and]
  show BitVec.ofNat 32 a &&& BitVec.ofNat 32 b = BitVec.ofNat 32 (a &&& b)
  rw [BitVec.ofNat_and]
theorem zor (a b : Nat) : nI a ||| nI b = nI (a ||| b) := by
  refine Int32.toBitVec_inj.mp ?_
  rw [Int32.toBitVec_or]
  show BitVec.ofNat 32 a ||| BitVec.ofNat 32 b = BitVec.ofNat 32 (a ||| b)
  rw [BitVec.ofNat_or]
theorem zshr {s k : Nat} (hs : s < 2 ^ 31) (hk : k < 32) : nI s >>> (nI k &&& 31) = nI (s >>> k) := by
  have h1 : s >>> k < 2 ^ 31 := by
    rw [Nat.shiftRight_eq_div_pow]
    exact Nat.lt_of_le_of_lt (Nat.div_le_self _ _) hs
  refine Int32.toBitVec_inj.mp ?_
  rw [Int32.toBitVec_shiftRight]
  show (nI s).toBitVec.sshiftRight ((nI k &&& 31).toBitVec.smod 32).toNat = (nI (s >>> k)).toBitVec
  rw [zsm k hk]
  show (BitVec.ofNat 32 s).sshiftRight k = BitVec.ofNat 32 (s >>> k)
  rw [BitVec.sshiftRight_eq_of_msb_false (by rw [BitVec.msb_eq_false_iff_two_mul_lt, BitVec.toNat_ofNat]; omega)]
  refine BitVec.eq_of_toNat_eq ?_
  rw [BitVec.toNat_ushiftRight, BitVec.toNat_ofNat, BitVec.toNat_ofNat, Nat.mod_eq_of_lt (by omega), Nat.mod_eq_of_lt (by omega)]
theorem zbit {s k : Nat} (hs : s < 2 ^ 31) (hk : k < 32) : (((nI s >>> (nI k &&& 31)) &&& (1 : Int32)) = (1 : Int32)) = (s.testBit k = true) := by
  have h2 : (s >>> k) &&& 1 < 2 ^ 31 := Nat.lt_of_le_of_lt Nat.and_le_right (by decide)
  rw [zshr hs hk, show (1 : Int32) = nI 1 by decide, zand, nI_eq h2 (by decide)]
  refine propext ?_
  rw [Nat.testBit, Nat.and_comm]
  have h3 : 1 &&& (s >>> k) ≤ 1 := Nat.and_le_left
  constructor
  · intro h; rw [h]; rfl
  · intro h
    have : ¬ 1 &&& (s >>> k) = 0 := fun q => by rw [q] at h; cases h
    omega
