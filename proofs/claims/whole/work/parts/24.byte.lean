/-! A BYTE of a number: shifted with its sign or without, the lowest eight bits are the same -/
theorem and255 (X : BitVec 32) : 0 ≤ (X &&& 255#32).toInt ∧ (X &&& 255#32).toInt ≤ 255 := by
  have h1 : (X &&& 255#32).toNat ≤ 255 := by
    rw [BitVec.toNat_and]
    exact Nat.and_le_right
  rw [BitVec.toInt_eq_toNat_cond]
  rw [if_pos (by omega)]
  omega
theorem xand_rng (x : Int) : 0 ≤ xand x 255 ∧ xand x 255 ≤ 255 := and255 (Int32.ofInt x).toBitVec
theorem sh_eq (x : BitVec 64) (s : Nat) (hs : s ≤ 56) : (x.ushiftRight s).signExtend 32 &&& 255#32 = (x.sshiftRight s).signExtend 32 &&& 255#32 := by
  refine BitVec.eq_of_getLsbD_eq fun i hi => ?_
  by_cases h8 : i < 8
  · have h1 : s + i < 64 := by omega
    have h2 : i < 64 := by omega
    have e : (x.ushiftRight s).getLsbD i = (x.sshiftRight s).getLsbD i := by
      have e1 : (x.ushiftRight s).getLsbD i = x.getLsbD (s + i) := BitVec.getLsbD_ushiftRight x s i
      rw [e1, BitVec.getLsbD_sshiftRight, if_pos h1]
      simp
      omega
    simp only [BitVec.getLsbD_and, BitVec.getLsbD_signExtend, e, if_pos h2]
  · have e : (255#32).getLsbD i = false := by
      rw [BitVec.getLsbD_ofNat]
      have : Nat.testBit 255 i = false := Nat.testBit_lt_two_pow (Nat.lt_of_lt_of_le (by decide : 255 < 2 ^ 8) (Nat.pow_le_pow_right (by decide) (by omega)))
      simp [this]
    simp only [BitVec.getLsbD_and, e, Bool.and_false]
theorem sh_k (l : Int64) (k : Int) (h0 : 0 ≤ k) (h8 : k < 8) : (xlushr l (8 * k)).toInt32 &&& 255 = (xlshr l (8 * k)).toInt32 &&& 255 := by
  have key : k = 0 ∨ k = 1 ∨ k = 2 ∨ k = 3 ∨ k = 4 ∨ k = 5 ∨ k = 6 ∨ k = 7 := by omega
  refine Int32.toBitVec_inj.mp ?_
  rcases key with rfl | rfl | rfl | rfl | rfl | rfl | rfl | rfl
  · exact sh_eq l.toBitVec 0 (by decide)
  · exact sh_eq l.toBitVec 8 (by decide)
  · exact sh_eq l.toBitVec 16 (by decide)
  · exact sh_eq l.toBitVec 24 (by decide)
  · exact sh_eq l.toBitVec 32 (by decide)
  · exact sh_eq l.toBitVec 40 (by decide)
  · exact sh_eq l.toBitVec 48 (by decide)
  · exact sh_eq l.toBitVec 56 (by decide)
theorem byte_eq (l : Int64) (k : Int) (h0 : 0 ≤ k) (h8 : k < 8) : xand (Int64.toInt32 (xlushr l (8 * k))).toInt 255 = xand (Int64.toInt32 (xlshr l (8 * k))).toInt 255 := by
  unfold xand
  rw [Int32.ofInt_toInt, Int32.ofInt_toInt]
  exact congrArg Int32.toInt (sh_k l k h0 h8)
