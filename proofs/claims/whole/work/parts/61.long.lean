/-! SHARES: small whole numbers in long -/
theorem sh_m : ∀ k : Fin 64, ((Int32.ofInt (k.val : Int)).toInt64 &&& 63).toBitVec.smod 64 = BitVec.ofNat 64 k.val := by decide
theorem sh_m' {k : Nat} (hk : k < 64) : ((Int32.ofInt (k : Int)).toInt64 &&& 63).toBitVec.smod 64 = BitVec.ofNat 64 k := sh_m ⟨k, hk⟩
theorem l_bv {n : Nat} (h : n < 4611686018427387904) : (Int64.ofNat n).toBitVec.toNat = n := by
  show (BitVec.ofNat 64 n).toNat = n
  rw [BitVec.toNat_ofNat]
  exact Nat.mod_eq_of_lt (by omega)
theorem l_int {n : Nat} (h : n < 4611686018427387904) : (Int64.ofNat n).toInt = (n : Int) := Int64.toInt_ofNat_of_lt (by omega)
theorem l_eq {x : Int64} {n : Nat} (h : n < 4611686018427387904) (e : x.toBitVec.toNat = n) : x = Int64.ofNat n := by
  rw [← Int64.toBitVec_inj]
  apply BitVec.eq_of_toNat_eq
  rw [l_bv h, e]
theorem l_shl {n k : Nat} (hk : k < 64) (h : n * 2 ^ k < 4611686018427387904) : xlshl (Int64.ofNat n) (k : Int) = Int64.ofNat (n * 2 ^ k) := by
  refine l_eq h ?_
  have hn : n < 4611686018427387904 := by
    have := Nat.le_mul_of_pos_right n (Nat.two_pow_pos k)
    omega
  unfold xlshl
  rw [Int64.toBitVec_shiftLeft, sh_m' hk, BitVec.shiftLeft_eq', BitVec.toNat_shiftLeft, l_bv hn, BitVec.toNat_ofNat, Nat.mod_eq_of_lt (show k < 2 ^ 64 by omega), Nat.shiftLeft_eq]
  exact Nat.mod_eq_of_lt (by omega)
theorem l_shr {n k : Nat} (hk : k < 64) (h : n < 4611686018427387904) : xlshr (Int64.ofNat n) (k : Int) = Int64.ofNat (n / 2 ^ k) := by
  have hd : n / 2 ^ k ≤ n := Nat.div_le_self _ _
  refine l_eq (by omega) ?_
  unfold xlshr
  have msb : (Int64.ofNat n).toBitVec.msb = false := by
    rw [BitVec.msb_eq_false_iff_two_mul_lt, l_bv h]
    omega
  rw [Int64.toBitVec_shiftRight, sh_m' hk, BitVec.sshiftRight_eq', BitVec.sshiftRight_eq_of_msb_false msb, BitVec.toNat_ushiftRight, l_bv h, BitVec.toNat_ofNat, Nat.mod_eq_of_lt (show k < 2 ^ 64 by omega), Nat.shiftRight_eq_div_pow]
theorem l_div {a b : Nat} (ha : a < 4611686018427387904) (hb : b < 4611686018427387904) : Int64.ofNat a / Int64.ofNat b = Int64.ofNat (a / b) := by
  have hd : a / b ≤ a := Nat.div_le_self _ _
  rw [← Int64.toInt_inj, Int64.toInt_div_of_ne_right _ _ (fun z => by
    have := congrArg Int64.toInt z
    rw [l_int hb] at this
    rw [show (-1 : Int64).toInt = -1 by decide] at this
    omega), l_int ha, l_int hb, l_int (by omega)]
  rfl
theorem l_and {n k : Nat} (hk : k < 62) (h : n < 4611686018427387904) : Int64.ofNat n &&& Int64.ofNat (2 ^ k - 1) = Int64.ofNat (n % 2 ^ k) := by
  have p : 2 ^ k ≤ 2 ^ 61 := Nat.pow_le_pow_right (by decide) (by omega)
  have hm : n % 2 ^ k ≤ n := Nat.mod_le _ _
  refine l_eq (by omega) ?_
  rw [Int64.toBitVec_and, BitVec.toNat_and, l_bv h, l_bv (by omega), Nat.and_two_pow_sub_one_eq_mod]
theorem l_cmp {a b : Nat} (ha : a < 4611686018427387904) (hb : b < 4611686018427387904) : (lg_cmp (Int64.ofNat a) (Int64.ofNat b)).toInt = if b < a then 1 else if a = b then 0 else -1 := by
  unfold lg_cmp
  simp only [gt_iff_lt, Int64.lt_iff_toInt_lt, ← Int64.toInt_inj, l_int ha, l_int hb]
  by_cases z : b < a
  · rw [if_pos (by omega), if_pos z]; decide
  · rw [if_neg (by omega), if_neg z]
    by_cases y : a = b
    · rw [if_pos (by omega), if_pos y]; decide
    · rw [if_neg (by omega), if_neg y]; decide
