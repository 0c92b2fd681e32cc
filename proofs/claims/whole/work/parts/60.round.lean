/-! SHARES: small whole numbers in float, their quotients and products -/
section
abbrev fC := FP.Core.b32
def fD (c : Nat) (q : Int) : FP.Core.Datum := .fin false c q
theorem f_dec {c : Nat} {q : Int} (c1 : c < 16777216) (q0 : -149 ≤ q) (q1 : q ≤ 104) (c0 : 8388608 ≤ c) : FP.Core.decode fC (FP.Core.encode fC (fD c q)) = fD c q ∧ FP.Core.encode fC (fD c q) < 2139095040 := by
  have et : FP.Core.Fmt.tails fC = 8388608 := by decide
  have ee : FP.Core.Fmt.exps fC = 256 := by decide
  have eq : FP.Core.Fmt.qmin fC = -149 := by decide
  have e : FP.Core.encode fC (fD c q) = ((q + 149).toNat + 1) * 8388608 + (c - 8388608) := by
    unfold FP.Core.encode fD FP.Core.assemble
    dsimp only
    rw [et, ee, eq, if_neg (by omega), show (q - -149).toNat = (q + 149).toNat by omega]
    show (0 * 256 + _) * _ + _ = _
    rw [Nat.zero_mul, Nat.zero_add]
  rw [e]
  generalize hk : (q + 149).toNat + 1 = k
  have k1 : 1 ≤ k := by omega
  have k2 : k ≤ 254 := by omega
  have d1 : (k * 8388608 + (c - 8388608)) / 8388608 = k := by omega
  have d2 : (k * 8388608 + (c - 8388608)) % 8388608 = c - 8388608 := by omega
  refine ⟨?_, by omega⟩
  unfold FP.Core.decode FP.Core.fieldE FP.Core.fieldT FP.Core.fieldS
  rw [et, ee, eq, d1, d2, if_neg (by omega), if_neg (by omega)]
  unfold fD
  have s : (k / 256 % 2 == 1) = false := by
    rw [show k / 256 = 0 by omega]
    rfl
  rw [s, show 8388608 + (c - 8388608) = c by omega, show (-149 : Int) + (((k % 256 : Nat) : Int) - 1) = q by omega]
theorem f_bits {c : Nat} {q : Int} (c1 : c < 16777216) (q0 : -149 ≤ q) (q1 : q ≤ 104) (c0 : 8388608 ≤ c) : FP.Core.decode fC (UInt32.ofNat (FP.Core.encode fC (fD c q))).toNat = fD c q ∧ vf_n32 (UInt32.ofNat (FP.Core.encode fC (fD c q))) := by
  obtain ⟨a, b⟩ := f_dec c1 q0 q1 c0
  have e : (UInt32.ofNat (FP.Core.encode fC (fD c q))).toNat = FP.Core.encode fC (fD c q) := by
    rw [UInt32.toNat_ofNat']
    exact Nat.mod_eq_of_lt (by omega)
  refine ⟨by rw [e]; exact a, ?_⟩
  unfold vf_n32
  rw [UInt32.le_iff_toNat_le, UInt32.toNat_and, e]
  have := Nat.and_le_left (n := FP.Core.encode fC (fD c q)) (m := (0x7fffffff : UInt32).toNat)
  have w : (0x7f800000 : UInt32).toNat = 2139095040 := rfl
  omega
theorem nr_scale {a b k : Nat} (hk : 0 < k) : FP.Core.nearest (a * k) (b * k) = FP.Core.nearest a b := by
  unfold FP.Core.nearest
  rw [Nat.mul_mod_mul_right, Nat.mul_div_mul_right _ _ hk]
  have e1 : (2 * (a % b * k) < b * k) = (2 * (a % b) < b) := by
    rw [← Nat.mul_assoc]
    exact propext ⟨fun h => Nat.lt_of_mul_lt_mul_right h, fun h => Nat.mul_lt_mul_of_pos_right h hk⟩
  have e2 : (b * k < 2 * (a % b * k)) = (b < 2 * (a % b)) := by
    rw [← Nat.mul_assoc]
    exact propext ⟨fun h => Nat.lt_of_mul_lt_mul_right h, fun h => Nat.mul_lt_mul_of_pos_right h hk⟩
  simp only [e1, e2]
theorem nr_one {a : Nat} : FP.Core.nearest a 1 = a := by
  unfold FP.Core.nearest
  rw [Nat.mod_one, if_pos (by decide), Nat.div_one]
theorem nr_b {a b l u : Nat} (hb : 0 < b) (h1 : l * b ≤ a) (h2 : a < u * b) : l ≤ FP.Core.nearest a b ∧ FP.Core.nearest a b ≤ u := by
  have h3 : l ≤ a / b := (Nat.le_div_iff_mul_le hb).2 h1
  have h4 : a / b < u := (Nat.div_lt_iff_lt_mul hb).2 h2
  unfold FP.Core.nearest
  split
  · omega
  · split
    · omega
    · omega
/-- a settled number and what it is worth -/
theorem f_settle {c : Nat} {q : Int} (c0 : 8388608 ≤ c) (c1 : c ≤ 16777216) (q1 : q ≤ 103) : ∃ c' q', FP.Core.settle fC false c q = fD c' q' ∧ 8388608 ≤ c' ∧ c' < 16777216 ∧ (c' = c ∧ q' = q ∨ c = 16777216 ∧ c' = 8388608 ∧ q' = q + 1) := by
  have ep : (2 : Nat) ^ FP.Core.Fmt.p fC = 16777216 := by decide
  have eq : FP.Core.Fmt.qmax fC = 104 := by decide
  have et : FP.Core.Fmt.tails fC = 8388608 := by decide
  unfold FP.Core.settle FP.Core.bound
  rw [ep, eq, et]
  by_cases z : c < 16777216
  · exact ⟨c, q, by rw [if_pos z, if_pos (by omega)]; rfl, c0, z, Or.inl ⟨rfl, rfl⟩⟩
  · exact ⟨8388608, q + 1, by rw [if_neg z, if_pos (by omega)]; rfl, by omega, by omega, Or.inr ⟨by omega, rfl, rfl⟩⟩
theorem l2_b {n : Nat} (h : n ≠ 0) : 2 ^ n.log2 ≤ n ∧ n < 2 ^ (n.log2 + 1) := ⟨Nat.log2_self_le h, Nat.lt_log2_self⟩
theorem l2_of {n k : Nat} (h1 : 2 ^ k ≤ n) (h2 : n < 2 ^ (k + 1)) : n.log2 = k := by
  have n0 : n ≠ 0 := by
    have := Nat.two_pow_pos k
    omega
  have a := (Nat.le_log2 n0).2 h1
  have b := (Nat.log2_lt n0).2 h2
  omega
/-- a whole number in float -/
theorem f_ofInt {w : Nat} (w0 : 0 < w) (w1 : w < 16777216) : FP.Core.decode fC (FP.i2f (Int32.ofInt w)).toNat = fD (w * 2 ^ (23 - w.log2)) ((w.log2 : Int) - 23) ∧ 8388608 ≤ w * 2 ^ (23 - w.log2) ∧ w * 2 ^ (23 - w.log2) < 16777216 ∧ w.log2 ≤ 23 := by
  obtain ⟨b1, b2⟩ := l2_b (n := w) (by omega)
  have L : w.log2 ≤ 23 := by
    have := (Nat.log2_lt (n := w) (k := 24) (by omega)).2 (by omega)
    omega
  have c0 : 8388608 ≤ w * 2 ^ (23 - w.log2) := by
    have e : 2 ^ w.log2 * 2 ^ (23 - w.log2) = 8388608 := by rw [← Nat.pow_add, show w.log2 + (23 - w.log2) = 23 by omega]
    have := Nat.mul_le_mul_right (2 ^ (23 - w.log2)) b1
    omega
  have c1 : w * 2 ^ (23 - w.log2) < 16777216 := by
    have e : 2 ^ (w.log2 + 1) * 2 ^ (23 - w.log2) = 16777216 := by rw [← Nat.pow_add, show w.log2 + 1 + (23 - w.log2) = 24 by omega]
    have := Nat.mul_lt_mul_of_pos_right b2 (Nat.two_pow_pos (23 - w.log2))
    omega
  have ei : (Int32.ofInt (w : Int)).toInt = (w : Int) := by
    exact Int32.toInt_ofInt_of_le (by omega) (by omega)
  have ed : FP.Core.round fC (FP.Core.ofInt (w : Int)) = fD (w * 2 ^ (23 - w.log2)) ((w.log2 : Int) - 23) := by
    have e0 : FP.Core.ofInt (w : Int) = .fin false w 0 := by
      unfold FP.Core.ofInt
      rw [show decide ((w : Int) < 0) = false from decide_eq_false (by omega), show ((w : Int)).natAbs = w from rfl]
    rw [e0]
    show FP.Core.roundRatio fC false w 1 0 = _
    unfold FP.Core.roundRatio FP.Core.roundAt
    rw [if_neg (by omega)]
    have el : FP.Core.leading w 1 = (w.log2 : Int) := by
      unfold FP.Core.leading
      rw [show Nat.log2 1 = 0 from by decide]
      dsimp only
      rw [show ((w.log2 : Int) - ((0 : Nat) : Int)) = (w.log2 : Int) by omega, if_pos]
      rw [show (-(w.log2 : Int)).toNat = 0 by omega, show ((w.log2 : Int)).toNat = w.log2 by omega]
      omega
    have eq : FP.Core.quantum fC w 1 0 = (w.log2 : Int) - 23 := by
      unfold FP.Core.quantum
      rw [el, show FP.Core.Fmt.qmin fC = -149 by decide, show ((FP.Core.Fmt.p fC : Nat) : Int) = 24 from rfl]
      omega
    rw [eq]
    unfold FP.Core.unitsNum FP.Core.unitsDen
    rw [show (0 - ((w.log2 : Int) - 23)).toNat = 23 - w.log2 by omega, show ((w.log2 : Int) - 23 - 0).toNat = 0 by omega, show 1 * 2 ^ 0 = 1 from rfl, nr_one]
    obtain ⟨c', q', s1, s2, s3, s4⟩ := f_settle (c := w * 2 ^ (23 - w.log2)) (q := (w.log2 : Int) - 23) c0 (by omega) (by omega)
    rw [s1]
    rcases s4 with ⟨rfl, rfl⟩ | ⟨z, _⟩
    · rfl
    · omega
  refine ⟨?_, c0, c1, L⟩
  show FP.Core.decode fC (UInt32.ofNat (FP.Core.fromInt fC (Int32.ofInt (w : Int)).toInt)).toNat = _
  unfold FP.Core.fromInt
  rw [ei, ed]
  exact (f_bits c1 (by omega) (by omega) c0).1
/-- what a datum is worth, in units of 2^-s -/
theorem f_div {w s : Nat} (w0 : 0 < w) (w1 : w ≤ 100000) (hs1 : 8388608000 ≤ w * 2 ^ s) (hs2 : w * 2 ^ (s - 1) < 8388608000) : ∃ c q, FP.Core.decode fC (FP.fdiv (FP.i2f (Int32.ofInt w)) (1148846080 : UInt32)).toNat = fD c q ∧ vf_n32 (FP.fdiv (FP.i2f (Int32.ofInt w)) (1148846080 : UInt32)) ∧ 8388608 ≤ c ∧ c < 16777216 ∧ 8388608 ≤ FP.Core.nearest (w * 2 ^ s) 1000 ∧ FP.Core.nearest (w * 2 ^ s) 1000 ≤ 16777216 ∧ s ≤ 33 ∧ 15 ≤ s ∧
    (c = FP.Core.nearest (w * 2 ^ s) 1000 ∧ q = -(s : Int) ∨ FP.Core.nearest (w * 2 ^ s) 1000 = 16777216 ∧ c = 8388608 ∧ q = -(s : Int) + 1) := by
  obtain ⟨d1, c0, c1, L⟩ := f_ofInt w0 (show w < 16777216 by omega)
  obtain ⟨b1, b2⟩ := l2_b (n := w) (by omega)
  have L16 : w.log2 ≤ 16 := by
    have := (Nat.log2_lt (n := w) (k := 17) (by omega)).2 (by omega)
    omega
  have e1000 : FP.Core.decode fC (1148846080 : UInt32).toNat = fD 16384000 (-14) := by decide
  generalize hL : w.log2 = l at *
  -- where the last digit stands
  have hs : ∃ i : Nat, i ≤ 1 ∧ s = 32 - l + i ∧ FP.Core.leading (w * 2 ^ (23 - l)) 16384000 = -(i : Int) := by
    have p0 : w * 2 ^ (32 - l) = w * 2 ^ (23 - l) * 512 := by rw [Nat.mul_assoc, show (512 : Nat) = 2 ^ 9 from rfl, ← Nat.pow_add, show 23 - l + 9 = 32 - l by omega]
    have p1 : w * 2 ^ (31 - l) = w * 2 ^ (23 - l) * 256 := by rw [Nat.mul_assoc, show (256 : Nat) = 2 ^ 8 from rfl, ← Nat.pow_add, show 23 - l + 8 = 31 - l by omega]
    have p2 : w * 2 ^ (33 - l) = w * 2 ^ (23 - l) * 1024 := by rw [Nat.mul_assoc, show (1024 : Nat) = 2 ^ 10 from rfl, ← Nat.pow_add, show 23 - l + 10 = 33 - l by omega]
    have el : FP.Core.leading (w * 2 ^ (23 - l)) 16384000 = if 16384000 ≤ w * 2 ^ (23 - l) then 0 else -1 := by
      unfold FP.Core.leading
      rw [l2_of (n := w * 2 ^ (23 - l)) (k := 23) (by omega) (by omega), show Nat.log2 16384000 = 23 by decide]
      show (if 16384000 * 2 ^ 0 ≤ w * 2 ^ (23 - l) * 2 ^ 0 then (0 : Int) else 0 - 1) = _
      by_cases y : 16384000 ≤ w * 2 ^ (23 - l)
      · rw [if_pos y, if_pos (by omega)]
      · rw [if_neg y, if_neg (by omega)]
        rfl
    have mono : ∀ a b : Nat, a ≤ b → w * 2 ^ a ≤ w * 2 ^ b := fun a b h => Nat.mul_le_mul_left w (Nat.pow_le_pow_right (by decide) h)
    by_cases z : 16384000 ≤ w * 2 ^ (23 - l)
    · refine ⟨0, by omega, ?_, by rw [el, if_pos z]; rfl⟩
      by_cases z1 : s ≤ 31 - l
      · have := mono s (31 - l) z1
        omega
      · by_cases z2 : s = 32 - l
        · omega
        · have := mono (32 - l) (s - 1) (by omega)
          omega
    · refine ⟨1, by omega, ?_, by rw [el, if_neg z]; rfl⟩
      by_cases z1 : s ≤ 32 - l
      · have := mono s (32 - l) z1
        omega
      · by_cases z2 : s = 33 - l
        · omega
        · have := mono (33 - l) (s - 1) (by omega)
          omega
  obtain ⟨i, i1, hsi, hlead⟩ := hs
  have nb := nr_b (a := w * 2 ^ s) (b := 1000) (l := 8388608) (u := 16777216) (by decide) (by omega) (by
    have e : w * 2 ^ s ≤ 2 * (w * 2 ^ (s - 1)) := by
      rw [Nat.mul_comm 2, Nat.mul_assoc, show 2 ^ (s - 1) * 2 = 2 ^ s by rw [← Nat.pow_succ, Nat.succ_eq_add_one, show s - 1 + 1 = s by omega]]
      exact Nat.le_refl _
    omega)
  have ed : FP.Core.quotient fC (fD (w * 2 ^ (23 - l)) ((l : Int) - 23)) (fD 16384000 (-14)) = FP.Core.settle fC false (FP.Core.nearest (w * 2 ^ s) 1000) (-(s : Int)) := by
    unfold fD FP.Core.quotient
    dsimp only
    rw [if_neg (by decide), show (false != false) = false from rfl]
    unfold FP.Core.roundRatio FP.Core.roundAt
    rw [if_neg (by omega)]
    have eq : FP.Core.quantum fC (w * 2 ^ (23 - l)) 16384000 ((l : Int) - 23 - -14) = -(s : Int) := by
      unfold FP.Core.quantum
      rw [hlead, show FP.Core.Fmt.qmin fC = -149 by decide, show ((FP.Core.Fmt.p fC : Nat) : Int) = 24 from rfl]
      omega
    rw [eq]
    unfold FP.Core.unitsNum FP.Core.unitsDen
    rw [show ((l : Int) - 23 - -14 - -(s : Int)).toNat = 23 + i by omega, show (-(s : Int) - ((l : Int) - 23 - -14)).toNat = 0 by omega]
    have e1 : w * 2 ^ (23 - l) * 2 ^ (23 + i) = w * 2 ^ s * 16384 := by
      rw [Nat.mul_assoc, Nat.mul_assoc, ← Nat.pow_add, show (16384 : Nat) = 2 ^ 14 from rfl, ← Nat.pow_add, show 23 - l + (23 + i) = s + 14 by omega]
    rw [e1, show 16384000 * 2 ^ 0 = 1000 * 16384 from rfl, nr_scale (by decide)]
  obtain ⟨c', q', s1, s2, s3, s4⟩ := f_settle (c := FP.Core.nearest (w * 2 ^ s) 1000) (q := -(s : Int)) nb.1 nb.2 (by omega)
  have bits := f_bits (c := c') (q := q') s3 (by omega) (by omega) s2
  have ev : FP.fdiv (FP.i2f (Int32.ofInt w)) (1148846080 : UInt32) = UInt32.ofNat (FP.Core.encode fC (fD c' q')) := by
    show UInt32.ofNat (FP.Core.encode fC (FP.Core.quotient fC (FP.Core.decode fC (FP.i2f (Int32.ofInt w)).toNat) (FP.Core.decode fC (1148846080 : UInt32).toNat))) = _
    rw [d1, e1000, ed, s1]
  exact ⟨c', q', by rw [ev]; exact bits.1, by rw [ev]; exact bits.2, s2, s3, nb.1, nb.2, by omega, by omega, s4⟩
theorem f_mul {x : UInt32} {c : Nat} {q : Int} {n k s : Nat} (hx : FP.Core.decode fC x.toNat = fD c q) (c0 : 8388608 ≤ c) (c1 : c < 16777216) (s0 : 15 ≤ s) (s1 : s ≤ 33) (n0 : 8388608 ≤ n) (n1 : n ≤ 16777216) (hc : c = n ∧ q = -(s : Int) ∨ n = 16777216 ∧ c = 8388608 ∧ q = -(s : Int) + 1) (k0 : 0 < k) (k1 : k ≤ 100000) {e : Nat} (he1 : 8388608 * 2 ^ e ≤ n * k) (he2 : n * k < 16777216 * 2 ^ e) :
    vf_n32 (FP.fmul x (FP.i2f (Int32.ofInt k))) ∧ (FP.f2i (FP.fmul x (FP.i2f (Int32.ofInt k)))).toInt = ((FP.Core.nearest (n * k) (2 ^ e) * 2 ^ e / 2 ^ s : Nat) : Int) ∧ FP.Core.nearest (n * k) (2 ^ e) ≤ 16777216 ∧ e ≤ 17 := by
  obtain ⟨d1, b0, b1, L⟩ := f_ofInt k0 (show k < 16777216 by omega)
  have L16 : k.log2 ≤ 16 := by
    have := (Nat.log2_lt (n := k) (k := 17) (by omega)).2 (by omega)
    omega
  generalize hL : k.log2 = l at *
  have nk1 : n * k ≤ 16777216 * 100000 := Nat.mul_le_mul n1 k1
  have e17 : e ≤ 17 := by
    by_cases z : e ≤ 17
    · exact z
    · have : (2 : Nat) ^ 18 ≤ 2 ^ e := Nat.pow_le_pow_right (by decide) (by omega)
      rw [show (2 : Nat) ^ 18 = 262144 from rfl] at this
      omega
  have pe := Nat.two_pow_pos e
  obtain ⟨m0, m1⟩ := nr_b (a := n * k) (b := 2 ^ e) (l := 8388608) (u := 16777216) pe he1 he2
  have hj : ∃ j : Nat, c * (k * 2 ^ (23 - l)) = n * k * 2 ^ j ∧ q + ((l : Int) - 23) = -(s : Int) - j ∧ j ≤ 23 := by
    rcases hc with ⟨rfl, rfl⟩ | ⟨rfl, rfl, rfl⟩
    · exact ⟨23 - l, by rw [Nat.mul_assoc], by omega, by omega⟩
    · refine ⟨22 - l, ?_, by omega, by omega⟩
      rw [show 23 - l = 22 - l + 1 by omega, Nat.pow_succ]
      generalize 2 ^ (22 - l) = z
      rw [show 16777216 * k * z = 8388608 * (k * (z * 2)) by
        rw [Nat.mul_comm z 2, ← Nat.mul_assoc k 2 z, Nat.mul_comm k 2, ← Nat.mul_assoc 8388608 (2 * k) z, ← Nat.mul_assoc 8388608 2 k]]
  obtain ⟨j, j1, j2, j3⟩ := hj
  have lg : (n * k * 2 ^ j).log2 = 23 + e + j := by
    refine l2_of ?_ ?_
    · rw [Nat.pow_add, Nat.pow_add]
      exact Nat.mul_le_mul_right _ he1
    · rw [show 23 + e + j + 1 = 24 + e + j by omega, Nat.pow_add, Nat.pow_add]
      exact Nat.mul_lt_mul_of_pos_right he2 (Nat.two_pow_pos j)
  have ed : FP.Core.round fC (FP.Core.exactProduct (fD c q) (fD (k * 2 ^ (23 - l)) ((l : Int) - 23))) = FP.Core.settle fC false (FP.Core.nearest (n * k) (2 ^ e)) ((e : Int) - s) := by
    unfold fD FP.Core.exactProduct FP.Core.round
    dsimp only
    rw [j1, j2, show (false != false) = false from rfl]
    unfold FP.Core.roundRatio FP.Core.roundAt
    have np : 0 < n * k * 2 ^ j := Nat.mul_pos (Nat.mul_pos (by omega) k0) (Nat.two_pow_pos j)
    rw [if_neg (by omega)]
    have el : FP.Core.leading (n * k * 2 ^ j) 1 = ((23 + e + j : Nat) : Int) := by
      unfold FP.Core.leading
      rw [lg, show Nat.log2 1 = 0 from by decide]
      dsimp only
      rw [show (((23 + e + j : Nat) : Int) - ((0 : Nat) : Int)) = ((23 + e + j : Nat) : Int) by omega, if_pos]
      rw [show (-((23 + e + j : Nat) : Int)).toNat = 0 by omega, show (((23 + e + j : Nat) : Int)).toNat = 23 + e + j by omega, Nat.one_mul, Nat.pow_zero, Nat.mul_one, ← lg]
      exact Nat.log2_self_le (by omega)
    have eq : FP.Core.quantum fC (n * k * 2 ^ j) 1 (-(s : Int) - j) = (e : Int) - s := by
      unfold FP.Core.quantum
      rw [el, show FP.Core.Fmt.qmin fC = -149 by decide, show ((FP.Core.Fmt.p fC : Nat) : Int) = 24 from rfl]
      omega
    rw [eq]
    unfold FP.Core.unitsNum FP.Core.unitsDen
    rw [show (-(s : Int) - j - ((e : Int) - s)).toNat = 0 by omega, show ((e : Int) - s - (-(s : Int) - j)).toNat = e + j by omega, Nat.pow_zero, Nat.mul_one, Nat.one_mul, Nat.pow_add, nr_scale (Nat.two_pow_pos j)]
  obtain ⟨c', q', t1, t2, t3, t4⟩ := f_settle (c := FP.Core.nearest (n * k) (2 ^ e)) (q := (e : Int) - s) m0 m1 (by omega)
  have bits := f_bits (c := c') (q := q') t3 (by omega) (by omega) t2
  have ev : FP.fmul x (FP.i2f (Int32.ofInt k)) = UInt32.ofNat (FP.Core.encode fC (fD c' q')) := by
    show UInt32.ofNat (FP.Core.encode fC (FP.Core.round fC (FP.Core.exactProduct (FP.Core.decode fC x.toNat) (FP.Core.decode fC (FP.i2f (Int32.ofInt k)).toNat)))) = _
    rw [hx, d1, ed, t1]
  refine ⟨by rw [ev]; exact bits.2, ?_, m1, e17⟩
  rw [ev]
  show (FP.Core.toI (FP.Core.decode fC (UInt32.ofNat (FP.Core.encode fC (fD c' q'))).toNat)).toInt = _
  rw [bits.1]
  have tr : FP.Core.truncate false c' q' = ((FP.Core.nearest (n * k) (2 ^ e) * 2 ^ e / 2 ^ s : Nat) : Int) := by
    unfold FP.Core.truncate FP.Core.signed
    rw [if_neg (by decide)]
    congr 1
    have main : ∀ M : Nat, M * 2 ^ ((e : Int) - s).toNat / 2 ^ (-((e : Int) - s)).toNat = M * 2 ^ e / 2 ^ s := fun M => by
      by_cases z : e ≤ s
      · rw [show ((e : Int) - s).toNat = 0 by omega, show (-((e : Int) - s)).toNat = s - e by omega, Nat.pow_zero, Nat.mul_one, show (2 : Nat) ^ s = 2 ^ (s - e) * 2 ^ e by rw [← Nat.pow_add, show s - e + e = s by omega], Nat.mul_div_mul_right _ _ pe]
      · rw [show ((e : Int) - s).toNat = e - s by omega, show (-((e : Int) - s)).toNat = 0 by omega, Nat.pow_zero, Nat.div_one, show (2 : Nat) ^ e = 2 ^ (e - s) * 2 ^ s by rw [← Nat.pow_add, show e - s + s = e by omega], ← Nat.mul_assoc, Nat.mul_div_cancel _ (Nat.two_pow_pos s)]
    rcases t4 with ⟨rfl, rfl⟩ | ⟨z, rfl, rfl⟩
    · exact main _
    · rw [z, ← main]
      by_cases y : e + 1 ≤ s
      · rw [show ((e : Int) - s + 1).toNat = 0 by omega, show (-((e : Int) - s + 1)).toNat = s - e - 1 by omega, show ((e : Int) - s).toNat = 0 by omega, show (-((e : Int) - s)).toNat = s - e - 1 + 1 by omega, Nat.pow_zero, Nat.mul_one, Nat.mul_one, Nat.pow_succ, show (16777216 : Nat) = 8388608 * 2 from rfl, Nat.mul_div_mul_right _ _ (by decide)]
      · rw [show ((e : Int) - s + 1).toNat = e - s + 1 by omega, show (-((e : Int) - s + 1)).toNat = 0 by omega, show ((e : Int) - s).toNat = e - s by omega, show (-((e : Int) - s)).toNat = 0 by omega, Nat.pow_succ, Nat.pow_zero, Nat.div_one, Nat.div_one]
        omega
  have bd : FP.Core.nearest (n * k) (2 ^ e) * 2 ^ e / 2 ^ s ≤ 67108864 := by
    have h1 : (2 : Nat) ^ e ≤ 2 ^ 17 := Nat.pow_le_pow_right (by decide) e17
    have h2 : (2 : Nat) ^ 15 ≤ 2 ^ s := Nat.pow_le_pow_right (by decide) s0
    have h3 : FP.Core.nearest (n * k) (2 ^ e) * 2 ^ e ≤ 16777216 * 2 ^ 17 := Nat.mul_le_mul m1 h1
    have h4 := Nat.div_le_div h3 h2 (by decide)
    have h5 : 16777216 * 2 ^ 17 / 2 ^ 15 = 67108864 := by decide
    omega
  unfold FP.Core.toI fD FP.Core.toInt
  dsimp only
  rw [tr]
  generalize FP.Core.nearest (n * k) (2 ^ e) * 2 ^ e / 2 ^ s = v at bd
  rw [show max (-2 ^ 31 : Int) (min (2 ^ 31 - 1) (v : Int)) = (v : Int) by omega]
  exact Int32.toInt_ofInt_of_le (by omega) (by omega)
end
