/-! SHARES: the class's and the model's -/
theorem nr_half {a b : Nat} : FP.Core.nearest a b = if b < 2 * (a % b) then a / b + 1 else if 2 * (a % b) = b then a / b + a / b % 2 else a / b := by
  unfold FP.Core.nearest
  by_cases z : 2 * (a % b) < b
  · rw [if_pos z, if_neg (by omega), if_neg (by omega)]
  · rw [if_neg z]
    by_cases y : b < 2 * (a % b)
    · rw [if_pos y, if_pos y]
    · rw [if_neg y, if_neg y, if_pos (by omega)]
theorem cmp_nn {a b : Nat} (h : b ≤ a) : ¬ ((if b < a then (1 : Int) else if a = b then 0 else -1) < 0) := by
  by_cases z : b < a
  · rw [if_pos z]; decide
  · rw [if_neg z, if_pos (by omega)]; decide
/-- the share as one whole number -/
def shv' (n k e s : Nat) : Int := ((FP.Core.nearest (n * k) (2 ^ e) * 2 ^ e / 2 ^ s : Nat) : Int)
theorem m_share {h : xH} {w k : Nat} (hw : h 81 15 = w) (w0 : 0 < w) (w1 : w ≤ 100000) (k0 : 0 < k) (k1 : k ≤ 100000) : ∃ s e : Nat, 8388608000 ≤ w * 2 ^ s ∧ w * 2 ^ (s - 1) < 8388608000 ∧ 8388608 * 2 ^ e ≤ FP.Core.nearest (w * 2 ^ s) 1000 * k ∧ FP.Core.nearest (w * 2 ^ s) 1000 * k < 16777216 * 2 ^ e ∧ f_Md_share k h = some (shv' (FP.Core.nearest (w * 2 ^ s) 1000) k e s) := by
  unfold f_Md_share
  rw [hw, if_neg (by omega), xlet_eq]
  have ew : (Int32.ofInt (w : Int)).toInt64 = Int64.ofNat w := by
    rw [← Int64.toInt_inj, Int32.toInt_toInt64, l_int (by omega)]
    exact Int32.toInt_ofInt_of_le (by omega) (by omega)
  rw [ew]
  unfold f_Md_share_17
  obtain ⟨r, e1, s, rfl, s1, s2⟩ := xloop_W (step := fun s : Int × Int64 => f_Md_share_s17 k s.1 s.2 h) (I := fun p => ∃ s : Nat, p = ((s : Int), Int64.ofNat (w * 2 ^ s)) ∧ s ≤ 40 ∧ (s = 0 ∨ w * 2 ^ (s - 1) < 8388608000)) (fun p => 41 - p.1.toNat)
    (post := fun p => ∃ s : Nat, p = ((s : Int), Int64.ofNat (w * 2 ^ s)) ∧ 8388608000 ≤ w * 2 ^ s ∧ w * 2 ^ (s - 1) < 8388608000) (s := (0, Int64.ofNat w)) (by
      rintro ⟨_, _⟩ ⟨s, hp, s0, hs⟩
      cases hp
      dsimp only [f_Md_share_s17]
      have ub : s = 0 ∨ w * 2 ^ s < 16777216000 := by
        rcases hs with rfl | hs
        · exact Or.inl rfl
        · by_cases z : s = 0
          · exact Or.inl z
          · right
            have e : w * 2 ^ s = 2 * (w * 2 ^ (s - 1)) := by
              rw [show s = s - 1 + 1 by omega, Nat.pow_succ, Nat.add_sub_cancel, ← Nat.mul_assoc, Nat.mul_comm]
            omega
      have ub' : w * 2 ^ s < 16777216000 := by
        rcases ub with rfl | z
        · rw [Nat.pow_zero]; omega
        · exact z
      have c1 : Int64.ofNat (w * 2 ^ s) / 1000 = Int64.ofNat (w * 2 ^ s / 1000) := l_div (b := 1000) (by omega) (by decide)
      have d1 : w * 2 ^ s / 1000 ≤ w * 2 ^ s := Nat.div_le_self _ _
      have c2 := l_cmp (a := w * 2 ^ s / 1000) (b := 8388608) (by omega) (by decide)
      rw [c1, show (8388608 : Int64) = Int64.ofNat 8388608 from rfl, c2]
      by_cases z : w * 2 ^ s < 8388608000
      · left
        have s32 : s < 40 := by
          by_cases y : s < 40
          · exact y
          · have p : 2 ^ 40 ≤ 2 ^ s := Nat.pow_le_pow_right (by decide) (by omega)
            have := Nat.le_mul_of_pos_left (2 ^ s) w0
            rw [show (2 : Nat) ^ 40 = 1099511627776 from rfl] at p
            omega
        have e2 : w * 2 ^ (s + 1) = w * 2 ^ s * 2 ^ 1 := by rw [Nat.pow_succ, Nat.mul_assoc]
        refine ⟨((s + 1 : Nat), Int64.ofNat (w * 2 ^ (s + 1))), ?_, ⟨s + 1, rfl, by omega, Or.inr z⟩, by dsimp only; omega⟩
        rw [if_pos (by rw [if_neg (by omega), if_neg (by omega)]; decide), show (1 : Int) = ((1 : Nat) : Int) from rfl, l_shl (by decide) (by omega), xlet_eq, w32_id (by omega) (by omega), xlet_eq, e2]
        rfl
      · right
        refine ⟨((s : Int), Int64.ofNat (w * 2 ^ s)), by rw [if_neg (cmp_nn (by omega))], s, rfl, by omega, ?_⟩
        rcases hs with rfl | hs
        · rw [Nat.pow_zero] at z; omega
        · exact hs) ⟨0, by rw [Nat.pow_zero, Nat.mul_one]; rfl, by omega, Or.inl rfl⟩
  rw [e1, xc1_some]
  dsimp only
  have s33 : 1 ≤ s := by
    by_cases z : s = 0
    · subst z; rw [Nat.pow_zero] at s1; omega
    · omega
  have ub : w * 2 ^ s < 16777216000 := by
    have e : w * 2 ^ s = 2 * (w * 2 ^ (s - 1)) := by
      rw [show s = s - 1 + 1 by omega, Nat.pow_succ, Nat.add_sub_cancel, ← Nat.mul_assoc, Nat.mul_comm]
    omega
  have s40 : s ≤ 40 := by
    by_cases y : s ≤ 40
    · exact y
    · have p : 2 ^ 40 ≤ 2 ^ s := Nat.pow_le_pow_right (by decide) (by omega)
      have := Nat.le_mul_of_pos_left (2 ^ s) w0
      rw [show (2 : Nat) ^ 40 = 1099511627776 from rfl] at p
      omega
  have nb := nr_b (a := w * 2 ^ s) (b := 1000) (l := 8388608) (u := 16777216) (by decide) (by omega) (by omega)
  have nh := nr_half (a := w * 2 ^ s) (b := 1000)
  -- the second number: rounded
  have r39 : f_Md_share_39 k s (Int64.ofNat (w * 2 ^ s)) h = f_Md_share_94 k s (Int64.ofNat (FP.Core.nearest (w * 2 ^ s) 1000)) h := by
    generalize w * 2 ^ s = v at *
    unfold f_Md_share_39
    have d1 : v / 1000 ≤ v := Nat.div_le_self _ _
    have c1 : Int64.ofNat v / 1000 = Int64.ofNat (v / 1000) := l_div (b := 1000) (by omega) (by decide)
    have c2 : Int64.ofNat v - Int64.ofNat (v / 1000) * 1000 = Int64.ofNat (v % 1000) := by
      rw [show (1000 : Int64) = Int64.ofNat 1000 from rfl, ← Int64.ofNat_mul, ← Int64.ofNat_sub _ _ (by omega)]
      congr 1
      omega
    have c3 : (2 : Int64) * Int64.ofNat (v % 1000) = Int64.ofNat (2 * (v % 1000)) := by
      rw [show (2 : Int64) = Int64.ofNat 2 from rfl, ← Int64.ofNat_mul]
    have c4 := l_cmp (a := 2 * (v % 1000)) (b := 1000) (by omega) (by decide)
    have c5 : Int64.ofNat (v / 1000) &&& 1 = Int64.ofNat (v / 1000 % 2) := l_and (n := v / 1000) (k := 1) (by decide) (by omega)
    have c6 := l_cmp (a := v / 1000 % 2) (b := 0) (by omega) (by decide)
    have c7 : Int64.ofNat (v / 1000) + 1 = Int64.ofNat (v / 1000 + 1) := by
      rw [show (1 : Int64) = Int64.ofNat 1 from rfl, ← Int64.ofNat_add]
    have e88 : f_Md_share_88 k s (Int64.ofNat (v / 1000)) h = f_Md_share_94 k s (Int64.ofNat (v / 1000 + 1)) h := by
      unfold f_Md_share_88
      rw [xlet_eq, c7]
    rw [xlet_eq, xlet_eq, c1, c2, c3, show (1000 : Int64) = Int64.ofNat 1000 from rfl, c4, c5, show (0 : Int64) = Int64.ofNat 0 from rfl, c6, e88, nh]
    by_cases z : 1000 < 2 * (v % 1000)
    · rw [if_pos z, if_pos (by decide), if_pos z]
    · rw [if_neg z, if_neg z]
      by_cases y : 2 * (v % 1000) = 1000
      · rw [if_pos y, if_neg (by decide), if_pos rfl, if_pos y]
        by_cases x : v / 1000 % 2 = 0
        · rw [if_neg (show ¬ 0 < v / 1000 % 2 by omega), if_pos x, if_pos rfl, x, Nat.add_zero]
        · rw [if_pos (show 0 < v / 1000 % 2 by omega), if_neg (by decide), show v / 1000 % 2 = 1 by omega]
      · rw [if_neg y, if_neg (by decide), if_neg (by decide), if_neg y]
  rw [r39]
  generalize hn : FP.Core.nearest (w * 2 ^ s) 1000 = n at *
  have nk1 : n * k ≤ 16777216 * 100000 := Nat.mul_le_mul nb.2 k1
  have nk0 : 8388608 * 1 ≤ n * k := Nat.mul_le_mul nb.1 k0
  unfold f_Md_share_94
  have ek : (Int32.ofInt (k : Int)).toInt64 = Int64.ofNat k := by
    rw [← Int64.toInt_inj, Int32.toInt_toInt64, l_int (by omega)]
    exact Int32.toInt_ofInt_of_le (by omega) (by omega)
  rw [ek, ← Int64.ofNat_mul, xlet_eq]
  unfold f_Md_share_104
  obtain ⟨r, e2, e, rfl, t1, t2, t3⟩ := xloop_W (step := fun p : Int => f_Md_share_s104 s (Int64.ofNat (n * k)) p h) (I := fun p => ∃ e : Nat, p = (e : Int) ∧ e ≤ 20 ∧ 8388608 * 2 ^ e ≤ n * k) (fun p => 21 - p.toNat)
    (post := fun p => ∃ e : Nat, p = (e : Int) ∧ e ≤ 20 ∧ 8388608 * 2 ^ e ≤ n * k ∧ n * k < 16777216 * 2 ^ e) (s := 0) (by
      rintro _ ⟨e, rfl, e0, he⟩
      dsimp only [f_Md_share_s104]
      have d1 : n * k / 2 ^ e ≤ n * k := Nat.div_le_self _ _
      have c1 := l_cmp (a := n * k / 2 ^ e) (b := 16777216) (by omega) (by decide)
      rw [l_shr (by omega) (by omega), show (16777216 : Int64) = Int64.ofNat 16777216 from rfl, c1]
      have pe := Nat.two_pow_pos e
      by_cases z : n * k < 16777216 * 2 ^ e
      · right
        have := (Nat.div_lt_iff_lt_mul pe).2 z
        refine ⟨(e : Int), by rw [if_pos (by rw [if_neg (by omega), if_neg (by omega)]; decide)], e, rfl, e0, he, z⟩
      · left
        have := (Nat.le_div_iff_mul_le pe (x := 16777216) (y := n * k)).2 (by omega)
        have e20 : e < 20 := by
          by_cases y : e < 20
          · exact y
          · rw [show e = 20 by omega] at he
            rw [show (2 : Nat) ^ 20 = 1048576 from rfl] at he
            omega
        refine ⟨((e + 1 : Nat) : Int), by rw [if_neg (cmp_nn (by omega)), w32_id (by omega) (by omega), xlet_eq]; rfl, ⟨e + 1, rfl, by omega, by rw [Nat.pow_succ]; omega⟩, by omega⟩) ⟨0, rfl, by omega, by rw [Nat.pow_zero]; omega⟩
  refine ⟨s, e, s1, s2, by rw [hn]; exact t2, by rw [hn]; exact t3, ?_⟩
  rw [hn, e2, xc1_some]
  have pe := Nat.two_pow_pos e
  have nb2 := nr_b (a := n * k) (b := 2 ^ e) (l := 8388608) (u := 16777216) pe t2 t3
  have nh2 := nr_half (a := n * k) (b := 2 ^ e)
  have p20 : 2 ^ e ≤ 2 ^ 20 := Nat.pow_le_pow_right (by decide) t1
  rw [show (2 : Nat) ^ 20 = 1048576 from rfl] at p20
  have mb : FP.Core.nearest (n * k) (2 ^ e) * 2 ^ e ≤ 16777216 * 1048576 := Nat.mul_le_mul nb2.2 p20
  -- the last number, shifted back
  have fin : ∀ v : Nat, v ≤ 16777216 * 1048576 → v / 2 ^ s < 2147483648 → f_Md_share_191 s (Int64.ofNat v) h = some ((v / 2 ^ s : Nat) : Int) := fun v hv hq => by
    unfold f_Md_share_191
    rw [l_shr (by omega) (by omega)]
    congr 1
    rw [Int64.toInt32_ofNat']
    show (Int32.ofNat (v / 2 ^ s)).toInt = _
    exact Int32.toInt_ofNat_of_lt (by omega)
  have s15 : 15 ≤ s := by
    by_cases z : 15 ≤ s
    · exact z
    · have p : 2 ^ s ≤ 2 ^ 14 := Nat.pow_le_pow_right (by decide) (by omega)
      have := Nat.mul_le_mul w1 p
      rw [show 100000 * 2 ^ 14 = 1638400000 from rfl] at this
      omega
  have sml : FP.Core.nearest (n * k) (2 ^ e) * 2 ^ e / 2 ^ s < 2147483648 := by
    have h2 : (2 : Nat) ^ 15 ≤ 2 ^ s := Nat.pow_le_pow_right (by decide) s15
    have h4 := Nat.div_le_div mb h2 (by decide)
    rw [show 16777216 * 1048576 / 2 ^ 15 = 536870912 by decide] at h4
    omega
  unfold f_Md_share_122 shv'
  by_cases z : e = 0
  · subst z
    rw [if_neg (by decide)]
    have e1 : FP.Core.nearest (n * k) (2 ^ 0) * 2 ^ 0 = n * k := by rw [Nat.pow_zero, nr_one, Nat.mul_one]
    rw [e1] at sml mb ⊢
    exact fin _ mb sml
  · have ee : (2 : Nat) ^ e = 2 * 2 ^ (e - 1) := by rw [show e = e - 1 + 1 by omega, Nat.pow_succ, Nat.add_sub_cancel, Nat.mul_comm]
    have pe1 := Nat.two_pow_pos (e - 1)
    rw [if_pos (by omega), w32_id (by omega) (by omega), show (e : Int) - 1 = ((e - 1 : Nat) : Int) by omega, show (1 : Int64) = Int64.ofNat 1 from rfl, l_shl (by omega) (by omega), xlet_eq, l_shl (by omega) (by omega), Nat.one_mul, Nat.one_mul, ← Int64.ofNat_sub _ _ (by omega), l_and (by omega) (by omega), xlet_eq, l_shr (by omega) (by omega), xlet_eq]
    have d1 : n * k / 2 ^ e ≤ n * k := Nat.div_le_self _ _
    have m1 : n * k % 2 ^ e < 2 ^ e := Nat.mod_lt _ pe
    have c4 := l_cmp (a := n * k % 2 ^ e) (b := 2 ^ (e - 1)) (by omega) (by omega)
    have c5 : Int64.ofNat (n * k / 2 ^ e) &&& Int64.ofNat 1 = Int64.ofNat (n * k / 2 ^ e % 2) := l_and (n := n * k / 2 ^ e) (k := 1) (by decide) (by omega)
    have c6 := l_cmp (a := n * k / 2 ^ e % 2) (b := 0) (by omega) (by decide)
    have e184 : ∀ v : Nat, v = FP.Core.nearest (n * k) (2 ^ e) → f_Md_share_184 s (Int64.ofNat v) e h = some ((FP.Core.nearest (n * k) (2 ^ e) * 2 ^ e / 2 ^ s : Nat) : Int) := fun v hv => by
      unfold f_Md_share_184
      rw [hv, l_shl (by omega) (by omega), xlet_eq]
      exact fin _ mb sml
    have e178 : n * k / 2 ^ e + 1 = FP.Core.nearest (n * k) (2 ^ e) → f_Md_share_178 s (Int64.ofNat (n * k / 2 ^ e)) e h = some ((FP.Core.nearest (n * k) (2 ^ e) * 2 ^ e / 2 ^ s : Nat) : Int) := fun hv => by
      unfold f_Md_share_178
      rw [xlet_eq, show (1 : Int64) = Int64.ofNat 1 from rfl, ← Int64.ofNat_add]
      exact e184 _ hv
    rw [c4, c5, show (0 : Int64) = Int64.ofNat 0 from rfl, c6]
    by_cases z1 : 2 ^ (e - 1) < n * k % 2 ^ e
    · rw [if_pos z1, if_pos (by decide)]
      exact e178 (by rw [nh2, if_pos (by omega)])
    · rw [if_neg z1]
      rw [if_neg (show ¬ 2 ^ e < 2 * (n * k % 2 ^ e) by omega)] at nh2
      by_cases y : n * k % 2 ^ e = 2 ^ (e - 1)
      · rw [if_pos (show 2 * (n * k % 2 ^ e) = 2 ^ e by omega)] at nh2
        rw [if_pos y, if_neg (by decide), if_pos rfl]
        by_cases x : n * k / 2 ^ e % 2 = 0
        · rw [if_neg (show ¬ 0 < n * k / 2 ^ e % 2 by omega), if_pos x, if_pos rfl]
          exact e184 _ (by omega)
        · rw [if_pos (show 0 < n * k / 2 ^ e % 2 by omega), if_neg (by decide)]
          exact e178 (by omega)
      · rw [if_neg (show ¬ 2 * (n * k % 2 ^ e) = 2 ^ e by omega)] at nh2
        rw [if_neg y, if_neg (by decide), if_neg (by decide)]
        exact e184 _ nh2.symm
/-- a word's share, the class's and the model's -/
theorem s_share {h g : xH} {w : Int} (w0 : 0 ≤ w) (w1 : w < 200) (hc : 1 ≤ h 8 w ∧ h 8 w ≤ 100000) (hW : 0 ≤ h 4 2 ∧ h 4 2 ≤ 100000) (hg : g 81 15 = h 4 2) : ∃ s, f_Lex_share w h = some s ∧ f_Md_share (h 8 w) g = some s ∧ 0 ≤ s ∧ s ≤ 67108864 := by
  have ec : f_Lex_countOf w h = some (h 8 w) := by
    unfold f_Lex_countOf
    rw [if_neg (by omega), if_pos (by omega), xgd_pos (by omega) (by omega)]
  unfold f_Lex_share
  rw [ec, xc1_some]
  by_cases z : h 4 2 = 0
  · refine ⟨0, ?_, ?_, by decide, by decide⟩
    · have zero : ∀ k : Nat, 0 < k → k ≤ 100000 → vf_n32 (FP.fdiv (FP.i2f (Int32.ofInt 0)) (1148846080 : UInt32)) ∧ vf_n32 (FP.fmul (FP.fdiv (FP.i2f (Int32.ofInt 0)) (1148846080 : UInt32)) (FP.i2f (Int32.ofInt k))) ∧ (FP.f2i (FP.fmul (FP.fdiv (FP.i2f (Int32.ofInt 0)) (1148846080 : UInt32)) (FP.i2f (Int32.ofInt k)))).toInt = 0 := by
        intro k k0 k1
        obtain ⟨d1, b0, b1, L⟩ := f_ofInt k0 (show k < 16777216 by omega)
        have ev : FP.fdiv (FP.i2f (Int32.ofInt 0)) (1148846080 : UInt32) = 0 := by decide
        have em : FP.fmul (0 : UInt32) (FP.i2f (Int32.ofInt k)) = 0 := by
          show UInt32.ofNat (FP.Core.encode fC (FP.Core.round fC (FP.Core.exactProduct (FP.Core.decode fC (0 : UInt32).toNat) (FP.Core.decode fC (FP.i2f (Int32.ofInt k)).toNat)))) = _
          rw [d1, show FP.Core.decode fC (0 : UInt32).toNat = fD 0 (-149) by decide]
          unfold fD FP.Core.exactProduct FP.Core.round FP.Core.roundRatio
          dsimp only
          rw [Nat.zero_mul, if_pos rfl]
          rfl
        rw [ev, em]
        exact ⟨by unfold vf_n32; decide, by unfold vf_n32; decide, by decide⟩
      have := zero (h 8 w).toNat (by omega) (by omega)
      rw [show (((h 8 w).toNat : Nat) : Int) = h 8 w by omega] at this
      rw [z, xgp_pos this.1, xgp_pos this.2.1, this.2.2]
    · unfold f_Md_share
      rw [hg, if_pos z]
  · obtain ⟨s, e, s1, s2, e1, e2, hm⟩ := m_share (h := g) (w := (h 4 2).toNat) (k := (h 8 w).toNat) (by omega) (by omega) (by omega) (by omega) (by omega)
    obtain ⟨c, q, d1, d2, c0, c1, n0, n1, s33, s15, hc'⟩ := f_div (w := (h 4 2).toNat) (s := s) (by omega) (by omega) s1 s2
    obtain ⟨m1, m2, m3, m4⟩ := f_mul (k := (h 8 w).toNat) (e := e) d1 c0 c1 s15 s33 n0 n1 hc' (by omega) (by omega) e1 e2
    rw [show (((h 4 2).toNat : Nat) : Int) = h 4 2 by omega] at d2 m1 m2
    rw [show (((h 8 w).toNat : Nat) : Int) = h 8 w by omega] at m1 m2 hm
    unfold shv' at hm
    refine ⟨_, by rw [xgp_pos d2, xgp_pos m1, m2], hm, Int.natCast_nonneg _, ?_⟩
    have h1 : (2 : Nat) ^ e ≤ 2 ^ 17 := Nat.pow_le_pow_right (by decide) m4
    have h2 : (2 : Nat) ^ 15 ≤ 2 ^ s := Nat.pow_le_pow_right (by decide) s15
    have h3 := Nat.mul_le_mul m3 h1
    have h4 := Nat.div_le_div h3 h2 (by decide)
    have h5 : 16777216 * 2 ^ 17 / 2 ^ 15 = 67108864 := by decide
    rw [h5] at h4
    exact Int.ofNat_le.2 h4
