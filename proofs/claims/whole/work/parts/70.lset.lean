/-! LEARNING: prices by counts -/
def sumN (N : Int → Int) : Nat → Int
  | 0 => 0
  | k + 1 => sumN N k + N ((k : Int) + 1)
theorem sumN_b {N : Int → Int} (hN : ∀ c, 1 ≤ c → c ≤ 6 → 0 ≤ N c ∧ N c ≤ 960) : ∀ k : Nat, k ≤ 6 → 0 ≤ sumN N k ∧ sumN N k ≤ 960 * k
  | 0, _ => ⟨Int.le_refl _, Int.le_refl _⟩
  | k + 1, hk => by
    have a := sumN_b hN k (by omega)
    have b := hN ((k : Int) + 1) (by omega) (by omega)
    show 0 ≤ sumN N k + N ((k : Int) + 1) ∧ sumN N k + N ((k : Int) + 1) ≤ _
    omega
theorem sumN_ge {N : Int → Int} (hN : ∀ c, 1 ≤ c → c ≤ 6 → 0 ≤ N c ∧ N c ≤ 960) : ∀ k : Nat, k ≤ 6 → ∀ c, 1 ≤ c → c ≤ (k : Int) → N c ≤ sumN N k
  | 0, _, c, h1, h2 => by omega
  | k + 1, hk, c, h1, h2 => by
    have a := sumN_b hN k (by omega)
    have b := hN ((k : Int) + 1) (by omega) (by omega)
    show N c ≤ sumN N k + N ((k : Int) + 1)
    by_cases z : c = (k : Int) + 1
    · rw [z]; omega
    · have := sumN_ge hN k (by omega) c h1 (by omega)
      omega
theorem sumN_ext {N M : Int → Int} (h : ∀ c, 1 ≤ c → c ≤ 6 → N c = M c) : ∀ k : Nat, k ≤ 6 → sumN N k = sumN M k
  | 0, _ => rfl
  | k + 1, hk => by
    show sumN N k + N ((k : Int) + 1) = sumN M k + M ((k : Int) + 1)
    rw [sumN_ext h k (by omega), h _ (by omega) (by omega)]
theorem xdiv_b {a b : Int} (a0 : 0 ≤ a) (a1 : a ≤ 180 * b) (b0 : 0 < b) (b1 : b ≤ 6000) : 0 ≤ xdiv a b ∧ xdiv a b ≤ 180 := by
  unfold xdiv
  have eb : (Int32.ofInt b).toInt = b := Int32.toInt_ofInt_of_le (by omega) (by omega)
  have ea : (Int32.ofInt a).toInt = a := Int32.toInt_ofInt_of_le (by omega) (by omega)
  rw [Int32.toInt_div_of_ne_right _ _ (fun z => by
    have := congrArg Int32.toInt z
    rw [eb, show (-1 : Int32).toInt = -1 by decide] at this
    omega), ea, eb, Int.tdiv_eq_ediv_of_nonneg a0]
  have h1 : 0 ≤ a / b := Int.ediv_nonneg a0 (by omega)
  have h2 : a / b < 181 := Int.ediv_lt_of_lt_mul b0 (by omega)
  omega
/-- the prices that the counts make -/
def updK (N κ : Int → Int) (j : Int) : Int := if 1 ≤ j ∧ j < 7 then 200 - xdiv (180 * N j) (sumN N 6) else κ j
theorem updK_ok {h : xH} {N κ : Int → Int} (hN : ∀ c, 1 ≤ c → c ≤ 6 → 0 ≤ N c ∧ N c ≤ 960) (hs : 0 < sumN N 6) (hk : KO h κ) : KO h (updK N κ) := by
  have sb := sumN_b hN 6 (by decide)
  refine ⟨fun k k0 k1 => ?_, fun j hj => ?_⟩
  · have a := hN k k0 k1
    have g := sumN_ge hN 6 (by decide) k k0 (by omega)
    have x := xdiv_b (a := 180 * N k) (b := sumN N 6) (by omega) (by omega) hs (by omega)
    unfold updK
    rw [if_pos (by omega)]
    omega
  · unfold updK
    rw [if_neg (by omega)]
    exact hk.2 j hj
theorem s_setByCounts {y : xH} {N : Int → Int} (hc : ∀ c, 1 ≤ c → c ≤ 6 → y 47 c = N c) (hN : ∀ c, 1 ≤ c → c ≤ 6 → 0 ≤ N c ∧ N c ≤ 960) : f_Slips_setByCounts 47 y = if 0 < sumN N 6 then some (1, fun o => if o = 10 then updK N (y 10) else y o) else some (0, y) := by
  have x47 : (xN 47 : Int) = 7 := rfl
  have sb := sumN_b hN 6 (by decide)
  unfold f_Slips_setByCounts f_Slips_setByCounts_4
  have key := xloop_T (step := fun s : Int × Int => f_Slips_setByCounts_s4 47 s.1 s.2 y) (fun k => (sumN N k, (k : Int) + 1)) 6 (s0 := (0, 1)) (b := sumN N 6) rfl
    (fun k hk => by
      dsimp only [f_Slips_setByCounts_s4]
      have a := sumN_b hN k (by omega)
      have b := hN ((k : Int) + 1) (by omega) (by omega)
      rw [if_neg (by omega), x47, if_pos (by omega), xgd_pos (by omega) (by omega), hc _ (by omega) (by omega), w32_id (by omega) (by omega), xlet_eq, w32_id (by omega) (by omega), xlet_eq]
      rfl)
    (by
      dsimp only [f_Slips_setByCounts_s4]
      rw [if_pos (by omega)])
  rw [key, xc1_some]
  unfold f_Slips_setByCounts_28
  by_cases z : 0 < sumN N 6
  · rw [if_pos z, if_pos z]
    unfold f_Slips_setByCounts_36
    have key2 := xloop_T (step := fun s : Int × xH => f_Slips_setByCounts_s36 47 (sumN N 6) s.1 s.2) (fun k => ((k : Int) + 1, hLay 10 1 k (fun k => 200 - xdiv (180 * N (k + 1)) (sumN N 6)) y)) 6 (s0 := (1, y)) (b := hLay 10 1 6 (fun k => 200 - xdiv (180 * N (k + 1)) (sumN N 6)) y) (by rw [show ((0 : Nat) : Int) = 0 from rfl, hLay_0]; rfl)
      (fun k hk => by
        dsimp only [f_Slips_setByCounts_s36]
        have sc := hLay_succ (o := 10) (p := 1) (n := k) (f := fun k => 200 - xdiv (180 * N (k + 1)) (sumN N 6)) (h := y) (by omega)
        have b := hN ((k : Int) + 1) (by omega) (by omega)
        have g := sumN_ge hN 6 (by decide) ((k : Int) + 1) (by omega) (by omega)
        have x := xdiv_b (a := 180 * N ((k : Int) + 1)) (b := sumN N 6) (by omega) (by omega) z (by omega)
        rw [if_neg (by omega), x47, if_pos (by omega), xgd_pos (by omega) (by omega), xgp_pos (by omega), xgd_pos (by omega) (by omega), hLay_row (by decide), hc _ (by omega) (by omega), w32_id (z := 180 * N ((k : Int) + 1)) (by omega) (by omega), w32_id (z := 200 - xdiv (180 * N ((k : Int) + 1)) (sumN N 6)) (by omega) (by omega), xlet_eq, w32_id (by omega) (by omega), xlet_eq, show (k : Int) + 1 = 1 + k by omega]
        rw [show (1 : Int) + k = (k : Int) + 1 by omega] at sc ⊢
        rw [sc]
        rfl)
      (by
        dsimp only [f_Slips_setByCounts_s36]
        rw [if_pos (by omega)]
        rfl)
    rw [key2, xc1_some]
    unfold f_Slips_setByCounts_73
    congr 2
    funext o j
    unfold hLay
    by_cases c : o = 10
    · subst c
      rw [if_pos rfl]
      unfold updK
      by_cases d : 1 ≤ j ∧ j < 7
      · rw [if_pos (by omega), if_pos d]
        show 200 - xdiv (180 * N (j - 1 + 1)) (sumN N 6) = _
        rw [show j - 1 + 1 = j by omega]
      · rw [if_neg (by omega), if_neg d]
    · rw [if_neg (fun q => c q.1), if_neg c]
  · rw [if_neg z, if_neg z]
theorem m_setSum {y : xH} {N : Int → Int} {r b : Int} (hc : ∀ c, 1 ≤ c → c ≤ 6 → y 133 c = N c) (hN : ∀ c, 1 ≤ c → c ≤ 6 → 0 ≤ N c ∧ N c ≤ 960) : ∃ y', f_Md_learn_245 r b y = f_Md_learn_322 r b (sumN N 6) y' ∧ off [88] [] y y' ∧ ∀ k, 1 ≤ k → k ≤ 6 → y' 88 k = if 0 < sumN N 6 then updK N (y 88) k else y 88 k := by
  have sb := sumN_b hN 6 (by decide)
  unfold f_Md_learn_245 f_Md_learn_251
  have key := xloop_T (step := fun s : Int × Int => f_Md_learn_s251 r b s.1 s.2 y) (fun k => (sumN N k, (k : Int) + 1)) 6 (s0 := (0, 1)) (b := sumN N 6) rfl
    (fun k hk => by
      dsimp only [f_Md_learn_s251]
      have a := sumN_b hN k (by omega)
      have b := hN ((k : Int) + 1) (by omega) (by omega)
      rw [if_neg (by omega), xgd_pos (by omega) (by omega), hc _ (by omega) (by omega), w32_id (by omega) (by omega), xlet_eq, w32_id (by omega) (by omega), xlet_eq]
      rfl)
    (by
      dsimp only [f_Md_learn_s251]
      rw [if_pos (by omega)])
  rw [key, xc1_some]
  unfold f_Md_learn_276
  by_cases z : 0 < sumN N 6
  · rw [if_pos z]
    unfold f_Md_learn_284
    have key2 := xloop_T (step := fun s : Int × xH => f_Md_learn_s284 r b (sumN N 6) s.1 s.2) (fun k => ((k : Int) + 1, hLay 88 1 k (fun k => 200 - xdiv (180 * N (k + 1)) (sumN N 6)) y)) 6 (s0 := (1, y)) (b := hLay 88 1 6 (fun k => 200 - xdiv (180 * N (k + 1)) (sumN N 6)) y) (by rw [show ((0 : Nat) : Int) = 0 from rfl, hLay_0]; rfl)
      (fun k hk => by
        dsimp only [f_Md_learn_s284]
        have sc := hLay_succ (o := 88) (p := 1) (n := k) (f := fun k => 200 - xdiv (180 * N (k + 1)) (sumN N 6)) (h := y) (by omega)
        have b := hN ((k : Int) + 1) (by omega) (by omega)
        have g := sumN_ge hN 6 (by decide) ((k : Int) + 1) (by omega) (by omega)
        have x := xdiv_b (a := 180 * N ((k : Int) + 1)) (b := sumN N 6) (by omega) (by omega) z (by omega)
        rw [if_neg (by omega), xgd_pos (by omega) (by omega), xgp_pos (by omega), xgd_pos (by omega) (by omega), hLay_row (by decide), hc _ (by omega) (by omega), w32_id (z := 180 * N ((k : Int) + 1)) (by omega) (by omega), w32_id (z := 200 - xdiv (180 * N ((k : Int) + 1)) (sumN N 6)) (by omega) (by omega), xlet_eq, w32_id (by omega) (by omega), xlet_eq]
        rw [show (1 : Int) + k = (k : Int) + 1 by omega] at sc
        rw [sc]
        rfl)
      (by
        dsimp only [f_Md_learn_s284]
        rw [if_pos (by omega)]
        rfl)
    rw [key2, xc1_some]
    refine ⟨_, rfl, off_lay (by decide), fun k k0 k1 => ?_⟩
    rw [if_pos z, hLay_in (by omega) (by omega), show k - 1 + 1 = k by omega]
    unfold updK
    rw [if_pos (by omega)]
  · rw [if_neg z]
    exact ⟨y, rfl, off_rf, fun k k0 k1 => by rw [if_neg z]⟩
