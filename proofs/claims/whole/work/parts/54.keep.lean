/-! THE CLASS'S WALK: a node is kept -/
theorem lfs_b {h : xH} {q : Int → Int} {m b : Int} : ∀ n : Nat, 0 ≤ lfs h q m b n ∧ lfs h q m b n ≤ n
  | 0 => by rw [show ((0 : Nat) : Int) = 0 from rfl, lfs_0]; omega
  | n + 1 => by
    have ih := lfs_b (h := h) (q := q) (m := m) (b := b) n
    rw [show ((n + 1 : Nat) : Int) = (n : Int) + 1 by omega, lfs_s (by omega)]
    split <;> omega
theorem lfs_bd {h : xH} {q : Int → Int} {m b w : Int} (w0 : 0 ≤ w) : 0 ≤ lfs h q m b w ∧ lfs h q m b w ≤ w := by
  have := lfs_b (h := h) (q := q) (m := m) (b := b) w.toNat
  rw [show ((w.toNat : Nat) : Int) = w by omega] at this
  exact this
theorem s_keep {g : xH} {d lt wd lf i m : Int} (hi : g 49 5 = i) (i0 : 0 ≤ i) (i1 : i < 2401) (hm : g 49 7 = m + 1) (m0 : 0 ≤ m) (m1 : m ≤ 12) (h6 : 0 ≤ g 49 6 ∧ g 49 6 ≤ 5000) (d0 : 0 ≤ d) (d1 : d ≤ 12) (hw : wd = 0 ∨ wd = 1) (hl : lf = 0 ∨ lf = 1) : ∃ g', f_Met_keep d lt wd lf 57 g = some g' ∧ (∀ x, x ≠ 49 → x ≠ 50 → x ≠ 51 → x ≠ 52 → x ≠ 53 → x ≠ 54 → g' x = g x) ∧ g' 49 5 = i + 1 ∧ g' 49 6 = g 49 6 + lf ∧ g' 49 7 = m + 1 ∧ (g' 50 i = d ∧ g' 51 i = lt ∧ g' 52 i = wd ∧ g' 53 i = lf ∧ ∀ j, 0 ≤ j → j ≤ m → g' 54 (i * 13 + j) = g 57 (d * 13 + j)) ∧ ∀ k, 0 ≤ k → k < i → g' 50 k = g 50 k ∧ g' 51 k = g 51 k ∧ g' 52 k = g 52 k ∧ g' 53 k = g 53 k ∧ ∀ j, 0 ≤ j → j ≤ m → g' 54 (k * 13 + j) = g 54 (k * 13 + j) := by
  have e : f_Met_keep d lt wd lf 57 g = some (if lf = 0 then xup (xcp (xup (xup (xup (xup g 50 i d) 51 i lt) 52 i wd) 53 i lf) 57 (d * 13) 54 (i * 13) (m + 1)) 49 5 (i + 1) else xup (xup (xcp (xup (xup (xup (xup g 50 i d) 51 i lt) 52 i wd) 53 i lf) 57 (d * 13) 54 (i * 13) (m + 1)) 49 5 (i + 1)) 49 6 (g 49 6 + 1)) := by
    have b1 : (wd = 0 ∨ wd = 1) := hw
    unfold f_Met_keep
    have x57 : (xN 57 : Int) = 169 := rfl
    rcases hl with rfl | rfl
    · simp (disch := omega) only [hi, x57, xcp_row, hm, ↓if_pos, ↓if_neg, ↓xgd_pos, ↓xgb_pos, ↓xgc_pos, ↓xlet_eq, xc1_some, xc2_some, w32_id, xup_same, xup_row, xup_ne_j, xsw_l, xsw_r]
    · simp (disch := omega) only [hi, x57, xcp_row, hm, ↓if_pos, ↓if_neg, ↓xgd_pos, ↓xgb_pos, ↓xgc_pos, ↓xlet_eq, xc1_some, xc2_some, w32_id, xup_same, xup_row, xup_ne_j, xsw_l, xsw_r]
  generalize hy : xup (xcp (xup (xup (xup (xup g 50 i d) 51 i lt) 52 i wd) 53 i lf) 57 (d * 13) 54 (i * 13) (m + 1)) 49 5 (i + 1) = y at e
  have y1 : ∀ x, x ≠ 49 → x ≠ 50 → x ≠ 51 → x ≠ 52 → x ≠ 53 → x ≠ 54 → y x = g x := fun x a b c d e f => by
    rw [← hy, xup_row a, xcp_row f, xup_row e, xup_row d, xup_row c, xup_row b]
  have y2 : y 49 5 = i + 1 := by rw [← hy]; exact xup_same
  have y3 : y 49 6 = g 49 6 := by rw [← hy]; simp (disch := omega) only [xcp_row, ↓if_pos, ↓if_neg, ↓xgd_pos, ↓xgb_pos, ↓xgc_pos, ↓xlet_eq, xc1_some, xc2_some, w32_id, xup_same, xup_row, xup_ne_j, xsw_l, xsw_r]
  have y4 : y 49 7 = m + 1 := by rw [← hy]; simp (disch := omega) only [xcp_row, ↓if_pos, ↓if_neg, ↓xgd_pos, ↓xgb_pos, ↓xgc_pos, ↓xlet_eq, xc1_some, xc2_some, w32_id, xup_same, xup_row, xup_ne_j, xsw_l, xsw_r]; exact hm
  have y5 : y 50 i = d ∧ y 51 i = lt ∧ y 52 i = wd ∧ y 53 i = lf ∧ ∀ j, 0 ≤ j → j ≤ m → y 54 (i * 13 + j) = g 57 (d * 13 + j) := by
    rw [← hy]
    refine ⟨by simp (disch := omega) only [xcp_row, ↓if_pos, ↓if_neg, ↓xgd_pos, ↓xgb_pos, ↓xgc_pos, ↓xlet_eq, xc1_some, xc2_some, w32_id, xup_same, xup_row, xup_ne_j, xsw_l, xsw_r], by simp (disch := omega) only [xcp_row, ↓if_pos, ↓if_neg, ↓xgd_pos, ↓xgb_pos, ↓xgc_pos, ↓xlet_eq, xc1_some, xc2_some, w32_id, xup_same, xup_row, xup_ne_j, xsw_l, xsw_r], by simp (disch := omega) only [xcp_row, ↓if_pos, ↓if_neg, ↓xgd_pos, ↓xgb_pos, ↓xgc_pos, ↓xlet_eq, xc1_some, xc2_some, w32_id, xup_same, xup_row, xup_ne_j, xsw_l, xsw_r], by simp (disch := omega) only [xcp_row, ↓if_pos, ↓if_neg, ↓xgd_pos, ↓xgb_pos, ↓xgc_pos, ↓xlet_eq, xc1_some, xc2_some, w32_id, xup_same, xup_row, xup_ne_j, xsw_l, xsw_r], fun j j0 j1 => ?_⟩
    rw [xup_row (by decide), xcp_in (by omega) (by omega), show d * 13 + (i * 13 + j - i * 13) = d * 13 + j by omega]
    simp (disch := omega) only [↓if_pos, ↓if_neg, ↓xgd_pos, ↓xgb_pos, ↓xgc_pos, ↓xlet_eq, xc1_some, xc2_some, w32_id, xup_same, xup_row, xup_ne_j, xsw_l, xsw_r]
  have y6 : ∀ k, 0 ≤ k → k < i → y 50 k = g 50 k ∧ y 51 k = g 51 k ∧ y 52 k = g 52 k ∧ y 53 k = g 53 k ∧ ∀ j, 0 ≤ j → j ≤ m → y 54 (k * 13 + j) = g 54 (k * 13 + j) := fun k k0 k1 => by
    rw [← hy]
    refine ⟨by simp (disch := omega) only [xcp_row, ↓if_pos, ↓if_neg, ↓xgd_pos, ↓xgb_pos, ↓xgc_pos, ↓xlet_eq, xc1_some, xc2_some, w32_id, xup_same, xup_row, xup_ne_j, xsw_l, xsw_r], by simp (disch := omega) only [xcp_row, ↓if_pos, ↓if_neg, ↓xgd_pos, ↓xgb_pos, ↓xgc_pos, ↓xlet_eq, xc1_some, xc2_some, w32_id, xup_same, xup_row, xup_ne_j, xsw_l, xsw_r], by simp (disch := omega) only [xcp_row, ↓if_pos, ↓if_neg, ↓xgd_pos, ↓xgb_pos, ↓xgc_pos, ↓xlet_eq, xc1_some, xc2_some, w32_id, xup_same, xup_row, xup_ne_j, xsw_l, xsw_r], by simp (disch := omega) only [xcp_row, ↓if_pos, ↓if_neg, ↓xgd_pos, ↓xgb_pos, ↓xgc_pos, ↓xlet_eq, xc1_some, xc2_some, w32_id, xup_same, xup_row, xup_ne_j, xsw_l, xsw_r], fun j j0 j1 => ?_⟩
    rw [xup_row (by decide), xcp_out (by omega)]
    simp (disch := omega) only [↓if_pos, ↓if_neg, ↓xgd_pos, ↓xgb_pos, ↓xgc_pos, ↓xlet_eq, xc1_some, xc2_some, w32_id, xup_same, xup_row, xup_ne_j, xsw_l, xsw_r]
  rcases hl with rfl | rfl
  · rw [if_pos rfl] at e
    exact ⟨y, e, y1, y2, by omega, y4, y5, y6⟩
  · rw [if_neg (by decide)] at e
    refine ⟨_, e, fun x a b c d e f => ?_, ?_, ?_, ?_, ?_, ?_⟩
    · rw [xup_row a]; exact y1 x a b c d e f
    · rw [xup_ne_j (by decide)]; exact y2
    · rw [xup_same]
    · rw [xup_ne_j (by decide)]; exact y4
    · rw [xup_row (o' := 50) (by decide), xup_row (o' := 51) (by decide), xup_row (o' := 52) (by decide), xup_row (o' := 53) (by decide), xup_row (o' := 54) (by decide)]; exact y5
    · rw [xup_row (o' := 50) (by decide), xup_row (o' := 51) (by decide), xup_row (o' := 52) (by decide), xup_row (o' := 53) (by decide), xup_row (o' := 54) (by decide)]; exact y6
