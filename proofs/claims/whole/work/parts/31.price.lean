/-! PRICE, FORGE, WORD, PART, COUNT -/
theorem xN11 : (xN 11 : Int) = 676 := by decide +kernel
theorem xN12 : (xN 12 : Int) = 26 := by decide +kernel
theorem xN13 : (xN 13 : Int) = 26 := by decide +kernel
theorem op_price (k a b v : Int) : Op2 (f_WM_price k a b v) (f_Md_price k a b v) := by
  refine op2_of (fun _ _ => loc_Md_price) (fun h hI => ?_)
  obtain ⟨p1, ⟨p2, p2b⟩, ⟨p3, p3b⟩, p4, p5, p6⟩ := hI.2.2.2.1
  have bad : f_WM_price k a b v h = some (-2, h) → f_Md_price k a b v h = some (-2, h) → ∃ r h1 h2, f_WM_price k a b v h = some (r, h1) ∧ (∀ o, 81 ≤ o → h1 o = h o) ∧ f_Md_price k a b v h = some (r, h2) ∧ Inv (mx h1 h2) := fun e1 e2 => ⟨-2, h, h, e1, fun _ _ => rfl, e2, by
    have : mx h h = h := by funext o; unfold mx; split <;> rfl
    rw [this]; exact hI⟩
  have good : ∀ (o j o' j' : Int), o ≤ 80 → o ≠ 81 → (o' = 81 ∨ 82 ≤ o') → f_WM_price k a b v h = some (h o j, xup h o j v) → f_Md_price k a b v h = some (h o j, xup h o' j' v) → Pr (mx (xup h o j v) (xup h o' j' v)) → (o = 10 ∨ o = 11 ∨ o = 12 ∨ o = 13) → (o' = 88 ∨ o' = 89 ∨ o' = 90 ∨ o' = 91 ∨ o' = 81 ∧ (j' = 13 ∨ j' = 14)) → ∃ r h1 h2, f_WM_price k a b v h = some (r, h1) ∧ (∀ o, 81 ≤ o → h1 o = h o) ∧ f_Md_price k a b v h = some (r, h2) ∧ Inv (mx h1 h2) := by
    intro o j o' j' q1 q2 q3 e1 e2 hp q4 q5
    refine ⟨_, _, _, e1, fun x hx => xup_row (by omega), e2, ?_⟩
    have o1 : off [10, 11, 12, 13] [] h (xup h o j v) := ⟨fun x h0 hn => xup_row (fun z => hn (by rcases q4 with y | y | y | y <;> simp [z, y])), fun x _ => by rw [xup_row (by omega)]⟩
    have o2 : off [88, 89, 90, 91] [13, 14] h (xup h o' j' v) := by
      refine ⟨fun x h0 hn => xup_row (fun z => ?_), fun x hn => ?_⟩
      · rcases q5 with y | y | y | y | y
        · exact hn (by simp [z, y])
        · exact hn (by simp [z, y])
        · exact hn (by simp [z, y])
        · exact hn (by simp [z, y])
        · omega
      · by_cases y : o' = 81
        · subst y
          exact xup_ne_j (fun z => hn (by have : j' = 13 ∨ j' = 14 := by omega
                                          rcases this with y | y <;> simp [z, y]))
        · rw [xup_row (fun z => y z.symm)]
    exact inv_mk (off_mx o1 o2) hI
  by_cases q1 : v < 0 ∨ 9999 < v
  · have e1 : f_WM_price k a b v h = some (-2, h) := by
      unfold f_WM_price
      by_cases q2 : v < 0
      · simp (disch := omega) only [↓if_pos, ↓if_neg, ↓xgd_pos, ↓xgb_pos, ↓xgc_pos, ↓xlet_eq, xc1_some, xc2_some, w32_id, xup_same, xup_row, xup_ne_j, xsw_l, xsw_r]
      · simp (disch := omega) only [↓if_pos, ↓if_neg, ↓xgd_pos, ↓xgb_pos, ↓xgc_pos, ↓xlet_eq, xc1_some, xc2_some, w32_id, xup_same, xup_row, xup_ne_j, xsw_l, xsw_r]
    have e2 : f_Md_price k a b v h = some (-2, h) := by
      unfold f_Md_price f_Md_price_99
      by_cases q2 : a = -1
      · by_cases q3 : b = -1
        · simp (disch := omega) only [in_0, ↓if_pos, ↓if_neg, ↓xgd_pos, ↓xgb_pos, ↓xgc_pos, ↓xlet_eq, xc1_some, xc2_some, w32_id, xup_same, xup_row, xup_ne_j, xsw_l, xsw_r]
        · simp (disch := omega) only [in_0, ↓if_pos, ↓if_neg, ↓xgd_pos, ↓xgb_pos, ↓xgc_pos, ↓xlet_eq, xc1_some, xc2_some, w32_id, xup_same, xup_row, xup_ne_j, xsw_l, xsw_r]
      · simp (disch := omega) only [in_0, ↓if_pos, ↓if_neg, ↓xgd_pos, ↓xgb_pos, ↓xgc_pos, ↓xlet_eq, xc1_some, xc2_some, w32_id, xup_same, xup_row, xup_ne_j, xsw_l, xsw_r]
    exact bad e1 e2
  · by_cases q2 : a = -1 ∧ b = -1
    · obtain ⟨rfl, rfl⟩ := q2
      by_cases q3 : v = 0
      · exact bad (by unfold f_WM_price f_Slips_setKind; simp (disch := omega) only [↓if_pos, ↓if_neg, ↓xgd_pos, ↓xgb_pos, ↓xgc_pos, ↓xlet_eq, xc1_some, xc2_some, w32_id, xup_same, xup_row, xup_ne_j, xsw_l, xsw_r]) (by unfold f_Md_price; simp (disch := omega) only [in_0, ↓if_pos, ↓if_neg, ↓xgd_pos, ↓xgb_pos, ↓xgc_pos, ↓xlet_eq, xc1_some, xc2_some, w32_id, xup_same, xup_row, xup_ne_j, xsw_l, xsw_r])
      · by_cases q4 : 1 ≤ k ∧ k ≤ 6
        · obtain ⟨c1, c2, c3⟩ := p1 k q4.1 q4.2
          refine good 10 k 88 k (by decide) (by decide) (by decide) (by unfold f_WM_price f_Slips_setKind; simp (disch := omega) only [↓if_pos, ↓if_neg, ↓xgd_pos, ↓xgb_pos, ↓xgc_pos, ↓xlet_eq, xc1_some, xc2_some, w32_id, xup_same, xup_row, xup_ne_j, xsw_l, xsw_r]) (by unfold f_Md_price; simp (disch := omega) only [in_1, c1, ↓if_pos, ↓if_neg, ↓xgd_pos, ↓xgb_pos, ↓xgc_pos, ↓xlet_eq, xc1_some, xc2_some, w32_id, xup_same, xup_row, xup_ne_j, xsw_l, xsw_r]) ?_ (by decide) (by omega)
          unfold Pr
          rw [mx_lo (o := 10) (by decide), mx_lo (o := 11) (by decide), mx_lo (o := 12) (by decide), mx_lo (o := 13) (by decide), mx_hi (o := 88) (by decide), mx_hi (o := 89) (by decide), mx_hi (o := 90) (by decide), mx_hi (o := 91) (by decide), mx_hi (o := 81) (by decide)]
          rw [xup_ne_j (j' := 8) (by omega), xup_ne_j (j' := 9) (by omega), xup_row (o' := 11) (by decide), xup_row (o' := 12) (by decide), xup_row (o' := 13) (by decide), xup_row (o' := 89) (by decide), xup_row (o' := 90) (by decide), xup_row (o' := 91) (by decide), xup_row (o' := 81) (by decide)]
          refine ⟨fun x x1 x2 => ?_, ⟨p2, p2b⟩, ⟨p3, p3b⟩, p4, p5, p6⟩
          by_cases z : x = k
          · subst z
            rw [xup_same, xup_same]
            omega
          · rw [xup_ne_j z, xup_ne_j z]
            exact p1 x x1 x2
        · by_cases q5 : k = 8
          · subst q5
            refine good 10 8 81 13 (by decide) (by decide) (by decide) (by unfold f_WM_price f_Slips_setKind; simp (disch := omega) only [↓if_pos, ↓if_neg, ↓xgd_pos, ↓xgb_pos, ↓xgc_pos, ↓xlet_eq, xc1_some, xc2_some, w32_id, xup_same, xup_row, xup_ne_j, xsw_l, xsw_r]) (by unfold f_Md_price; simp (disch := omega) only [in_1, in_0, p2, ↓if_pos, ↓if_neg, ↓xgd_pos, ↓xgb_pos, ↓xgc_pos, ↓xlet_eq, xc1_some, xc2_some, w32_id, xup_same, xup_row, xup_ne_j, xsw_l, xsw_r]) ?_ (by decide) (by omega)
            unfold Pr
            rw [mx_lo (o := 10) (by decide), mx_lo (o := 11) (by decide), mx_lo (o := 12) (by decide), mx_lo (o := 13) (by decide), mx_hi (o := 88) (by decide), mx_hi (o := 89) (by decide), mx_hi (o := 90) (by decide), mx_hi (o := 91) (by decide), mx_hi (o := 81) (by decide)]
            rw [xup_same, xup_ne_j (j' := 9) (by omega), xup_row (o' := 11) (by decide), xup_row (o' := 12) (by decide), xup_row (o' := 13) (by decide), xup_row (o' := 88) (by decide), xup_row (o' := 89) (by decide), xup_row (o' := 90) (by decide), xup_row (o' := 91) (by decide), xup_same, xup_ne_j (j' := 14) (by omega)]
            refine ⟨fun x x1 x2 => ?_, by omega, ⟨p3, p3b⟩, p4, p5, p6⟩
            rw [xup_ne_j (by omega)]
            exact p1 x x1 x2
          · by_cases q6 : k = 9
            · subst q6
              refine good 10 9 81 14 (by decide) (by decide) (by decide) (by unfold f_WM_price f_Slips_setKind; simp (disch := omega) only [↓if_pos, ↓if_neg, ↓xgd_pos, ↓xgb_pos, ↓xgc_pos, ↓xlet_eq, xc1_some, xc2_some, w32_id, xup_same, xup_row, xup_ne_j, xsw_l, xsw_r]) (by unfold f_Md_price; simp (disch := omega) only [in_1, in_0, p3, ↓if_pos, ↓if_neg, ↓xgd_pos, ↓xgb_pos, ↓xgc_pos, ↓xlet_eq, xc1_some, xc2_some, w32_id, xup_same, xup_row, xup_ne_j, xsw_l, xsw_r]) ?_ (by decide) (by omega)
              unfold Pr
              rw [mx_lo (o := 10) (by decide), mx_lo (o := 11) (by decide), mx_lo (o := 12) (by decide), mx_lo (o := 13) (by decide), mx_hi (o := 88) (by decide), mx_hi (o := 89) (by decide), mx_hi (o := 90) (by decide), mx_hi (o := 91) (by decide), mx_hi (o := 81) (by decide)]
              rw [xup_same, xup_ne_j (j' := 8) (by omega), xup_row (o' := 11) (by decide), xup_row (o' := 12) (by decide), xup_row (o' := 13) (by decide), xup_row (o' := 88) (by decide), xup_row (o' := 89) (by decide), xup_row (o' := 90) (by decide), xup_row (o' := 91) (by decide), xup_same, xup_ne_j (j' := 13) (by omega)]
              refine ⟨fun x x1 x2 => ?_, ⟨p2, p2b⟩, by omega, p4, p5, p6⟩
              rw [xup_ne_j (by omega)]
              exact p1 x x1 x2
            · refine bad ?_ (by unfold f_Md_price; simp (disch := omega) only [in_1, in_0, ↓if_pos, ↓if_neg, ↓xgd_pos, ↓xgb_pos, ↓xgc_pos, ↓xlet_eq, xc1_some, xc2_some, w32_id, xup_same, xup_row, xup_ne_j, xsw_l, xsw_r])
              unfold f_WM_price f_Slips_setKind
              by_cases z1 : k < 1
              · simp (disch := omega) only [↓if_pos, ↓if_neg, ↓xgd_pos, ↓xgb_pos, ↓xgc_pos, ↓xlet_eq, xc1_some, xc2_some, w32_id, xup_same, xup_row, xup_ne_j, xsw_l, xsw_r]
              · by_cases z2 : k = 7
                · simp (disch := omega) only [↓if_pos, ↓if_neg, ↓xgd_pos, ↓xgb_pos, ↓xgc_pos, ↓xlet_eq, xc1_some, xc2_some, w32_id, xup_same, xup_row, xup_ne_j, xsw_l, xsw_r]
                · simp (disch := omega) only [↓if_pos, ↓if_neg, ↓xgd_pos, ↓xgb_pos, ↓xgc_pos, ↓xlet_eq, xc1_some, xc2_some, w32_id, xup_same, xup_row, xup_ne_j, xsw_l, xsw_r]
    · have w1 : f_WM_price k a b v h = f_WM_price_37 k a b v h := by
        unfold f_WM_price
        by_cases z : a = -1
        · simp (disch := omega) only [↓if_pos, ↓if_neg, ↓xgd_pos, ↓xgb_pos, ↓xgc_pos, ↓xlet_eq, xc1_some, xc2_some, w32_id, xup_same, xup_row, xup_ne_j, xsw_l, xsw_r]
        · simp (disch := omega) only [↓if_pos, ↓if_neg, ↓xgd_pos, ↓xgb_pos, ↓xgc_pos, ↓xlet_eq, xc1_some, xc2_some, w32_id, xup_same, xup_row, xup_ne_j, xsw_l, xsw_r]
      have m1 : f_Md_price k a b v h = f_Md_price_99 k a b v h := by
        unfold f_Md_price
        by_cases z : a = -1
        · simp (disch := omega) only [↓if_pos, ↓if_neg, ↓xgd_pos, ↓xgb_pos, ↓xgc_pos, ↓xlet_eq, xc1_some, xc2_some, w32_id, xup_same, xup_row, xup_ne_j, xsw_l, xsw_r]
        · simp (disch := omega) only [↓if_pos, ↓if_neg, ↓xgd_pos, ↓xgb_pos, ↓xgc_pos, ↓xlet_eq, xc1_some, xc2_some, w32_id, xup_same, xup_row, xup_ne_j, xsw_l, xsw_r]
      by_cases q3 : 0 ≤ a ∧ a ≤ 25
      · by_cases q4 : k = 1
        · subst q4
          by_cases q5 : 0 ≤ b ∧ b ≤ 25
          · by_cases q6 : a = b
            · exact bad (by rw [w1]; unfold f_WM_price_37 f_Slips_setByLetters f_Slips_setByLetters_55; simp (disch := omega) only [↓if_pos, ↓if_neg, ↓xgd_pos, ↓xgb_pos, ↓xgc_pos, ↓xlet_eq, xc1_some, xc2_some, w32_id, xup_same, xup_row, xup_ne_j, xsw_l, xsw_r]) (by rw [m1]; unfold f_Md_price_99; simp (disch := omega) only [in_1, ↓if_pos, ↓if_neg, ↓xgd_pos, ↓xgb_pos, ↓xgc_pos, ↓xlet_eq, xc1_some, xc2_some, w32_id, xup_same, xup_row, xup_ne_j, xsw_l, xsw_r])
            · obtain ⟨c1, c2, c3⟩ := p4 (a * 26 + b) (by omega) (by omega)
              have ce : 26 * a + b = a * 26 + b := by omega
              refine good 11 (a * 26 + b) 89 (a * 26 + b) (by decide) (by decide) (by decide) (by rw [w1]; unfold f_WM_price_37 f_Slips_setByLetters f_Slips_exchange; simp (disch := omega) only [xN11, ↓if_pos, ↓if_neg, ↓xgd_pos, ↓xgb_pos, ↓xgc_pos, ↓xlet_eq, xc1_some, xc2_some, w32_id, xup_same, xup_row, xup_ne_j, xsw_l, xsw_r]) (by rw [m1]; unfold f_Md_price_99; simp (disch := omega) only [in_1, ce, c1, ↓if_pos, ↓if_neg, ↓xgd_pos, ↓xgb_pos, ↓xgc_pos, ↓xlet_eq, xc1_some, xc2_some, w32_id, xup_same, xup_row, xup_ne_j, xsw_l, xsw_r]) ?_ (by decide) (by omega)
              unfold Pr
              rw [mx_lo (o := 10) (by decide), mx_lo (o := 11) (by decide), mx_lo (o := 12) (by decide), mx_lo (o := 13) (by decide), mx_hi (o := 88) (by decide), mx_hi (o := 89) (by decide), mx_hi (o := 90) (by decide), mx_hi (o := 91) (by decide), mx_hi (o := 81) (by decide)]
              rw [xup_row (o' := 10) (by decide), xup_row (o' := 12) (by decide), xup_row (o' := 13) (by decide), xup_row (o' := 88) (by decide), xup_row (o' := 90) (by decide), xup_row (o' := 91) (by decide), xup_row (o' := 81) (by decide)]
              refine ⟨p1, ⟨p2, p2b⟩, ⟨p3, p3b⟩, fun x x1 x2 => ?_, p5, p6⟩
              by_cases z : x = a * 26 + b
              · rw [z, xup_same, xup_same]
                omega
              · rw [xup_ne_j z, xup_ne_j z]
                exact p4 x x1 x2
          · refine bad ?_ (by rw [m1]; unfold f_Md_price_99; simp (disch := omega) only [in_1, in_0, ↓if_pos, ↓if_neg, ↓xgd_pos, ↓xgb_pos, ↓xgc_pos, ↓xlet_eq, xc1_some, xc2_some, w32_id, xup_same, xup_row, xup_ne_j, xsw_l, xsw_r])
            rw [w1]
            unfold f_WM_price_37 f_Slips_setByLetters f_Slips_setByLetters_55
            by_cases z : b < 0
            · simp (disch := omega) only [↓if_pos, ↓if_neg, ↓xgd_pos, ↓xgb_pos, ↓xgc_pos, ↓xlet_eq, xc1_some, xc2_some, w32_id, xup_same, xup_row, xup_ne_j, xsw_l, xsw_r]
            · simp (disch := omega) only [↓if_pos, ↓if_neg, ↓xgd_pos, ↓xgb_pos, ↓xgc_pos, ↓xlet_eq, xc1_some, xc2_some, w32_id, xup_same, xup_row, xup_ne_j, xsw_l, xsw_r]
        · by_cases q5 : k = 2
          · subst q5
            obtain ⟨c1, c2, c3⟩ := p5 a (by omega) (by omega)
            refine good 12 a 90 a (by decide) (by decide) (by decide) (by rw [w1]; unfold f_WM_price_37 f_Slips_setByLetters f_Slips_exchange; simp (disch := omega) only [xN12, ↓if_pos, ↓if_neg, ↓xgd_pos, ↓xgb_pos, ↓xgc_pos, ↓xlet_eq, xc1_some, xc2_some, w32_id, xup_same, xup_row, xup_ne_j, xsw_l, xsw_r]) (by rw [m1]; unfold f_Md_price_99; simp (disch := omega) only [in_1, c1, ↓if_pos, ↓if_neg, ↓xgd_pos, ↓xgb_pos, ↓xgc_pos, ↓xlet_eq, xc1_some, xc2_some, w32_id, xup_same, xup_row, xup_ne_j, xsw_l, xsw_r]) ?_ (by decide) (by omega)
            unfold Pr
            rw [mx_lo (o := 10) (by decide), mx_lo (o := 11) (by decide), mx_lo (o := 12) (by decide), mx_lo (o := 13) (by decide), mx_hi (o := 88) (by decide), mx_hi (o := 89) (by decide), mx_hi (o := 90) (by decide), mx_hi (o := 91) (by decide), mx_hi (o := 81) (by decide)]
            rw [xup_row (o' := 10) (by decide), xup_row (o' := 11) (by decide), xup_row (o' := 13) (by decide), xup_row (o' := 88) (by decide), xup_row (o' := 89) (by decide), xup_row (o' := 91) (by decide), xup_row (o' := 81) (by decide)]
            refine ⟨p1, ⟨p2, p2b⟩, ⟨p3, p3b⟩, p4, fun x x1 x2 => ?_, p6⟩
            by_cases z : x = a
            · rw [z, xup_same, xup_same]
              omega
            · rw [xup_ne_j z, xup_ne_j z]
              exact p5 x x1 x2
          · by_cases q6 : k = 3
            · subst q6
              obtain ⟨c1, c2, c3⟩ := p6 a (by omega) (by omega)
              refine good 13 a 91 a (by decide) (by decide) (by decide) (by rw [w1]; unfold f_WM_price_37 f_Slips_setByLetters f_Slips_exchange; simp (disch := omega) only [xN13, ↓if_pos, ↓if_neg, ↓xgd_pos, ↓xgb_pos, ↓xgc_pos, ↓xlet_eq, xc1_some, xc2_some, w32_id, xup_same, xup_row, xup_ne_j, xsw_l, xsw_r]) (by rw [m1]; unfold f_Md_price_99; simp (disch := omega) only [in_1, c1, ↓if_pos, ↓if_neg, ↓xgd_pos, ↓xgb_pos, ↓xgc_pos, ↓xlet_eq, xc1_some, xc2_some, w32_id, xup_same, xup_row, xup_ne_j, xsw_l, xsw_r]) ?_ (by decide) (by omega)
              unfold Pr
              rw [mx_lo (o := 10) (by decide), mx_lo (o := 11) (by decide), mx_lo (o := 12) (by decide), mx_lo (o := 13) (by decide), mx_hi (o := 88) (by decide), mx_hi (o := 89) (by decide), mx_hi (o := 90) (by decide), mx_hi (o := 91) (by decide), mx_hi (o := 81) (by decide)]
              rw [xup_row (o' := 10) (by decide), xup_row (o' := 11) (by decide), xup_row (o' := 12) (by decide), xup_row (o' := 88) (by decide), xup_row (o' := 89) (by decide), xup_row (o' := 90) (by decide), xup_row (o' := 81) (by decide)]
              refine ⟨p1, ⟨p2, p2b⟩, ⟨p3, p3b⟩, p4, p5, fun x x1 x2 => ?_⟩
              by_cases z : x = a
              · rw [z, xup_same, xup_same]
                omega
              · rw [xup_ne_j z, xup_ne_j z]
                exact p6 x x1 x2
            · exact bad (by rw [w1]; unfold f_WM_price_37 f_Slips_setByLetters; simp (disch := omega) only [↓if_pos, ↓if_neg, ↓xgd_pos, ↓xgb_pos, ↓xgc_pos, ↓xlet_eq, xc1_some, xc2_some, w32_id, xup_same, xup_row, xup_ne_j, xsw_l, xsw_r]) (by rw [m1]; unfold f_Md_price_99; simp (disch := omega) only [in_1, ↓if_pos, ↓if_neg, ↓xgd_pos, ↓xgb_pos, ↓xgc_pos, ↓xlet_eq, xc1_some, xc2_some, w32_id, xup_same, xup_row, xup_ne_j, xsw_l, xsw_r])
      · refine bad ?_ (by rw [m1]; unfold f_Md_price_99; simp (disch := omega) only [in_1, in_0, ↓if_pos, ↓if_neg, ↓xgd_pos, ↓xgb_pos, ↓xgc_pos, ↓xlet_eq, xc1_some, xc2_some, w32_id, xup_same, xup_row, xup_ne_j, xsw_l, xsw_r])
        rw [w1]
        unfold f_WM_price_37 f_Slips_setByLetters
        by_cases z : a < 0
        · simp (disch := omega) only [↓if_pos, ↓if_neg, ↓xgd_pos, ↓xgb_pos, ↓xgc_pos, ↓xlet_eq, xc1_some, xc2_some, w32_id, xup_same, xup_row, xup_ne_j, xsw_l, xsw_r]
        · simp (disch := omega) only [↓if_pos, ↓if_neg, ↓xgd_pos, ↓xgb_pos, ↓xgc_pos, ↓xlet_eq, xc1_some, xc2_some, w32_id, xup_same, xup_row, xup_ne_j, xsw_l, xsw_r]
theorem op_word (w k : Int) (hk : k ≤ 2147483647) : Op1 (f_WM_word w k) (f_Md_word w k) := by
  intro h hI
  have W := hI.2.1
  have hN := Wd_n W.1
  have h5 := W.1.2.1
  unfold f_WM_word f_Md_word
  by_cases q1 : 0 ≤ w ∧ w < h 5 2
  · obtain ⟨c1, c2, -⟩ := Wd_len W.1 q1.1 q1.2
    obtain ⟨c3, c4⟩ := W.1.2.2.1 w q1.1 q1.2
    have c5 := (W.2 w q1.1 q1.2).1
    simp only [h5]
    by_cases q2 : k < 0
    · exact ⟨-2, by simp (disch := omega) only [↓if_pos, ↓if_neg, ↓xgd_pos, ↓xgb_pos, ↓xgc_pos, ↓xlet_eq, xc1_some, xc2_some, w32_id, xup_same, xup_row, xup_ne_j, xsw_l, xsw_r], by simp (disch := omega) only [in_1, ↓if_pos, ↓if_neg, ↓xgd_pos, ↓xgb_pos, ↓xgc_pos, ↓xlet_eq, xc1_some, xc2_some, w32_id, xup_same, xup_row, xup_ne_j, xsw_l, xsw_r]⟩
    · by_cases q3 : k = 0
      · exact ⟨h 8 w, by unfold f_Lex_countOf; simp (disch := omega) only [↓if_pos, ↓if_neg, ↓xgd_pos, ↓xgb_pos, ↓xgc_pos, ↓xlet_eq, xc1_some, xc2_some, w32_id, xup_same, xup_row, xup_ne_j, xsw_l, xsw_r], by simp (disch := omega) only [in_1, c5, ↓if_pos, ↓if_neg, ↓xgd_pos, ↓xgb_pos, ↓xgc_pos, ↓xlet_eq, xc1_some, xc2_some, w32_id, xup_same, xup_row, xup_ne_j, xsw_l, xsw_r]⟩
      · by_cases q4 : k = 1
        · refine ⟨h 7 w, ?_, by simp (disch := omega) only [in_1, c3, ↓if_pos, ↓if_neg, ↓xgd_pos, ↓xgb_pos, ↓xgc_pos, ↓xlet_eq, xc1_some, xc2_some, w32_id, xup_same, xup_row, xup_ne_j, xsw_l, xsw_r]⟩
          rw [s_Rows_sizeOf' W.1.1 q1.1 q1.2]
          simp only [Int.reduceAdd]
          simp (disch := omega) only [↓if_pos, ↓if_neg, ↓xgd_pos, ↓xgb_pos, ↓xgc_pos, ↓xlet_eq, xc1_some, xc2_some, w32_id, xup_same, xup_row, xup_ne_j, xsw_l, xsw_r]
        · have e : f_Rows_at 5 w (k - 2) h = some (rp h 5 w (k - 2)) := s_Rows_at' W.1.1 (by omega) q1.1 q1.2
          by_cases q5 : k - 2 < h 7 w
          · have e2 : rp h 5 w (k - 2) = h 6 (w * 12 + (k - 2)) := pad_in (by omega) q5
            have e3 := c4 (k - 2) (by omega) q5
            rw [show 12 * w + (k - 2) = 12 * w + k - 2 by omega] at e3
            exact ⟨h 6 (w * 12 + (k - 2)), by simp (disch := omega) only [e, e2, ↓if_pos, ↓if_neg, ↓xgd_pos, ↓xgb_pos, ↓xgc_pos, ↓xlet_eq, xc1_some, xc2_some, w32_id, xup_same, xup_row, xup_ne_j, xsw_l, xsw_r], by simp (disch := omega) only [in_1, c3, e3, ↓if_pos, ↓if_neg, ↓xgd_pos, ↓xgb_pos, ↓xgc_pos, ↓xlet_eq, xc1_some, xc2_some, w32_id, xup_same, xup_row, xup_ne_j, xsw_l, xsw_r]⟩
          · have e2 : rp h 5 w (k - 2) = -1 := pad_out (by show h 7 w ≤ k - 2; omega)
            exact ⟨-1, by simp (disch := omega) only [e, e2, ↓if_pos, ↓if_neg, ↓xgd_pos, ↓xgb_pos, ↓xgc_pos, ↓xlet_eq, xc1_some, xc2_some, w32_id, xup_same, xup_row, xup_ne_j, xsw_l, xsw_r], by simp (disch := omega) only [in_1, c3, ↓if_pos, ↓if_neg, ↓xgd_pos, ↓xgb_pos, ↓xgc_pos, ↓xlet_eq, xc1_some, xc2_some, w32_id, xup_same, xup_row, xup_ne_j, xsw_l, xsw_r]⟩
  · refine ⟨-2, ?_, ?_⟩
    · by_cases z : w < 0
      · simp (disch := omega) only [↓if_pos, ↓if_neg, ↓xgd_pos, ↓xgb_pos, ↓xgc_pos, ↓xlet_eq, xc1_some, xc2_some, w32_id, xup_same, xup_row, xup_ne_j, xsw_l, xsw_r]
      · simp (disch := omega) only [↓if_pos, ↓if_neg, ↓xgd_pos, ↓xgb_pos, ↓xgc_pos, ↓xlet_eq, xc1_some, xc2_some, w32_id, xup_same, xup_row, xup_ne_j, xsw_l, xsw_r]
    · simp only [h5]
      simp (disch := omega) only [in_0, ↓if_pos, ↓if_neg, ↓xgd_pos, ↓xgb_pos, ↓xgc_pos, ↓xlet_eq, xc1_some, xc2_some, w32_id, xup_same, xup_row, xup_ne_j, xsw_l, xsw_r]
