/-! THE MODEL'S WALK: a node is met -/
/-- what the model's walk doesn't change -/
theorem wm_fr {h g : xH} (og : off [97, 110, 111, 112, 113, 114, 115, 116, 118, 119, 120] [22, 39, 40, 47, 83, 84] h g) (hP : Pr h) (hS : So h) (W : Wd0 h) (hB : MB h) : Pr g ∧ So g ∧ Wd0 g ∧ MB g ∧ g 81 23 = h 81 23 ∧ pB g = pB h ∧ sp g = sp h ∧ tA g = tA h ∧ tB g = tB h ∧ g 14 = h 14 ∧ g 5 = h 5 ∧ g 6 = h 6 ∧ g 7 = h 7 ∧ g 85 = h 85 ∧ g 86 = h 86 := by
  have e : ∀ x, x ≤ 80 → g x = h x := fun x a => og.1 x (by omega) (fun z => by simp at z; omega)
  have e2 : ∀ x, 10 ≤ x → x ≤ 20 → g x = h x := fun x a b => e x (by omega)
  have e23 := og.2 23 (by decide)
  have e98 := og.1 98 (by decide) (by decide)
  refine ⟨Pr_off og (by decide) hP, So_off og (by decide) hS, Wd0_off og (by decide) W, ?_, e23, ?_, sp_cg e2, tA_cg e2, tB_cg e2, e 14 (by decide), e 5 (by decide), e 6 (by decide), e 7 (by decide), og.1 85 (by decide) (by decide), og.1 86 (by decide) (by decide)⟩
  · unfold MB; rw [e23, e98]; exact hB
  · unfold pB; rw [e23, e98]
theorem LR_B {h : xH} (hB : MB h) : LR (h 81 23) (pB h) := ⟨hB.1, hB.2.1, _, rfl, hB.2.2⟩
theorem LR_p {n : Int} {f : Int → Int} (n0 : 0 ≤ n) (n1 : n ≤ 12) (hf : ∀ k, 0 ≤ k → k < n → 0 ≤ f k ∧ f k ≤ 25) : LR n (pad n f) := ⟨n0, n1, f, rfl, hf⟩
theorem m_meets {h y : xH} {b d wd i : Int} (oy : off [97, 110, 111, 112, 113, 114, 115, 116, 118, 119, 120] [22, 39, 40, 47, 83, 84] h y) (hP : Pr h) (hS : So h) (W : Wd0 h) (hB : MB h) (d0 : 0 ≤ d) (d1 : d ≤ 12) (hi : y 81 39 = i) (i0 : 0 ≤ i) (i1 : i < 2401) (h40 : 0 ≤ y 81 40 ∧ y 81 40 ≤ 5000) (hw : wd = 0 ∨ wd = 1) (hl : ∀ k, 0 ≤ k → k < d → 0 ≤ y 97 k ∧ y 97 k ≤ 25)
    (hF : ∀ x j, 0 ≤ x → x < d → 0 ≤ j → j ≤ h 81 23 → y 116 (13 * x + j) = Gs h (pB h) (pad d (y 97)) x j) :
    ∃ lf g, f_Md_meets d b wd y = some (lf, g) ∧ (lf = 1 ∧ lft h (pB h) (h 81 23) b (pad d (y 97)) d ∨ lf = 0 ∧ ¬ lft h (pB h) (h 81 23) b (pad d (y 97)) d) ∧ off [110, 111, 112, 113, 114, 115, 116] [22, 39, 40, 83, 84] y g ∧ g 81 39 = i + 1 ∧ g 81 40 = y 81 40 + lf ∧
      (g 110 i = d ∧ g 111 i = (if d = 0 then -1 else y 97 (d - 1)) ∧ g 112 i = lsG h (pB h) (h 81 23) (pad d (y 97)) d ∧ g 113 i = lf ∧ g 114 i = wd ∧ ∀ j, 0 ≤ j → j ≤ h 81 23 → g 115 (13 * i + j) = Gs h (pB h) (pad d (y 97)) d j) ∧
      (∀ k, 0 ≤ k → k < i → g 110 k = y 110 k ∧ g 111 k = y 111 k ∧ g 112 k = y 112 k ∧ g 113 k = y 113 k ∧ g 114 k = y 114 k ∧ ∀ j, 0 ≤ j → j ≤ h 81 23 → g 115 (13 * k + j) = y 115 (13 * k + j)) ∧
      ∀ x j, 0 ≤ x → x ≤ d → 0 ≤ j → j ≤ h 81 23 → g 116 (13 * x + j) = Gs h (pB h) (pad d (y 97)) x j := by
  have oy1 : off [97, 110, 111, 112, 113, 114, 115, 116, 118, 119, 120] [22, 39, 40, 47, 83, 84] h (xup y 81 22 d) := off_w (off_tr oy off_um) (by decide) (by decide)
  obtain ⟨P1, S1, W1, B1, r1, r2, r3, r4, r5, r6, -⟩ := wm_fr oy1 hP hS W hB
  have m0 := hB.1
  have m1 := hB.2.1
  generalize hm : h 81 23 = m at *
  generalize hq : pB h = q at *
  generalize hp : pad d (y 97) = p at *
  have A1 : MA (xup y 81 22 d) := by
    unfold MA
    rw [xup_same, xup_row (o' := 97) (by decide)]
    exact ⟨d0, d1, hl⟩
  have pa : pA (xup y 81 22 d) = p := by
    unfold pA
    rw [xup_same, xup_row (o' := 97) (by decide)]
    exact hp
  have eF : Fm (xup y 81 22 d) = Gs h q p := by unfold Fm Gs; rw [r2, r3, r4, r5, r6, pa]
  obtain ⟨y2, s1, s2, s3, s4⟩ := m_stateRow7 (h := xup y 81 22 d) P1 S1 A1 B1 (d := d) xup_same d0 d1 (fun x j x0 x1 j0 j1 => by
    rw [eF, xup_row (by decide)]
    exact hF x j x0 x1 j0 (by rw [r1] at j1; exact j1))
  rw [eF] at s4
  rw [r1] at s3 s4
  have y2r : ∀ x j, 0 ≤ x → x ≤ d → 0 ≤ j → j ≤ m → y2 116 (13 * x + j) = Gs h q p x j := fun x j x0 x1 j0 j1 => by
    by_cases z : x = d
    · rw [z]; exact s4 j j0 j1
    · rw [s3 _ (fun z z0 z1 => by omega), xup_row (by decide)]
      exact hF x j x0 (by omega) j0 j1
  have e23 : y2 81 23 = m := by rw [s2.2 23 (by decide)]; exact r1
  have ls : ∀ y3 : xH, y3 116 = y2 116 → y3 81 23 = m → ∀ x, 0 ≤ x → x ≤ d → f_Md_leastOf x y3 = some (lsG h q m p x) := fun y3 e1 e2 x x0 x1 => by
    rw [m_leastOf (by omega) (by omega) x0 (by omega), e1, e2]
    unfold lsG
    rw [mnf_ext (fun j j0 j1 => y2r x j x0 x1 j0 (by omega))]
  have s2' : off [116] [22, 83, 84] y y2 := off_w (off_tr off_um s2) (by decide) (by decide)
  have e39 : y2 81 39 = i := by rw [s2'.2 39 (by decide)]; exact hi
  -- what is written of the node
  have tail : ∀ lf, (lf = 0 ∨ lf = 1) → ∃ g, f_Md_meets_51 d wd lf y2 = some (lf, g) ∧ off [110, 111, 112, 113, 114, 115] [39, 40] y2 g ∧ g 81 39 = i + 1 ∧ g 81 40 = y2 81 40 + lf ∧
      (g 110 i = d ∧ g 111 i = (if d = 0 then -1 else y 97 (d - 1)) ∧ g 112 i = lsG h q m p d ∧ g 113 i = lf ∧ g 114 i = wd ∧ ∀ j, 0 ≤ j → j ≤ m → g 115 (13 * i + j) = Gs h q p d j) ∧
      (∀ k, 0 ≤ k → k < i → g 110 k = y 110 k ∧ g 111 k = y 111 k ∧ g 112 k = y 112 k ∧ g 113 k = y 113 k ∧ g 114 k = y 114 k ∧ ∀ j, 0 ≤ j → j ≤ m → g 115 (13 * k + j) = y 115 (13 * k + j)) := by
    intro lf hlf
    have e97 : y2 97 = y 97 := s2'.1 97 (by decide) (by decide)
    have e0 : f_Md_meets_51 d wd lf y2 = f_Md_meets_87 d wd lf i (if d = 0 then -1 else y 97 (d - 1)) (xup y2 110 i d) := by
      unfold f_Md_meets_51
      rw [e39, xgd_pos i0 (by omega), xlet_eq]
      by_cases z : d = 0
      · rw [if_pos z, if_pos z, xup_row (by decide), e39]
      · rw [if_neg z, if_neg z, w32_id (by omega) (by omega), xgd_pos (by omega) (by omega), xup_row (by decide), xup_row (by decide), e39, e97]
    generalize hlt : (if d = 0 then -1 else y 97 (d - 1)) = lt at *
    generalize hy3 : xup (xup y2 110 i d) 111 i lt = y3
    have y3r : ∀ o, o ≠ 110 → o ≠ 111 → y3 o = y2 o := fun o a c => by rw [← hy3, xup_row c, xup_row a]
    have e1 : f_Md_meets_87 d wd lf i lt (xup y2 110 i d) = f_Md_meets_120 d wd lf i lf (xup y3 112 i (lsG h q m p d)) := by
      unfold f_Md_meets_87
      rw [xgd_pos i0 (by omega), xlet_eq, hy3, ls y3 (y3r 116 (by decide) (by decide)) (by rw [y3r 81 (by decide) (by decide)]; exact e23) d d0 (Int.le_refl _), xc1_some, y3r 81 (by decide) (by decide), e39, xgd_pos i0 (by omega), xlet_eq]
      rcases hlf with rfl | rfl
      · rw [if_pos rfl, xup_row (by decide), y3r 81 (by decide) (by decide), e39]
      · rw [if_neg (by decide), xup_row (by decide), y3r 81 (by decide) (by decide), e39]
    generalize hy4 : xup (xup (xup y3 112 i (lsG h q m p d)) 113 i lf) 114 i wd = y4
    have y4r : ∀ o, o ≠ 110 → o ≠ 111 → o ≠ 112 → o ≠ 113 → o ≠ 114 → y4 o = y2 o := fun o a c e f k => by rw [← hy4, xup_row k, xup_row f, xup_row e]; exact y3r o a c
    have e2 : f_Md_meets_120 d wd lf i lf (xup y3 112 i (lsG h q m p d)) = f_Md_meets_142 d lf 0 y4 := by
      unfold f_Md_meets_120
      rw [xgd_pos i0 (by omega), xlet_eq, xup_row (o' := 81) (by decide), xup_row (o' := 81) (by decide), y3r 81 (by decide) (by decide), e39]
      unfold f_Md_meets_138
      rcases hw with rfl | rfl
      · rw [if_pos rfl, xgd_pos i0 (by omega), xlet_eq, hy4]
      · rw [if_neg (by decide), xgd_pos i0 (by omega), xlet_eq, hy4]
    have e3 := xloop_T (step := fun s : Int × xH => f_Md_meets_s142 d lf s.1 s.2) (fun k => ((k : Int), hLay 115 (13 * i) k (fun j => y2 116 (13 * d + j)) y4)) (m + 1).toNat (s0 := (0, y4)) (b := hLay 115 (13 * i) (m + 1) (fun j => y2 116 (13 * d + j)) y4) (by rw [show ((0 : Nat) : Int) = 0 from rfl, hLay_0])
      (fun k hk => by
        dsimp only [f_Md_meets_s142]
        have sc := hLay_succ (o := 115) (p := 13 * i) (n := k) (f := fun j => y2 116 (13 * d + j)) (h := y4) (by omega)
        rw [hLay_row (o' := 81) (by decide), hLay_row (o' := 116) (by decide), y4r 81 (by decide) (by decide) (by decide) (by decide) (by decide), y4r 116 (by decide) (by decide) (by decide) (by decide) (by decide), e39, e23, if_neg (by omega), w32_id (z := 13 * d) (by omega) (by omega), w32_id (z := 13 * d + (k : Int)) (by omega) (by omega), w32_id (z := 13 * i) (by omega) (by omega), w32_id (z := 13 * i + (k : Int)) (by omega) (by omega), xgd_pos (by omega) (by omega), xgd_pos (by omega) (by omega), xlet_eq, w32_id (by omega) (by omega), xlet_eq, sc]
        rfl)
      (by
        dsimp only [f_Md_meets_s142]
        rw [hLay_row (o' := 81) (by decide), y4r 81 (by decide) (by decide) (by decide) (by decide) (by decide), e23, if_pos (by omega), show (((m + 1).toNat : Nat) : Int) = m + 1 by omega])
    generalize hy5 : hLay 115 (13 * i) (m + 1) (fun j => y2 116 (13 * d + j)) y4 = y5 at e3
    have y5r : ∀ o, o ≠ 115 → y5 o = y4 o := fun o a => by rw [← hy5]; exact hLay_row a
    have e4 : f_Md_meets_184 lf y5 = some (lf, if lf = 0 then xup y5 81 39 (i + 1) else xup (xup y5 81 39 (i + 1)) 81 40 (y2 81 40 + 1)) := by
      have e40 : y2 81 40 = y 81 40 := s2'.2 40 (by decide)
      unfold f_Md_meets_184
      rw [y5r 81 (by decide), y4r 81 (by decide) (by decide) (by decide) (by decide) (by decide), e39, w32_id (by omega) (by omega), xlet_eq]
      rcases hlf with rfl | rfl
      · rw [if_pos rfl, if_pos rfl, xgb_pos (by omega)]
      · rw [if_neg (by decide), if_neg (by decide), xup_ne_j (by decide), y5r 81 (by decide), y4r 81 (by decide) (by decide) (by decide) (by decide) (by decide), w32_id (by omega) (by omega), xlet_eq, xgb_pos (by omega)]
    generalize hy6 : (if lf = 0 then xup y5 81 39 (i + 1) else xup (xup y5 81 39 (i + 1)) 81 40 (y2 81 40 + 1)) = y6 at e4
    have y6r : ∀ o, o ≠ 81 → y6 o = y5 o := fun o a => by
      rw [← hy6]
      split
      · rw [xup_row a]
      · rw [xup_row a, xup_row a]
    have o5 : off [110, 111, 112, 113, 114, 115] [] y2 y5 := ⟨fun o h0 hn => by rw [y5r o (fun z => hn (by simp [z])), y4r o (fun z => hn (by simp [z])) (fun z => hn (by simp [z])) (fun z => hn (by simp [z])) (fun z => hn (by simp [z])) (fun z => hn (by simp [z]))], fun j _ => by rw [y5r 81 (by decide), y4r 81 (by decide) (by decide) (by decide) (by decide) (by decide)]⟩
    have o6 : off [] [39, 40] y5 y6 := by
      rw [← hy6]
      split
      · exact off_w off_um (by decide) (by decide)
      · exact off_w (off_tr off_um off_um) (by decide) (by decide)
    refine ⟨y6, ?_, off_w (off_tr o5 o6) (by decide) (by decide), ?_, ?_, ⟨?_, ?_, ?_, ?_, ?_, fun j j0 j1 => ?_⟩, fun k k0 k1 => ⟨?_, ?_, ?_, ?_, ?_, fun j j0 j1 => ?_⟩⟩
    · rw [e0, e1, e2]
      unfold f_Md_meets_142
      rw [e3, xc1_some, e4]
    · rw [← hy6]
      rcases hlf with rfl | rfl
      · rw [if_pos rfl, xup_same]
      · rw [if_neg (by decide), xup_ne_j (by decide), xup_same]
    · rw [← hy6]
      rcases hlf with rfl | rfl
      · rw [if_pos rfl, xup_ne_j (by decide), o5.2 40 (by decide)]; omega
      · rw [if_neg (by decide), xup_same]
    · rw [y6r 110 (by decide), y5r 110 (by decide), ← hy4, xup_row (by decide), xup_row (by decide), xup_row (by decide), ← hy3, xup_row (by decide), xup_same]
    · rw [y6r 111 (by decide), y5r 111 (by decide), ← hy4, xup_row (by decide), xup_row (by decide), xup_row (by decide), ← hy3, xup_same]
    · rw [y6r 112 (by decide), y5r 112 (by decide), ← hy4, xup_row (by decide), xup_row (by decide), xup_same]
    · rw [y6r 113 (by decide), y5r 113 (by decide), ← hy4, xup_row (by decide), xup_same]
    · rw [y6r 114 (by decide), y5r 114 (by decide), ← hy4, xup_same]
    · rw [y6r 115 (by decide), ← hy5, hLay_in (by omega) (by omega), show 13 * i + j - 13 * i = j by omega]
      exact s4 j j0 j1
    · rw [y6r 110 (by decide), y5r 110 (by decide), ← hy4, xup_row (by decide), xup_row (by decide), xup_row (by decide), ← hy3, xup_row (by decide), xup_ne_j (by omega), s2'.1 110 (by decide) (by decide)]
    · rw [y6r 111 (by decide), y5r 111 (by decide), ← hy4, xup_row (by decide), xup_row (by decide), xup_row (by decide), ← hy3, xup_ne_j (by omega), xup_row (by decide), s2'.1 111 (by decide) (by decide)]
    · rw [y6r 112 (by decide), y5r 112 (by decide), ← hy4, xup_row (by decide), xup_row (by decide), xup_ne_j (by omega), y3r 112 (by decide) (by decide), s2'.1 112 (by decide) (by decide)]
    · rw [y6r 113 (by decide), y5r 113 (by decide), ← hy4, xup_row (by decide), xup_ne_j (by omega), xup_row (by decide), y3r 113 (by decide) (by decide), s2'.1 113 (by decide) (by decide)]
    · rw [y6r 114 (by decide), y5r 114 (by decide), ← hy4, xup_ne_j (by omega), xup_row (by decide), xup_row (by decide), y3r 114 (by decide) (by decide), s2'.1 114 (by decide) (by decide)]
    · rw [y6r 115 (by decide), ← hy5, hLay_out (by omega), y4r 115 (by decide) (by decide) (by decide) (by decide) (by decide), s2'.1 115 (by decide) (by decide)]
  have res : ∃ lf, f_Md_meets d b wd y = f_Md_meets_51 d wd lf y2 ∧ (lf = 1 ∧ lft h q m b p d ∨ lf = 0 ∧ ¬ lft h q m b p d) := by
    unfold f_Md_meets f_Md_stateRow
    rw [xlet_eq, s1, xc1_some, ls y2 rfl e23 d d0 (Int.le_refl _), xc1_some]
    unfold f_Md_meets_30 f_Md_meets_46 f_Md_meets_50
    by_cases z : b < lsG h q m p d
    · rw [if_pos z]
      by_cases z1 : d < 1
      · rw [if_pos z1, if_pos (by omega)]
        exact ⟨1, rfl, Or.inl ⟨rfl, fun k k0 k1 => by rw [show k = d by omega]; exact z⟩⟩
      · rw [if_neg z1, w32_id (z := d - 1) (by omega) (by omega), ls y2 rfl e23 (d - 1) (by omega) (by omega), xc1_some]
        by_cases z2 : b < lsG h q m p (d - 1)
        · rw [if_pos z2]
          by_cases z3 : d < 2
          · rw [if_pos z3]
            refine ⟨1, rfl, Or.inl ⟨rfl, fun k k0 k1 => ?_⟩⟩
            by_cases c : k = d
            · rw [c]; exact z
            · rw [show k = d - 1 by omega]; exact z2
          · rw [if_neg z3, w32_id (z := d - 2) (by omega) (by omega), ls y2 rfl e23 (d - 2) (by omega) (by omega), xc1_some]
            by_cases z4 : b < lsG h q m p (d - 2)
            · rw [if_pos z4]
              refine ⟨1, rfl, Or.inl ⟨rfl, fun k k0 k1 => ?_⟩⟩
              by_cases c : k = d
              · rw [c]; exact z
              · by_cases c2 : k = d - 1
                · rw [c2]; exact z2
                · rw [show k = d - 2 by omega]; exact z4
            · rw [if_neg z4]
              exact ⟨0, rfl, Or.inr ⟨rfl, fun f => z4 (f (d - 2) (by omega) (by omega))⟩⟩
        · rw [if_neg z2]
          exact ⟨0, rfl, Or.inr ⟨rfl, fun f => z2 (f (d - 1) (by omega) (by omega))⟩⟩
    · rw [if_neg z]
      exact ⟨0, rfl, Or.inr ⟨rfl, fun f => z (f d (by omega) (by omega))⟩⟩
  obtain ⟨lf, q1, q2⟩ := res
  obtain ⟨g, t1, t2, t3, t4, t5, t6⟩ := tail lf (by rcases q2 with ⟨a, _⟩ | ⟨a, _⟩ <;> omega)
  exact ⟨lf, g, by rw [q1, t1], q2, off_w (off_tr s2' t2) (by decide) (by decide), t3, by rw [t4, s2'.2 40 (by decide)], t5, t6, fun x j x0 x1 j0 j1 => by rw [t2.1 116 (by decide) (by decide)]; exact y2r x j x0 x1 j0 j1⟩
