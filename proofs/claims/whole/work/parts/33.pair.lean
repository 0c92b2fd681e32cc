/-! PAIR, SOUND, PART, COUNT -/
theorem RO_append {o N t : Int} {h : xH} (hR : RO o N h) (hT : TO t h) (h3 : h o 2 < N) (ha : apart t o) : ∃ h', f_Rows_append o t h = some h' ∧ (∀ o', o' ≠ o → o' ≠ o + 1 → o' ≠ o + 2 → h' o' = h o') ∧ h' o 2 = h o 2 + 1 ∧ RO o N h' ∧ (∀ j, 0 ≤ j → j < h o 2 → h' (o + 2) j = h (o + 2) j ∧ ∀ i, 0 ≤ i → i < 12 → h' (o + 1) (j * 12 + i) = h (o + 1) (j * 12 + i)) ∧ h' (o + 2) (h o 2) = h t 1 ∧ ∀ i, 0 ≤ i → i < 12 → h' (o + 1) (h o 2 * 12 + i) = h (t + 1) i := by
  have n0 := hR.2.2.2.1
  obtain ⟨h', g1, g2, g3, g4, g5, g6, g7, g8, g9, g10⟩ := s_Rows_insert (r := h o 2) hR n0 (Int.le_refl _) h3 ha
  have k1 : ∀ j, 0 ≤ j → j < h o 2 → h' (o + 2) j = h (o + 2) j ∧ ∀ i, 0 ≤ i → i < 12 → h' (o + 1) (j * 12 + i) = h (o + 1) (j * 12 + i) := fun j a b => ⟨g5 j a b, fun i c d => g8 _ (by omega) (by omega)⟩
  refine ⟨h', by rw [s_Rows_append (N := N)]; exact g1, g2, g3, ⟨hR.1, hR.2.1, hR.2.2.1, by omega, by omega, fun r a b => ?_⟩, k1, g6, g9⟩
  by_cases q : r < h o 2
  · obtain ⟨c1, c2⟩ := k1 r a q
    obtain ⟨d1, d2, d3⟩ := hR.2.2.2.2.2 r a q
    rw [c1]
    exact ⟨d1, d2, fun k e f => by rw [c2 k e (by omega)]; exact d3 k e f⟩
  · have : r = h o 2 := by omega
    subst this
    rw [g6]
    exact ⟨hT.1, hT.2.1, fun k e f => by rw [g9 k e (by have := hT.2.1; omega)]; exact hT.2.2 k e f⟩
theorem s_isFull {o N : Int} {h : xH} (hR : RO o N h) : f_Rows_isFull o h = some (if h o 2 < N then 0 else 1) := by
  unfold f_Rows_isFull
  rw [hR.1]
  split <;> rfl
theorem op_pair : Op2 f_WM_pair f_Md_pair := by
  refine op2_of (fun _ _ => loc_Md_pair) (fun h hI => ?_)
  obtain ⟨P1, P2, P3, P4, P5⟩ := hI.2.2.2.2.2.1
  rcases rd2 (lo := 12) (by decide) hI.1 with ⟨n, f, m, g, h1, n1, n2, hfb, m1, m2, hgb, e1, o1, z1, hTa, a21, -, a22, hTb, a23, -, a24, hx⟩ | ⟨h1, e1, o1, z1, hx⟩
  · obtain ⟨h2, g1, g2, g3, g4, g5, g6⟩ := hx h rfl rfl
    have o2 := mfr_off g2
    have r1 : ∀ o, o ≠ 2 → o ≠ 21 → o ≠ 22 → o ≠ 23 → o ≠ 24 → o ≠ 81 → h1 o = h o := fun o a1 a2 a3 a4 a5 a6 => o1.1 o a6 (by simp [a1, a2, a3, a4, a5])
    have e40 : h1 40 = h 40 := r1 40 (by decide) (by decide) (by decide) (by decide) (by decide) (by decide)
    have e43 : h1 43 = h 43 := r1 43 (by decide) (by decide) (by decide) (by decide) (by decide) (by decide)
    have R40 : RO 40 40 h1 := RO_off o1 (by decide) P1
    have R43 : RO 43 40 h1 := RO_off o1 (by decide) P2
    have e61 : h2 81 61 = h 40 2 := by rw [g2.2.1 61 (by decide) (by decide), P4]
    by_cases q : h 40 2 < 40
    · obtain ⟨h3, k1, k2, k3, k4, k5, k6, k7⟩ := RO_append R40 hTa (by rw [e40]; exact q) (by unfold apart; decide)
      simp only [Int.reduceAdd, e40] at k2 k3 k5 k6 k7
      have hTb3 : TO 23 h3 := by
        unfold TO
        rw [k2 23 (by decide) (by decide) (by decide), k2 (23 + 1) (by decide) (by decide) (by decide)]
        exact hTb
      have R43' : RO 43 40 h3 := RO_congr (k2 43 (by decide) (by decide) (by decide)) (k2 _ (by decide) (by decide) (by decide)) (k2 _ (by decide) (by decide) (by decide)) R43
      have e43' : h3 43 2 = h 40 2 := by rw [k2 43 (by decide) (by decide) (by decide), e43, P3]
      obtain ⟨h4, l1, l2, l3, l4, l5, l6, l7⟩ := RO_append R43' hTb3 (by rw [e43']; exact q) (by unfold apart; decide)
      simp only [Int.reduceAdd, e43'] at l2 l3 l5 l6 l7
      have n0 : 0 ≤ h 40 2 := P1.2.2.2.1
      have oc : off [40, 41, 42, 43, 44, 45] [] h1 h4 := ⟨fun o h0 hn => by
        rw [l2 o (fun z => hn (by simp [z])) (fun z => hn (by simp [z])) (fun z => hn (by simp [z])), k2 o (fun z => hn (by simp [z])) (fun z => hn (by simp [z])) (fun z => hn (by simp [z]))], fun j _ => by rw [l2 81 (by decide) (by decide) (by decide), k2 81 (by decide) (by decide) (by decide)]⟩
      -- the model
      have ml := xloop_T (step := fun s : Int × xH => f_Md_pair_s56 s.1 s.2) (fun k => ((k : Int), hLay 130 (12 * h 40 2) k (fun k => h2 84 (12 + k)) (hLay 128 (12 * h 40 2) k (fun k => h2 84 k) (xup (xup h2 127 (h 40 2) n) 129 (h 40 2) m)))) 12 (s0 := (0, xup (xup h2 127 (h 40 2) n) 129 (h 40 2) m)) (b := hLay 130 (12 * h 40 2) 12 (fun k => h2 84 (12 + k)) (hLay 128 (12 * h 40 2) 12 (fun k => h2 84 k) (xup (xup h2 127 (h 40 2) n) 129 (h 40 2) m))) (by rw [show ((0 : Nat) : Int) = 0 by rfl, hLay_0, hLay_0]) (fun k hk => by
        dsimp only [f_Md_pair_s56]
        rw [if_pos (by omega), xgd_pos (by omega) (by omega)]
        have c81 : ∀ v, xup (hLay 130 (12 * h 40 2) (k : Int) (fun k => h2 84 (12 + k)) (hLay 128 (12 * h 40 2) (k : Int) (fun k => h2 84 k) (xup (xup h2 127 (h 40 2) n) 129 (h 40 2) m))) 128 (12 * h 40 2 + k) v 81 = h2 81 := fun v => by simp (disch := omega) only [hLay_row, ↓if_pos, ↓if_neg, ↓xgd_pos, ↓xgb_pos, ↓xgc_pos, ↓xlet_eq, xc1_some, xc2_some, w32_id, xup_same, xup_row, xup_ne_j, xsw_l, xsw_r]
        have c81' : hLay 130 (12 * h 40 2) (k : Int) (fun k => h2 84 (12 + k)) (hLay 128 (12 * h 40 2) (k : Int) (fun k => h2 84 k) (xup (xup h2 127 (h 40 2) n) 129 (h 40 2) m)) 81 = h2 81 := by simp (disch := omega) only [hLay_row, ↓if_pos, ↓if_neg, ↓xgd_pos, ↓xgb_pos, ↓xgc_pos, ↓xlet_eq, xc1_some, xc2_some, w32_id, xup_same, xup_row, xup_ne_j, xsw_l, xsw_r]
        have c84 : ∀ v, xup (hLay 130 (12 * h 40 2) (k : Int) (fun k => h2 84 (12 + k)) (hLay 128 (12 * h 40 2) (k : Int) (fun k => h2 84 k) (xup (xup h2 127 (h 40 2) n) 129 (h 40 2) m))) 128 (12 * h 40 2 + k) v 84 = h2 84 := fun v => by simp (disch := omega) only [hLay_row, ↓if_pos, ↓if_neg, ↓xgd_pos, ↓xgb_pos, ↓xgc_pos, ↓xlet_eq, xc1_some, xc2_some, w32_id, xup_same, xup_row, xup_ne_j, xsw_l, xsw_r]
        have c84' : hLay 130 (12 * h 40 2) (k : Int) (fun k => h2 84 (12 + k)) (hLay 128 (12 * h 40 2) (k : Int) (fun k => h2 84 k) (xup (xup h2 127 (h 40 2) n) 129 (h 40 2) m)) 84 = h2 84 := by simp (disch := omega) only [hLay_row, ↓if_pos, ↓if_neg, ↓xgd_pos, ↓xgb_pos, ↓xgc_pos, ↓xlet_eq, xc1_some, xc2_some, w32_id, xup_same, xup_row, xup_ne_j, xsw_l, xsw_r]
        rw [c81', e61, w32_id (z := 12 * h 40 2) (by omega) (by omega), w32_id (z := 12 * h 40 2 + (k : Int)) (by omega) (by omega), xgd_pos (by omega) (by omega), xlet_eq, c84', c81, e61, w32_id (z := 12 + (k : Int)) (by omega) (by omega), xgd_pos (by omega) (by omega), w32_id (z := 12 * h 40 2) (by omega) (by omega), w32_id (z := 12 * h 40 2 + (k : Int)) (by omega) (by omega), xgd_pos (by omega) (by omega), xlet_eq, c84, w32_id (by omega) (by omega), xlet_eq]
        have s1 : xup (hLay 130 (12 * h 40 2) (k : Int) (fun k => h2 84 (12 + k)) (hLay 128 (12 * h 40 2) (k : Int) (fun k => h2 84 k) (xup (xup h2 127 (h 40 2) n) 129 (h 40 2) m))) 128 (12 * h 40 2 + k) (h2 84 k) = hLay 130 (12 * h 40 2) (k : Int) (fun k => h2 84 (12 + k)) (hLay 128 (12 * h 40 2) ((k : Int) + 1) (fun k => h2 84 k) (xup (xup h2 127 (h 40 2) n) 129 (h 40 2) m)) := by
          rw [← hLay_succ (f := fun k => h2 84 k) (o := 128) (by omega)]
          funext o j
          simp only [xup, hLay]
          by_cases y : o = 128 ∧ j = 12 * h 40 2 + k
          · rw [if_pos y, if_neg (by omega), if_pos y]
          · rw [if_neg y, if_neg y]
        rw [s1, hLay_succ (f := fun k => h2 84 (12 + k)) (by omega)]
        congr 3) (by rfl)
      generalize hL : hLay 130 (12 * h 40 2) 12 (fun k => h2 84 (12 + k)) (hLay 128 (12 * h 40 2) 12 (fun k => h2 84 k) (xup (xup h2 127 (h 40 2) n) 129 (h 40 2) m)) = Y at ml
      have y81 : Y 81 = h2 81 := by rw [← hL]; simp (disch := omega) only [hLay_row, ↓if_pos, ↓if_neg, ↓xgd_pos, ↓xgb_pos, ↓xgc_pos, ↓xlet_eq, xc1_some, xc2_some, w32_id, xup_same, xup_row, xup_ne_j, xsw_l, xsw_r]
      have oY : off [127, 128, 129, 130] [] h2 Y := by
        rw [← hL]
        exact off_w (off_tr (off_tr (off_tr (off_up (by decide)) (off_up (by decide))) (off_lay (by decide))) (off_lay (by decide))) (by decide) (by decide)
      refine ⟨h 40 2, h4, xup Y 81 61 (h 40 2 + 1), ?_, off_hi (off_tr o1 oc) (by decide) rfl, ?_, ?_⟩
      · unfold f_WM_pair
        have e40' : h4 40 2 = h 40 2 + 1 := by rw [l2 40 (by decide) (by decide) (by decide)]; exact k3
        have f40 := s_isFull R40
        have f43 := s_isFull R43
        rw [e40, if_pos q] at f40
        rw [e43, P3, if_pos q] at f43
        simp (disch := omega) only [e1, f40, f43, k1, l1, e40', ↓if_pos, ↓if_neg, ↓xgd_pos, ↓xgb_pos, ↓xgc_pos, ↓xlet_eq, xc1_some, xc2_some, w32_id, xup_same, xup_row, xup_ne_j, xsw_l, xsw_r]
        congr 2
        omega
      · unfold f_Md_pair f_Md_pair_56 f_Md_pair_111
        simp (disch := omega) only [g1, e61, g3, g5, ml, y81, ↓if_pos, ↓if_neg, ↓xgd_pos, ↓xgb_pos, ↓xgc_pos, ↓xlet_eq, xc1_some, xc2_some, w32_id, xup_same, xup_row, xup_ne_j, xsw_l, xsw_r]
      · have o4 : off [83, 84, 127, 128, 129, 130] [1, 2, 61] h (xup Y 81 61 (h 40 2 + 1)) := off_w (off_tr (off_tr o2 oY) off_um) (by decide) (by decide)
        have hT := Tp_empty (h := mx h4 (xup Y 81 61 (h 40 2 + 1))) (by rw [mx_lo (by decide), oc.1 2 (by decide) (by decide)]; exact z1) (by rw [mx_hi (by decide), xup_ne_j (by decide), y81]; exact g2.2.2)
        have b127 : ∀ j, Y 127 j = if j = h 40 2 then n else h 127 j := fun j => by
          rw [← hL]
          by_cases y : j = h 40 2
          · rw [if_pos y, y]; simp (disch := omega) only [hLay_row, ↓if_pos, ↓if_neg, ↓xgd_pos, ↓xgb_pos, ↓xgc_pos, ↓xlet_eq, xc1_some, xc2_some, w32_id, xup_same, xup_row, xup_ne_j, xsw_l, xsw_r]
          · rw [if_neg y]; simp (disch := omega) only [hLay_row, ↓if_pos, ↓if_neg, ↓xgd_pos, ↓xgb_pos, ↓xgc_pos, ↓xlet_eq, xc1_some, xc2_some, w32_id, xup_same, xup_row, xup_ne_j, xsw_l, xsw_r]; rw [o2.1 127 (by decide) (by decide)]
        have b129 : ∀ j, Y 129 j = if j = h 40 2 then m else h 129 j := fun j => by
          rw [← hL]
          by_cases y : j = h 40 2
          · rw [if_pos y, y]; simp (disch := omega) only [hLay_row, ↓if_pos, ↓if_neg, ↓xgd_pos, ↓xgb_pos, ↓xgc_pos, ↓xlet_eq, xc1_some, xc2_some, w32_id, xup_same, xup_row, xup_ne_j, xsw_l, xsw_r]
          · rw [if_neg y]; simp (disch := omega) only [hLay_row, ↓if_pos, ↓if_neg, ↓xgd_pos, ↓xgb_pos, ↓xgc_pos, ↓xlet_eq, xc1_some, xc2_some, w32_id, xup_same, xup_row, xup_ne_j, xsw_l, xsw_r]; rw [o2.1 129 (by decide) (by decide)]
        have b128 : ∀ j, j < 12 * h 40 2 → Y 128 j = h 128 j := fun j y => by
          rw [← hL, hLay_row (by decide), hLay_out (by omega), xup_row (by decide), xup_row (by decide), o2.1 128 (by decide) (by decide)]
        have b128' : ∀ k, 0 ≤ k → k < 12 → Y 128 (12 * h 40 2 + k) = h2 84 k := fun k y y2 => by
          rw [← hL, hLay_row (by decide), hLay_in (by omega) (by omega), show 12 * h 40 2 + k - 12 * h 40 2 = k by omega]
        have b130 : ∀ j, j < 12 * h 40 2 → Y 130 j = h 130 j := fun j y => by
          rw [← hL, hLay_out (by omega), hLay_row (by decide), xup_row (by decide), xup_row (by decide), o2.1 130 (by decide) (by decide)]
        have b130' : ∀ k, 0 ≤ k → k < 12 → Y 130 (12 * h 40 2 + k) = h2 84 (12 + k) := fun k y y2 => by
          rw [← hL, hLay_in (by omega) (by omega), show 12 * h 40 2 + k - 12 * h 40 2 = k by omega]
        have x40 : h4 40 = h3 40 := l2 40 (by decide) (by decide) (by decide)
        have x41 : h4 41 = h3 41 := l2 41 (by decide) (by decide) (by decide)
        have x42 : h4 42 = h3 42 := l2 42 (by decide) (by decide) (by decide)
        have x44 : h3 44 = h1 44 := k2 44 (by decide) (by decide) (by decide)
        have x45 : h3 45 = h1 45 := k2 45 (by decide) (by decide) (by decide)
        have d41 : h1 41 = h 41 := r1 41 (by decide) (by decide) (by decide) (by decide) (by decide) (by decide)
        have d42 : h1 42 = h 42 := r1 42 (by decide) (by decide) (by decide) (by decide) (by decide) (by decide)
        have d44 : h1 44 = h 44 := r1 44 (by decide) (by decide) (by decide) (by decide) (by decide) (by decide)
        have d45 : h1 45 = h 45 := r1 45 (by decide) (by decide) (by decide) (by decide) (by decide) (by decide)
        have hP : Pa (mx h4 (xup Y 81 61 (h 40 2 + 1))) := by
          have w40 : mx h4 (xup Y 81 61 (h 40 2 + 1)) 40 = h4 40 := mx_lo (by decide)
          have w41 : mx h4 (xup Y 81 61 (h 40 2 + 1)) 41 = h4 41 := mx_lo (by decide)
          have w42 : mx h4 (xup Y 81 61 (h 40 2 + 1)) 42 = h4 42 := mx_lo (by decide)
          have w43 : mx h4 (xup Y 81 61 (h 40 2 + 1)) 43 = h4 43 := mx_lo (by decide)
          have w44 : mx h4 (xup Y 81 61 (h 40 2 + 1)) 44 = h4 44 := mx_lo (by decide)
          have w45 : mx h4 (xup Y 81 61 (h 40 2 + 1)) 45 = h4 45 := mx_lo (by decide)
          refine ⟨RO_congr (h := h3) (w40.trans x40) (w41.trans x41) (w42.trans x42) k4, RO_congr (h := h4) w43 w44 w45 l4, ?_⟩
          rw [w40, w41, w42, w43, w44, w45, mx_hi (o := 81) (by decide), mx_hi (o := 127) (by decide), mx_hi (o := 128) (by decide), mx_hi (o := 129) (by decide), mx_hi (o := 130) (by decide), xup_same, xup_row (o' := 127) (by decide), xup_row (o' := 128) (by decide), xup_row (o' := 129) (by decide), xup_row (o' := 130) (by decide), x40, x41, x42, k3, l3]
          refine ⟨rfl, rfl, fun p p1 p2 => ?_⟩
          by_cases y : p < h 40 2
          · obtain ⟨c1, c2⟩ := k5 p p1 y
            obtain ⟨c3, c4⟩ := l5 p p1 y
            obtain ⟨d1, d2, d3, d4⟩ := P5 p p1 y
            have b1 := (P1.2.2.2.2.2 p p1 y).2.1
            have b2 := (P2.2.2.2.2.2 p p1 (by rw [P3]; exact y)).2.1
            simp only [Int.reduceAdd] at b1 b2
            rw [c1, c3, b127, if_neg (by omega), b129, if_neg (by omega), d42, x45, d45]
            refine ⟨d1, d2, fun k y1 y2 => ?_, fun k y1 y2 => ?_⟩
            · rw [b128 _ (by omega), c2 k y1 (by omega), d41]; exact d3 k y1 y2
            · rw [b130 _ (by omega), c4 k y1 (by omega), x44, d44]; exact d4 k y1 y2
          · have : p = h 40 2 := by omega
            subst this
            rw [k6, l6, b127, if_pos rfl, b129, if_pos rfl, a21, k2 23 (by decide) (by decide) (by decide), a23]
            refine ⟨rfl, rfl, fun k y1 y2 => ?_, fun k y1 y2 => ?_⟩
            · rw [b128' k y1 (by omega), k7 k y1 (by omega), g4 k y1 y2]; exact (a22 k y1 y2).symm
            · rw [b130' k y1 (by omega), l7 k y1 (by omega), g6 k y1 y2, k2 24 (by decide) (by decide) (by decide)]; exact (a24 k y1 y2).symm
        exact inv_mk (off_mx (off_tr o1 oc) o4) hI
    · have n40 : h 40 2 = 40 := by have := P1.2.2.2.2.1; omega
      refine ⟨-4, h1, h2, ?_, off_hi o1 (by decide) rfl, ?_, ?_⟩
      · unfold f_WM_pair
        have f40 := s_isFull R40
        rw [e40, if_neg q] at f40
        simp (disch := omega) only [e1, f40, ↓if_pos, ↓if_neg, ↓xgd_pos, ↓xgb_pos, ↓xgc_pos, ↓xlet_eq, xc1_some, xc2_some, w32_id, xup_same, xup_row, xup_ne_j, xsw_l, xsw_r]
      · unfold f_Md_pair
        simp (disch := omega) only [g1, e61, ↓if_pos, ↓if_neg, ↓xgd_pos, ↓xgb_pos, ↓xgc_pos, ↓xlet_eq, xc1_some, xc2_some, w32_id, xup_same, xup_row, xup_ne_j, xsw_l, xsw_r]
      · have hT := Tp_empty (h := mx h1 h2) (by rw [mx_lo (by decide)]; exact z1) (by rw [mx_hi (by decide)]; exact g2.2.2)
        exact inv_mk (off_mx o1 o2) hI
  · obtain ⟨h2, g1, g2⟩ := hx h rfl rfl
    have o2 := mfr_off g2
    refine ⟨-2, h1, h2, ?_, off_hi o1 (by decide) rfl, ?_, ?_⟩
    · unfold f_WM_pair
      rw [e1, xc2_some, if_pos rfl]
    · unfold f_Md_pair
      rw [g1, xc2_some, if_pos rfl]
    · have hT := Tp_empty (h := mx h1 h2) (by rw [mx_lo (by decide)]; exact z1) (by rw [mx_hi (by decide)]; exact g2.2.2)
      exact inv_mk (off_mx o1 o2) hI
