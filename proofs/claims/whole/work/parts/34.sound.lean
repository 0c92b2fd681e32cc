/-! SOUND, PART, COUNT -/
theorem op_sound (v : Int) : Op2 (f_WM_sound v) (f_Md_sound v) := by
  refine op2_of (fun _ _ => loc_Md_sound) (fun h hI => ?_)
  obtain ⟨P1, P2, P3, P4, P5⟩ := hI.2.2.2.2.1
  rcases rd2 (lo := 3) (by decide) hI.1 with ⟨n, f, m, g, h1, n1, n2, hfb, m1, m2, hgb, e1, o1, z1, hTa, a21, -, a22, hTb, a23, -, a24, hx⟩ | ⟨h1, e1, o1, z1, hx⟩
  · obtain ⟨h2, g1, g2, g3, g4, g5, g6⟩ := hx h rfl rfl
    have o2 := mfr_off g2
    by_cases qv : v < 1 ∨ 9999 < v
    · refine ⟨-2, h1, h2, ?_, off_hi o1 (by decide) rfl, ?_, ?_⟩
      · unfold f_WM_sound
        by_cases z : v < 1
        · simp (disch := omega) only [e1, ↓if_pos, ↓if_neg, ↓xgd_pos, ↓xgb_pos, ↓xgc_pos, ↓xlet_eq, xc1_some, xc2_some, w32_id, xup_same, xup_row, xup_ne_j, xsw_l, xsw_r]
        · simp (disch := omega) only [e1, ↓if_pos, ↓if_neg, ↓xgd_pos, ↓xgb_pos, ↓xgc_pos, ↓xlet_eq, xc1_some, xc2_some, w32_id, xup_same, xup_row, xup_ne_j, xsw_l, xsw_r]
      · unfold f_Md_sound
        simp (disch := omega) only [g1, in_0, ↓if_pos, ↓if_neg, ↓xgd_pos, ↓xgb_pos, ↓xgc_pos, ↓xlet_eq, xc1_some, xc2_some, w32_id, xup_same, xup_row, xup_ne_j, xsw_l, xsw_r]
      · have hT := Tp_empty (h := mx h1 h2) (by rw [mx_lo (by decide)]; exact z1) (by rw [mx_hi (by decide)]; exact g2.2.2)
        exact inv_mk (off_mx o1 o2) hI
    · have r1 : ∀ o, o ≠ 2 → o ≠ 21 → o ≠ 22 → o ≠ 23 → o ≠ 24 → o ≠ 81 → h1 o = h o := fun o a1 a2 a3 a4 a5 a6 => o1.1 o a6 (by simp [a1, a2, a3, a4, a5])
      have e40 : h1 14 = h 14 := r1 14 (by decide) (by decide) (by decide) (by decide) (by decide) (by decide)
      have e43 : h1 17 = h 17 := r1 17 (by decide) (by decide) (by decide) (by decide) (by decide) (by decide)
      have R40 : RO 14 20 h1 := RO_off o1 (by decide) P1
      have R43 : RO 17 20 h1 := RO_off o1 (by decide) P2
      have e61 : h2 81 16 = h 14 2 := by rw [g2.2.1 16 (by decide) (by decide), P4]
      have n0 : 0 ≤ h 14 2 := P1.2.2.2.1
      by_cases q : h 14 2 < 20
      · obtain ⟨h3, k1, k2, k3, k4, k5, k6, k7⟩ := RO_append R40 hTa (by rw [e40]; exact q) (by unfold apart; decide)
        simp only [Int.reduceAdd, e40] at k2 k3 k5 k6 k7
        have hTb3 : TO 23 h3 := by
          unfold TO
          rw [k2 23 (by decide) (by decide) (by decide), k2 (23 + 1) (by decide) (by decide) (by decide)]
          exact hTb
        have R43' : RO 17 20 h3 := RO_congr (k2 17 (by decide) (by decide) (by decide)) (k2 _ (by decide) (by decide) (by decide)) (k2 _ (by decide) (by decide) (by decide)) R43
        have e43' : h3 17 2 = h 14 2 := by rw [k2 17 (by decide) (by decide) (by decide), e43, P3]
        obtain ⟨h4, l1, l2, l3, l4, l5, l6, l7⟩ := RO_append R43' hTb3 (by rw [e43']; exact q) (by unfold apart; decide)
        simp only [Int.reduceAdd, e43'] at l2 l3 l5 l6 l7
        have oc : off [14, 15, 16, 17, 18, 19, 20] [] h1 (xup h4 20 (h 14 2) v) := ⟨fun o h0 hn => by
          rw [xup_row (fun z => hn (by simp [z])), l2 o (fun z => hn (by simp [z])) (fun z => hn (by simp [z])) (fun z => hn (by simp [z])), k2 o (fun z => hn (by simp [z])) (fun z => hn (by simp [z])) (fun z => hn (by simp [z]))], fun j _ => by rw [xup_row (by decide), l2 81 (by decide) (by decide) (by decide), k2 81 (by decide) (by decide) (by decide)]⟩
        have ml := xloop_T (step := fun s : Int × xH => f_Md_sound_s68 v s.1 s.2) (fun k => ((k : Int), hLay 95 (3 * h 14 2) k (fun k => h2 84 (12 + k)) (hLay 93 (3 * h 14 2) k (fun k => h2 84 k) (xup (xup h2 92 (h 14 2) n) 94 (h 14 2) m)))) 3 (s0 := (0, xup (xup h2 92 (h 14 2) n) 94 (h 14 2) m)) (b := hLay 95 (3 * h 14 2) 3 (fun k => h2 84 (12 + k)) (hLay 93 (3 * h 14 2) 3 (fun k => h2 84 k) (xup (xup h2 92 (h 14 2) n) 94 (h 14 2) m))) (by rw [show ((0 : Nat) : Int) = 0 by rfl, hLay_0, hLay_0]) (fun k hk => by
          dsimp only [f_Md_sound_s68]
          rw [if_pos (by omega), xgd_pos (by omega) (by omega)]
          have c81 : ∀ v, xup (hLay 95 (3 * h 14 2) (k : Int) (fun k => h2 84 (12 + k)) (hLay 93 (3 * h 14 2) (k : Int) (fun k => h2 84 k) (xup (xup h2 92 (h 14 2) n) 94 (h 14 2) m))) 93 (3 * h 14 2 + k) v 81 = h2 81 := fun v => by simp (disch := omega) only [hLay_row, ↓if_pos, ↓if_neg, ↓xgd_pos, ↓xgb_pos, ↓xgc_pos, ↓xlet_eq, xc1_some, xc2_some, w32_id, xup_same, xup_row, xup_ne_j, xsw_l, xsw_r]
          have c81' : hLay 95 (3 * h 14 2) (k : Int) (fun k => h2 84 (12 + k)) (hLay 93 (3 * h 14 2) (k : Int) (fun k => h2 84 k) (xup (xup h2 92 (h 14 2) n) 94 (h 14 2) m)) 81 = h2 81 := by simp (disch := omega) only [hLay_row, ↓if_pos, ↓if_neg, ↓xgd_pos, ↓xgb_pos, ↓xgc_pos, ↓xlet_eq, xc1_some, xc2_some, w32_id, xup_same, xup_row, xup_ne_j, xsw_l, xsw_r]
          have c84 : ∀ v, xup (hLay 95 (3 * h 14 2) (k : Int) (fun k => h2 84 (12 + k)) (hLay 93 (3 * h 14 2) (k : Int) (fun k => h2 84 k) (xup (xup h2 92 (h 14 2) n) 94 (h 14 2) m))) 93 (3 * h 14 2 + k) v 84 = h2 84 := fun v => by simp (disch := omega) only [hLay_row, ↓if_pos, ↓if_neg, ↓xgd_pos, ↓xgb_pos, ↓xgc_pos, ↓xlet_eq, xc1_some, xc2_some, w32_id, xup_same, xup_row, xup_ne_j, xsw_l, xsw_r]
          have c84' : hLay 95 (3 * h 14 2) (k : Int) (fun k => h2 84 (12 + k)) (hLay 93 (3 * h 14 2) (k : Int) (fun k => h2 84 k) (xup (xup h2 92 (h 14 2) n) 94 (h 14 2) m)) 84 = h2 84 := by simp (disch := omega) only [hLay_row, ↓if_pos, ↓if_neg, ↓xgd_pos, ↓xgb_pos, ↓xgc_pos, ↓xlet_eq, xc1_some, xc2_some, w32_id, xup_same, xup_row, xup_ne_j, xsw_l, xsw_r]
          rw [c81', e61, w32_id (z := 3 * h 14 2) (by omega) (by omega), w32_id (z := 3 * h 14 2 + (k : Int)) (by omega) (by omega), xgd_pos (by omega) (by omega), xlet_eq, c84', c81, e61, w32_id (z := 12 + (k : Int)) (by omega) (by omega), xgd_pos (by omega) (by omega), w32_id (z := 3 * h 14 2) (by omega) (by omega), w32_id (z := 3 * h 14 2 + (k : Int)) (by omega) (by omega), xgd_pos (by omega) (by omega), xlet_eq, c84, w32_id (by omega) (by omega), xlet_eq]
          have s1 : xup (hLay 95 (3 * h 14 2) (k : Int) (fun k => h2 84 (12 + k)) (hLay 93 (3 * h 14 2) (k : Int) (fun k => h2 84 k) (xup (xup h2 92 (h 14 2) n) 94 (h 14 2) m))) 93 (3 * h 14 2 + k) (h2 84 k) = hLay 95 (3 * h 14 2) (k : Int) (fun k => h2 84 (12 + k)) (hLay 93 (3 * h 14 2) ((k : Int) + 1) (fun k => h2 84 k) (xup (xup h2 92 (h 14 2) n) 94 (h 14 2) m)) := by
            rw [← hLay_succ (f := fun k => h2 84 k) (o := 93) (by omega)]
            funext o j
            simp only [xup, hLay]
            by_cases y : o = 93 ∧ j = 3 * h 14 2 + k
            · rw [if_pos y, if_neg (by omega), if_pos y]
            · rw [if_neg y, if_neg y]
          rw [s1, hLay_succ (f := fun k => h2 84 (12 + k)) (by omega)]
          congr 3) (by rfl)
        generalize hL : hLay 95 (3 * h 14 2) 3 (fun k => h2 84 (12 + k)) (hLay 93 (3 * h 14 2) 3 (fun k => h2 84 k) (xup (xup h2 92 (h 14 2) n) 94 (h 14 2) m)) = Y at ml
        have y81 : Y 81 = h2 81 := by rw [← hL]; simp (disch := omega) only [hLay_row, ↓if_pos, ↓if_neg, ↓xgd_pos, ↓xgb_pos, ↓xgc_pos, ↓xlet_eq, xc1_some, xc2_some, w32_id, xup_same, xup_row, xup_ne_j, xsw_l, xsw_r]
        have oY : off [92, 93, 94, 95] [] h2 Y := by
          rw [← hL]
          exact off_w (off_tr (off_tr (off_tr (off_up (by decide)) (off_up (by decide))) (off_lay (by decide))) (off_lay (by decide))) (by decide) (by decide)
        refine ⟨h 14 2, xup h4 20 (h 14 2) v, xup (xup Y 96 (h 14 2) v) 81 16 (h 14 2 + 1), ?_, off_hi (off_tr o1 oc) (by decide) rfl, ?_, ?_⟩
        · unfold f_WM_sound f_Slips_addSound
          have f40 := s_isFull R40
          have f43 := s_isFull R43
          rw [e40, if_pos q] at f40
          rw [e43, P3, if_pos q] at f43
          simp (disch := omega) only [e1, e40, f40, f43, k1, l1, ↓if_pos, ↓if_neg, ↓xgd_pos, ↓xgb_pos, ↓xgc_pos, ↓xlet_eq, xc1_some, xc2_some, w32_id, xup_same, xup_row, xup_ne_j, xsw_l, xsw_r]
        · unfold f_Md_sound f_Md_sound_68 f_Md_sound_120
          simp (disch := omega) only [g1, in_1, e61, g3, g5, ml, y81, ↓if_pos, ↓if_neg, ↓xgd_pos, ↓xgb_pos, ↓xgc_pos, ↓xlet_eq, xc1_some, xc2_some, w32_id, xup_same, xup_row, xup_ne_j, xsw_l, xsw_r]
        · have o4 : off [83, 84, 92, 93, 94, 95, 96] [1, 2, 16] h (xup (xup Y 96 (h 14 2) v) 81 16 (h 14 2 + 1)) := off_w (off_tr (off_tr o2 oY) (off_tr (off_up (by decide)) off_um)) (by decide) (by decide)
          have hT := Tp_empty (h := mx (xup h4 20 (h 14 2) v) (xup (xup Y 96 (h 14 2) v) 81 16 (h 14 2 + 1))) (by rw [mx_lo (by decide), oc.1 2 (by decide) (by decide)]; exact z1) (by rw [mx_hi (by decide), xup_ne_j (by decide), xup_row (by decide), y81]; exact g2.2.2)
          have b92 : ∀ j, Y 92 j = if j = h 14 2 then n else h 92 j := fun j => by
            rw [← hL]
            by_cases y : j = h 14 2
            · rw [if_pos y, y]; simp (disch := omega) only [hLay_row, ↓if_pos, ↓if_neg, ↓xgd_pos, ↓xgb_pos, ↓xgc_pos, ↓xlet_eq, xc1_some, xc2_some, w32_id, xup_same, xup_row, xup_ne_j, xsw_l, xsw_r]
            · rw [if_neg y]; simp (disch := omega) only [hLay_row, ↓if_pos, ↓if_neg, ↓xgd_pos, ↓xgb_pos, ↓xgc_pos, ↓xlet_eq, xc1_some, xc2_some, w32_id, xup_same, xup_row, xup_ne_j, xsw_l, xsw_r]; rw [o2.1 92 (by decide) (by decide)]
          have b94 : ∀ j, Y 94 j = if j = h 14 2 then m else h 94 j := fun j => by
            rw [← hL]
            by_cases y : j = h 14 2
            · rw [if_pos y, y]; simp (disch := omega) only [hLay_row, ↓if_pos, ↓if_neg, ↓xgd_pos, ↓xgb_pos, ↓xgc_pos, ↓xlet_eq, xc1_some, xc2_some, w32_id, xup_same, xup_row, xup_ne_j, xsw_l, xsw_r]
            · rw [if_neg y]; simp (disch := omega) only [hLay_row, ↓if_pos, ↓if_neg, ↓xgd_pos, ↓xgb_pos, ↓xgc_pos, ↓xlet_eq, xc1_some, xc2_some, w32_id, xup_same, xup_row, xup_ne_j, xsw_l, xsw_r]; rw [o2.1 94 (by decide) (by decide)]
          have b93 : ∀ j, j < 3 * h 14 2 → Y 93 j = h 93 j := fun j y => by
            rw [← hL, hLay_row (by decide), hLay_out (by omega), xup_row (by decide), xup_row (by decide), o2.1 93 (by decide) (by decide)]
          have b93' : ∀ k, 0 ≤ k → k < 3 → Y 93 (3 * h 14 2 + k) = h2 84 k := fun k y y2 => by
            rw [← hL, hLay_row (by decide), hLay_in (by omega) (by omega), show 3 * h 14 2 + k - 3 * h 14 2 = k by omega]
          have b95 : ∀ j, j < 3 * h 14 2 → Y 95 j = h 95 j := fun j y => by
            rw [← hL, hLay_out (by omega), hLay_row (by decide), xup_row (by decide), xup_row (by decide), o2.1 95 (by decide) (by decide)]
          have b95' : ∀ k, 0 ≤ k → k < 3 → Y 95 (3 * h 14 2 + k) = h2 84 (12 + k) := fun k y y2 => by
            rw [← hL, hLay_in (by omega) (by omega), show 3 * h 14 2 + k - 3 * h 14 2 = k by omega]
          have y96 : Y 96 = h 96 := by rw [oY.1 96 (by decide) (by decide), o2.1 96 (by decide) (by decide)]
          have x14 : h4 14 = h3 14 := l2 14 (by decide) (by decide) (by decide)
          have x15 : h4 15 = h3 15 := l2 15 (by decide) (by decide) (by decide)
          have x16 : h4 16 = h3 16 := l2 16 (by decide) (by decide) (by decide)
          have x18 : h3 18 = h1 18 := k2 18 (by decide) (by decide) (by decide)
          have x19 : h3 19 = h1 19 := k2 19 (by decide) (by decide) (by decide)
          have x20 : h4 20 = h 20 := by rw [l2 20 (by decide) (by decide) (by decide), k2 20 (by decide) (by decide) (by decide), r1 20 (by decide) (by decide) (by decide) (by decide) (by decide) (by decide)]
          have d15 : h1 15 = h 15 := r1 15 (by decide) (by decide) (by decide) (by decide) (by decide) (by decide)
          have d16 : h1 16 = h 16 := r1 16 (by decide) (by decide) (by decide) (by decide) (by decide) (by decide)
          have d18 : h1 18 = h 18 := r1 18 (by decide) (by decide) (by decide) (by decide) (by decide) (by decide)
          have d19 : h1 19 = h 19 := r1 19 (by decide) (by decide) (by decide) (by decide) (by decide) (by decide)
          have hP : So (mx (xup h4 20 (h 14 2) v) (xup (xup Y 96 (h 14 2) v) 81 16 (h 14 2 + 1))) := by
            have w14 : mx (xup h4 20 (h 14 2) v) (xup (xup Y 96 (h 14 2) v) 81 16 (h 14 2 + 1)) 14 = h4 14 := by rw [mx_lo (by decide), xup_row (by decide)]
            have w15 : mx (xup h4 20 (h 14 2) v) (xup (xup Y 96 (h 14 2) v) 81 16 (h 14 2 + 1)) 15 = h4 15 := by rw [mx_lo (by decide), xup_row (by decide)]
            have w16 : mx (xup h4 20 (h 14 2) v) (xup (xup Y 96 (h 14 2) v) 81 16 (h 14 2 + 1)) 16 = h4 16 := by rw [mx_lo (by decide), xup_row (by decide)]
            have w17 : mx (xup h4 20 (h 14 2) v) (xup (xup Y 96 (h 14 2) v) 81 16 (h 14 2 + 1)) 17 = h4 17 := by rw [mx_lo (by decide), xup_row (by decide)]
            have w18 : mx (xup h4 20 (h 14 2) v) (xup (xup Y 96 (h 14 2) v) 81 16 (h 14 2 + 1)) 18 = h4 18 := by rw [mx_lo (by decide), xup_row (by decide)]
            have w19 : mx (xup h4 20 (h 14 2) v) (xup (xup Y 96 (h 14 2) v) 81 16 (h 14 2 + 1)) 19 = h4 19 := by rw [mx_lo (by decide), xup_row (by decide)]
            refine ⟨RO_congr (h := h3) (w14.trans x14) (w15.trans x15) (w16.trans x16) k4, RO_congr (h := h4) w17 w18 w19 l4, ?_⟩
            rw [w14, w15, w16, w17, w18, w19, mx_lo (o := 20) (by decide), mx_hi (o := 81) (by decide), mx_hi (o := 92) (by decide), mx_hi (o := 93) (by decide), mx_hi (o := 94) (by decide), mx_hi (o := 95) (by decide), mx_hi (o := 96) (by decide), xup_same, xup_row (o' := 92) (by decide), xup_row (o' := 93) (by decide), xup_row (o' := 94) (by decide), xup_row (o' := 95) (by decide), xup_row (o' := 96) (by decide), xup_row (o' := 92) (by decide), xup_row (o' := 93) (by decide), xup_row (o' := 94) (by decide), xup_row (o' := 95) (by decide), x14, x15, x16, k3, l3]
            refine ⟨rfl, rfl, fun p p1 p2 => ?_⟩
            by_cases y : p < h 14 2
            · obtain ⟨c1, c2⟩ := k5 p p1 y
              obtain ⟨c3, c4⟩ := l5 p p1 y
              obtain ⟨d1, d2, d3, d4, d5, d6, d7, d8, d9⟩ := P5 p p1 y
              rw [c1, c3, b92, if_neg (by omega), b94, if_neg (by omega), d16, x19, d19, xup_ne_j (by omega), xup_ne_j (by omega), x20, y96]
              refine ⟨d1, d2, d3, d4, d5, d6, d7, fun k y1 y2 => ?_, fun k y1 y2 => ?_⟩
              · rw [b93 _ (by omega), c2 k y1 (by omega), d15]; exact d8 k y1 y2
              · rw [b95 _ (by omega), c4 k y1 (by omega), x18, d18]; exact d9 k y1 y2
            · have : p = h 14 2 := by omega
              subst this
              rw [k6, l6, b92, if_pos rfl, b94, if_pos rfl, a21, k2 23 (by decide) (by decide) (by decide), a23, xup_same, xup_same]
              refine ⟨n2, m2, rfl, rfl, rfl, by omega, by omega, fun k y1 y2 => ?_, fun k y1 y2 => ?_⟩
              · rw [b93' k y1 (by omega), k7 k y1 (by omega), g4 k y1 y2]; exact (a22 k y1 y2).symm
              · rw [b95' k y1 (by omega), l7 k y1 (by omega), g6 k y1 y2, k2 24 (by decide) (by decide) (by decide)]; exact (a24 k y1 y2).symm
          exact inv_mk (off_mx (off_tr o1 oc) o4) hI
      · have n40 : h 14 2 = 20 := by have := P1.2.2.2.2.1; omega
        refine ⟨-4, h1, h2, ?_, off_hi o1 (by decide) rfl, ?_, ?_⟩
        · unfold f_WM_sound f_Slips_addSound
          have f40 := s_isFull R40
          rw [e40, if_neg q] at f40
          simp (disch := omega) only [e1, e40, f40, ↓if_pos, ↓if_neg, ↓xgd_pos, ↓xgb_pos, ↓xgc_pos, ↓xlet_eq, xc1_some, xc2_some, w32_id, xup_same, xup_row, xup_ne_j, xsw_l, xsw_r]
        · unfold f_Md_sound
          simp (disch := omega) only [g1, in_1, e61, ↓if_pos, ↓if_neg, ↓xgd_pos, ↓xgb_pos, ↓xgc_pos, ↓xlet_eq, xc1_some, xc2_some, w32_id, xup_same, xup_row, xup_ne_j, xsw_l, xsw_r]
        · have hT := Tp_empty (h := mx h1 h2) (by rw [mx_lo (by decide)]; exact z1) (by rw [mx_hi (by decide)]; exact g2.2.2)
          exact inv_mk (off_mx o1 o2) hI
  · obtain ⟨h2, g1, g2⟩ := hx h rfl rfl
    have o2 := mfr_off g2
    refine ⟨-2, h1, h2, ?_, off_hi o1 (by decide) rfl, ?_, ?_⟩
    · unfold f_WM_sound
      rw [e1, xc2_some, if_pos rfl]
    · unfold f_Md_sound
      rw [g1, xc2_some, if_pos rfl]
    · have hT := Tp_empty (h := mx h1 h2) (by rw [mx_lo (by decide)]; exact z1) (by rw [mx_hi (by decide)]; exact g2.2.2)
      exact inv_mk (off_mx o1 o2) hI
theorem op_part (i w : Int) : Op1 (f_WM_part i w) (f_Md_part i w) := by
  intro h hI
  have hM := hI.2.2.2.2.2.2.2.2.2.1
  unfold f_WM_part f_WM_part_9 f_Md_part
  by_cases q1 : w < 0 ∨ 4 < w
  · refine ⟨-2, ?_, by simp (disch := omega) only [in_0, ↓if_pos, ↓if_neg, ↓xgd_pos, ↓xgb_pos, ↓xgc_pos, ↓xlet_eq, xc1_some, xc2_some, w32_id, xup_same, xup_row, xup_ne_j, xsw_l, xsw_r]⟩
    by_cases z : w < 0
    · simp (disch := omega) only [↓if_pos, ↓if_neg, ↓xgd_pos, ↓xgb_pos, ↓xgc_pos, ↓xlet_eq, xc1_some, xc2_some, w32_id, xup_same, xup_row, xup_ne_j, xsw_l, xsw_r]
    · simp (disch := omega) only [↓if_pos, ↓if_neg, ↓xgd_pos, ↓xgb_pos, ↓xgc_pos, ↓xlet_eq, xc1_some, xc2_some, w32_id, xup_same, xup_row, xup_ne_j, xsw_l, xsw_r]
  · simp (disch := omega) only [in_1, ↓if_pos, ↓if_neg, ↓xgd_pos, ↓xgb_pos, ↓xgc_pos, ↓xlet_eq, xc1_some, xc2_some, w32_id, xup_same, xup_row, xup_ne_j, xsw_l, xsw_r]
    have hnone : ∀ r, r = -1 → f_Mend_tell_52 w r h = some (-1) := fun r hr => by
      unfold f_Mend_tell_52 f_Mend_tell_75 f_Mend_tell_76 f_Mend_cellOf
      subst hr
      simp (disch := omega) only [↓if_pos, ↓if_neg, ↓xgd_pos, ↓xgb_pos, ↓xgc_pos, ↓xlet_eq, xc1_some, xc2_some, w32_id, xup_same, xup_row, xup_ne_j, xsw_l, xsw_r]
    unfold f_Mend_tell f_Mend_tell_51
    rcases hM with ⟨a1, a2, a3⟩ | ⟨a1, a2, a3, a4, a5, a6⟩
    · rw [if_pos a1]
      by_cases q2 : i = -1
      · by_cases q3 : w = 1
        · exact ⟨0, by simp (disch := omega) only [a3, ↓if_pos, ↓if_neg, ↓xgd_pos, ↓xgb_pos, ↓xgc_pos, ↓xlet_eq, xc1_some, xc2_some, w32_id, xup_same, xup_row, xup_ne_j, xsw_l, xsw_r], by simp (disch := omega) only [↓if_pos, ↓if_neg, ↓xgd_pos, ↓xgb_pos, ↓xgc_pos, ↓xlet_eq, xc1_some, xc2_some, w32_id, xup_same, xup_row, xup_ne_j, xsw_l, xsw_r]⟩
        · exact ⟨-1, by simp (disch := omega) only [↓if_pos, ↓if_neg, ↓xgd_pos, ↓xgb_pos, ↓xgc_pos, ↓xlet_eq, xc1_some, xc2_some, w32_id, xup_same, xup_row, xup_ne_j, xsw_l, xsw_r], by simp (disch := omega) only [↓if_pos, ↓if_neg, ↓xgd_pos, ↓xgb_pos, ↓xgc_pos, ↓xlet_eq, xc1_some, xc2_some, w32_id, xup_same, xup_row, xup_ne_j, xsw_l, xsw_r]⟩
      · refine ⟨-1, ?_, by simp (disch := omega) only [↓if_pos, ↓if_neg, ↓xgd_pos, ↓xgb_pos, ↓xgc_pos, ↓xlet_eq, xc1_some, xc2_some, w32_id, xup_same, xup_row, xup_ne_j, xsw_l, xsw_r]⟩
        by_cases q3 : i < 0
        · simp (disch := omega) only [hnone (-1) rfl, ↓if_pos, ↓if_neg, ↓xgd_pos, ↓xgb_pos, ↓xgc_pos, ↓xlet_eq, xc1_some, xc2_some, w32_id, xup_same, xup_row, xup_ne_j, xsw_l, xsw_r]
        · simp (disch := omega) only [hnone (-1) rfl, ↓if_pos, ↓if_neg, ↓xgd_pos, ↓xgb_pos, ↓xgc_pos, ↓xlet_eq, xc1_some, xc2_some, w32_id, xup_same, xup_row, xup_ne_j, xsw_l, xsw_r]
    · rw [if_neg (show ¬ h 81 69 = -1 by omega)]
      by_cases q2 : i = -1
      · by_cases q3 : w = 1
        · exact ⟨h 74 0, by simp (disch := omega) only [↓if_pos, ↓if_neg, ↓xgd_pos, ↓xgb_pos, ↓xgc_pos, ↓xlet_eq, xc1_some, xc2_some, w32_id, xup_same, xup_row, xup_ne_j, xsw_l, xsw_r], by simp (disch := omega) only [a2, ↓if_pos, ↓if_neg, ↓xgd_pos, ↓xgb_pos, ↓xgc_pos, ↓xlet_eq, xc1_some, xc2_some, w32_id, xup_same, xup_row, xup_ne_j, xsw_l, xsw_r]⟩
        · exact ⟨-1, by simp (disch := omega) only [↓if_pos, ↓if_neg, ↓xgd_pos, ↓xgb_pos, ↓xgc_pos, ↓xlet_eq, xc1_some, xc2_some, w32_id, xup_same, xup_row, xup_ne_j, xsw_l, xsw_r], by simp (disch := omega) only [↓if_pos, ↓if_neg, ↓xgd_pos, ↓xgb_pos, ↓xgc_pos, ↓xlet_eq, xc1_some, xc2_some, w32_id, xup_same, xup_row, xup_ne_j, xsw_l, xsw_r]⟩
      · by_cases q3 : 0 ≤ i ∧ i < h 70 7
        · obtain ⟨b1, b2, b3, b4, b5, b6, b7, b8, b9⟩ := a6 i q3.1 q3.2
          simp only [a1]
          have ht : f_Mend_tell_52 w (h 76 i) h = f_Mend_tell_76 w (h 76 i) (h 75 (h 76 i)) h := by
            unfold f_Mend_tell_52
            simp (disch := omega) only [↓if_pos, ↓if_neg, ↓xgd_pos, ↓xgb_pos, ↓xgc_pos, ↓xlet_eq, xc1_some, xc2_some, w32_id, xup_same, xup_row, xup_ne_j, xsw_l, xsw_r]
          have hc : f_Mend_cellOf (h 75 (h 76 i)) (h 76 i) h = some (h 75 (h 76 i) * 12 + h 76 i) := by
            unfold f_Mend_cellOf
            simp (disch := omega) only [↓if_pos, ↓if_neg, ↓xgd_pos, ↓xgb_pos, ↓xgc_pos, ↓xlet_eq, xc1_some, xc2_some, w32_id, xup_same, xup_row, xup_ne_j, xsw_l, xsw_r]
          unfold f_Mend_tell_76 at ht
          by_cases w0 : w = 0
          · exact ⟨h 75 (h 76 i), by simp (disch := omega) only [ht, hc, ↓if_pos, ↓if_neg, ↓xgd_pos, ↓xgb_pos, ↓xgc_pos, ↓xlet_eq, xc1_some, xc2_some, w32_id, xup_same, xup_row, xup_ne_j, xsw_l, xsw_r], by simp (disch := omega) only [in_1, b5, ↓if_pos, ↓if_neg, ↓xgd_pos, ↓xgb_pos, ↓xgc_pos, ↓xlet_eq, xc1_some, xc2_some, w32_id, xup_same, xup_row, xup_ne_j, xsw_l, xsw_r]⟩
          · by_cases w1 : w = 1
            · exact ⟨h 71 (h 75 (h 76 i) * 12 + h 76 i), by simp (disch := omega) only [ht, hc, ↓if_pos, ↓if_neg, ↓xgd_pos, ↓xgb_pos, ↓xgc_pos, ↓xlet_eq, xc1_some, xc2_some, w32_id, xup_same, xup_row, xup_ne_j, xsw_l, xsw_r], by simp (disch := omega) only [in_1, b6, ↓if_pos, ↓if_neg, ↓xgd_pos, ↓xgb_pos, ↓xgc_pos, ↓xlet_eq, xc1_some, xc2_some, w32_id, xup_same, xup_row, xup_ne_j, xsw_l, xsw_r]⟩
            · by_cases w2 : w = 2
              · exact ⟨h 72 (h 75 (h 76 i) * 12 + h 76 i), by simp (disch := omega) only [ht, hc, ↓if_pos, ↓if_neg, ↓xgd_pos, ↓xgb_pos, ↓xgc_pos, ↓xlet_eq, xc1_some, xc2_some, w32_id, xup_same, xup_row, xup_ne_j, xsw_l, xsw_r], by simp (disch := omega) only [in_1, b7, ↓if_pos, ↓if_neg, ↓xgd_pos, ↓xgb_pos, ↓xgc_pos, ↓xlet_eq, xc1_some, xc2_some, w32_id, xup_same, xup_row, xup_ne_j, xsw_l, xsw_r]⟩
              · by_cases w3 : w = 3
                · exact ⟨h 73 (h 75 (h 76 i) * 12 + h 76 i), by simp (disch := omega) only [ht, hc, ↓if_pos, ↓if_neg, ↓xgd_pos, ↓xgb_pos, ↓xgc_pos, ↓xlet_eq, xc1_some, xc2_some, w32_id, xup_same, xup_row, xup_ne_j, xsw_l, xsw_r], by simp (disch := omega) only [in_1, b8, ↓if_pos, ↓if_neg, ↓xgd_pos, ↓xgb_pos, ↓xgc_pos, ↓xlet_eq, xc1_some, xc2_some, w32_id, xup_same, xup_row, xup_ne_j, xsw_l, xsw_r]⟩
                · refine ⟨h 138 i, ?_, by simp (disch := omega) only [in_1, ↓if_pos, ↓if_neg, ↓xgd_pos, ↓xgb_pos, ↓xgc_pos, ↓xlet_eq, xc1_some, xc2_some, w32_id, xup_same, xup_row, xup_ne_j, xsw_l, xsw_r]⟩
                  rw [b9]
                  by_cases y : h 75 (h 76 i) = 2
                  · simp (disch := omega) only [ht, hc, f_Mend_taken, ↓if_pos, ↓if_neg, ↓xgd_pos, ↓xgb_pos, ↓xgc_pos, ↓xlet_eq, xc1_some, xc2_some, w32_id, xup_same, xup_row, xup_ne_j, xsw_l, xsw_r]
                  · simp (disch := omega) only [ht, hc, f_Mend_taken, ↓if_pos, ↓if_neg, ↓xgd_pos, ↓xgb_pos, ↓xgc_pos, ↓xlet_eq, xc1_some, xc2_some, w32_id, xup_same, xup_row, xup_ne_j, xsw_l, xsw_r]
        · simp only [a1]
          refine ⟨-1, ?_, by simp (disch := omega) only [in_0, ↓if_pos, ↓if_neg, ↓xgd_pos, ↓xgb_pos, ↓xgc_pos, ↓xlet_eq, xc1_some, xc2_some, w32_id, xup_same, xup_row, xup_ne_j, xsw_l, xsw_r]⟩
          by_cases q4 : i < 0
          · simp (disch := omega) only [hnone (-1) rfl, ↓if_pos, ↓if_neg, ↓xgd_pos, ↓xgb_pos, ↓xgc_pos, ↓xlet_eq, xc1_some, xc2_some, w32_id, xup_same, xup_row, xup_ne_j, xsw_l, xsw_r]
          · simp (disch := omega) only [hnone (-1) rfl, ↓if_pos, ↓if_neg, ↓xgd_pos, ↓xgb_pos, ↓xgc_pos, ↓xlet_eq, xc1_some, xc2_some, w32_id, xup_same, xup_row, xup_ne_j, xsw_l, xsw_r]
