/-! ADD AND DROP, the calls -/
theorem s_isFull5 {h : xH} : f_Rows_isFull 5 h = some (if h 5 2 < 200 then 0 else 1) := by
  unfold f_Rows_isFull
  rw [xN7]
  split <;> rfl
/-- a new word on the class's side -/
theorem s_grow_new {c p : Int} {h : xH} (hW : Wd0 h) (hT : TO 23 h) (hp : plc h (tp h 23) p) (hn : h 5 2 < 200) : ∃ h', f_Lex_grow_45 23 c h = some (c, h') ∧ off [5, 6, 7, 8] [] h h' ∧ h' 5 2 = h 5 2 + 1 ∧ (∀ j, 0 ≤ j → j < p → h' 7 j = h 7 j ∧ h' 8 j = h 8 j ∧ ∀ i, 0 ≤ i → i < 12 → h' 6 (j * 12 + i) = h 6 (j * 12 + i)) ∧ (h' 7 p = h 23 1 ∧ h' 8 p = c ∧ ∀ i, 0 ≤ i → i < 12 → h' 6 (p * 12 + i) = h 24 i) ∧ ∀ j, p < j → j ≤ h 5 2 → h' 7 j = h 7 (j - 1) ∧ h' 8 j = h 8 (j - 1) ∧ ∀ i, 0 ≤ i → i < 12 → h' 6 (j * 12 + i) = h 6 ((j - 1) * 12 + i) := by
  have hN := Wd_n hW
  have p1 := hp.1
  have p2 := hp.2.1
  have hpl := s_Lex_place hW hT hp
  have e5 : ∀ v, xup (xcp h 8 p 8 (p + 1) (h 5 2 - p)) 8 p v 5 = h 5 := fun v => by simp (disch := omega) only [xcp_row, ↓if_pos, ↓if_neg, ↓xgd_pos, ↓xgb_pos, ↓xgc_pos, ↓xlet_eq, xc1_some, xc2_some, w32_id, xup_same, xup_row, xup_ne_j, xsw_l, xsw_r]
  have e6 : ∀ v, xup (xcp h 8 p 8 (p + 1) (h 5 2 - p)) 8 p v 6 = h 6 := fun v => by simp (disch := omega) only [xcp_row, ↓if_pos, ↓if_neg, ↓xgd_pos, ↓xgb_pos, ↓xgc_pos, ↓xlet_eq, xc1_some, xc2_some, w32_id, xup_same, xup_row, xup_ne_j, xsw_l, xsw_r]
  have e7 : ∀ v, xup (xcp h 8 p 8 (p + 1) (h 5 2 - p)) 8 p v 7 = h 7 := fun v => by simp (disch := omega) only [xcp_row, ↓if_pos, ↓if_neg, ↓xgd_pos, ↓xgb_pos, ↓xgc_pos, ↓xlet_eq, xc1_some, xc2_some, w32_id, xup_same, xup_row, xup_ne_j, xsw_l, xsw_r]
  obtain ⟨h', g1, g2, g3, g4, g5, g6, g7, g8, g9, g10⟩ := s_Rows_insert (o := 5) (N := 200) (r := p) (t := 23) (h := xup (xcp h 8 p 8 (p + 1) (h 5 2 - p)) 8 p c) (RO_congr (e5 c) (e6 c) (e7 c) hW.1) p1 (by rw [e5]; exact p2) (by rw [e5]; exact hn) (by unfold apart; decide)
  simp only [Int.reduceAdd, e5, e6, e7] at g2 g3 g4 g5 g6 g7 g8 g9 g10
  have e23 : xup (xcp h 8 p 8 (p + 1) (h 5 2 - p)) 8 p c 23 = h 23 := by simp (disch := omega) only [xcp_row, ↓if_pos, ↓if_neg, ↓xgd_pos, ↓xgb_pos, ↓xgc_pos, ↓xlet_eq, xc1_some, xc2_some, w32_id, xup_same, xup_row, xup_ne_j, xsw_l, xsw_r]
  have e24 : xup (xcp h 8 p 8 (p + 1) (h 5 2 - p)) 8 p c 24 = h 24 := by simp (disch := omega) only [xcp_row, ↓if_pos, ↓if_neg, ↓xgd_pos, ↓xgb_pos, ↓xgc_pos, ↓xlet_eq, xc1_some, xc2_some, w32_id, xup_same, xup_row, xup_ne_j, xsw_l, xsw_r]
  have g8' : h' 8 = xup (xcp h 8 p 8 (p + 1) (h 5 2 - p)) 8 p c 8 := g2 8 (by decide) (by decide) (by decide)
  refine ⟨h', ?_, ⟨fun o h0 hn => ?_, fun j hn => ?_⟩, g3, fun j a b => ⟨g5 j a b, ?_, fun i a2 b2 => g8 (j * 12 + i) (by omega) (by omega)⟩, ⟨by rw [g6, e23], ?_, fun i a2 b2 => by rw [g9 i a2 b2, e24]⟩, fun j a b => ⟨g7 j a b, ?_, fun i a2 b2 => ?_⟩⟩
  · unfold f_Lex_grow_45
    simp (disch := omega) only [hpl, s_isFull5, g1, ↓if_pos, ↓if_neg, ↓xgd_pos, ↓xgb_pos, ↓xgc_pos, ↓xlet_eq, xc1_some, xc2_some, w32_id, xup_same, xup_row, xup_ne_j, xsw_l, xsw_r]
  · rw [g2 o (fun z => hn (by simp [z])) (fun z => hn (by simp [z])) (fun z => hn (by simp [z])), xup_row (fun z => hn (by simp [z])), xcp_row (fun z => hn (by simp [z]))]
  · rw [g2 81 (by decide) (by decide) (by decide), xup_row (by decide), xcp_row (by decide)]
  · rw [g8', xup_ne_j (by omega), xcp_out (by omega)]
  · rw [g8', xup_same]
  · rw [g8', xup_ne_j (by omega), xcp_in (by omega) (by omega)]
    congr 1
    omega
  · rw [g10 (j * 12 + i) (by omega) (by omega)]
    congr 1
    omega
theorem op_add (c : Int) : Op2 (f_WM_add c) (f_Md_add c) := by
  refine op2_of (fun _ _ => loc_Md_add) (fun h hI => ?_)
  have W := hI.2.1
  have hN := Wd_n W.1
  rcases rd1 hI.1 with ⟨n, f, h1, n1, n2, hfb, e1, o1, z1, hT1, h23, htp, h24, hx⟩ | ⟨h1, e1, o1, z1, hx⟩
  · obtain ⟨h2, g1, g2, g3, g4⟩ := hx h rfl rfl
    have o2 := mfr_off g2
    have W1 : Wd h1 := Wd_off o1 (by decide) W
    have W2 : Wd h2 := Wd_off o2 (by decide) W
    by_cases qc : c < 1 ∨ 100000 < c
    · refine ⟨-2, h1, h2, ?_, off_hi o1 (by decide) rfl, ?_, ?_⟩
      · unfold f_WM_add
        rw [e1, xc2_some, if_neg (by decide)]
        by_cases q2 : c < 1
        · rw [if_pos q2]
        · rw [if_neg q2, if_pos (by omega)]
      · unfold f_Md_add
        rw [g1, xc2_some, if_neg (by decide), in_0 qc, xc1_some, if_pos rfl]
      · have hT := Tp_empty (h := mx h1 h2) (by rw [mx_lo (by decide)]; exact z1) (by rw [mx_hi (by decide)]; exact g2.2.2)
        exact inv_mk (off_mx o1 o2) hI
    · obtain ⟨w, k1, k2⟩ := s_Lex_numberOf W1.1 hT1
      obtain ⟨v, k3, k4⟩ := s_Md_wordOf (n := h2 83 0) (c := 84) (p := 0) W2.1 (by omega) (by rw [xN84]; omega) (fun k a d => by rw [show (0 : Int) + k = k by omega, g4 k a (by omega)]; exact hfb k a (by omega))
      have ep : pad (h2 83 0) (fun k => h2 84 (0 + k)) = pad n f := pad_ext g3 (fun k a d => by rw [show (0 : Int) + k = k by omega]; exact g4 k a d)
      rw [ep] at k4
      rw [htp] at k2
      have k2 := isN_cg (o1.1 5 (by decide) (by decide)) (o1.1 6 (by decide) (by decide)) (o1.1 7 (by decide) (by decide)) k2
      have k4 := isN_cg (o2.1 5 (by decide) (by decide)) (o2.1 6 (by decide) (by decide)) (o2.1 7 (by decide) (by decide)) k4
      have ew := isN_uniq W.1 k4 k2
      subst ew
      have r1 : ∀ o, o ≠ 2 → o ≠ 23 → o ≠ 24 → o ≠ 81 → h1 o = h o := fun o a1 a2 a3 a4 => o1.1 o a4 (by simp [a1, a2, a3])
      have r2 : ∀ o, o ≠ 83 → o ≠ 84 → o ≠ 81 → h2 o = h o := fun o a1 a2 a4 => o2.1 o a4 (by simp [a1, a2])
      have e8 : h1 8 = h 8 := r1 8 (by decide) (by decide) (by decide) (by decide)
      have e87 : h2 87 = h 87 := r2 87 (by decide) (by decide) (by decide)
      rcases k2 with ⟨w1, w2, w3⟩ | ⟨rfl, w3⟩
      · -- known
        obtain ⟨b2, b3, b4⟩ := W.2 v w1 w2
        have o3 : off [8] [] h1 (xup h1 8 v (min (h 8 v + c) 100000)) := off_up (by decide)
        have o4 : off [87] [] h2 (xup h2 87 v (min (h 8 v + c) 100000)) := off_up (by decide)
        refine ⟨min (h 8 v + c) 100000, xup h1 8 v (min (h 8 v + c) 100000), xup h2 87 v (min (h 8 v + c) 100000), ?_, off_hi (off_tr o1 o3) (by decide) rfl, ?_, ?_⟩
        · unfold f_WM_add f_Lex_grow
          simp (disch := omega) only [e1, k1, e8, ↓if_pos, ↓if_neg, ↓xgd_pos, ↓xgb_pos, ↓xgc_pos, ↓xlet_eq, xc1_some, xc2_some, w32_id, xup_same, xup_row, xup_ne_j, xsw_l, xsw_r]
        · unfold f_Md_add
          have em : min 100000 (h 8 v + c) = min (h 8 v + c) 100000 := by omega
          simp (disch := omega) only [g1, in_1, k3, e87, b2, min_s, em, ↓if_pos, ↓if_neg, ↓xgd_pos, ↓xgb_pos, ↓xgc_pos, ↓xlet_eq, xc1_some, xc2_some, w32_id, xup_same, xup_row, xup_ne_j, xsw_l, xsw_r]
        · have ot := off_mx (off_tr o1 o3) (off_tr o2 o4)
          have hT := Tp_empty (h := mx (xup h1 8 v (min (h 8 v + c) 100000)) (xup h2 87 v (min (h 8 v + c) 100000))) (by rw [mx_lo (by decide), xup_row (by decide)]; exact z1) (by rw [mx_hi (by decide), xup_row (by decide)]; exact g2.2.2)
          have hW : Wd (mx (xup h1 8 v (min (h 8 v + c) 100000)) (xup h2 87 v (min (h 8 v + c) 100000))) := by
            refine ⟨Wd0_off ot (by decide) W.1, fun a a1 a2 => ?_⟩
            rw [ot.1 5 (by decide) (by decide)] at a2
            obtain ⟨c1, c2, c3⟩ := W.2 a a1 a2
            rw [mx_lo (o := 8) (by decide), mx_hi (o := 87) (by decide)]
            by_cases z : a = v
            · subst z
              refine ⟨by simp (disch := omega) only [↓if_pos, ↓if_neg, ↓xgd_pos, ↓xgb_pos, ↓xgc_pos, ↓xlet_eq, xc1_some, xc2_some, w32_id, xup_same, xup_row, xup_ne_j, xsw_l, xsw_r], ?_, ?_⟩
              · simp (disch := omega) only [↓if_pos, ↓if_neg, ↓xgd_pos, ↓xgb_pos, ↓xgc_pos, ↓xlet_eq, xc1_some, xc2_some, w32_id, xup_same, xup_row, xup_ne_j, xsw_l, xsw_r]
                omega
              · simp (disch := omega) only [↓if_pos, ↓if_neg, ↓xgd_pos, ↓xgb_pos, ↓xgc_pos, ↓xlet_eq, xc1_some, xc2_some, w32_id, xup_same, xup_row, xup_ne_j, xsw_l, xsw_r]
                omega
            · simp (disch := omega) only [e8, e87, ↓if_pos, ↓if_neg, ↓xgd_pos, ↓xgb_pos, ↓xgc_pos, ↓xlet_eq, xc1_some, xc2_some, w32_id, xup_same, xup_row, xup_ne_j, xsw_l, xsw_r]
              exact ⟨c1, c2, c3⟩
          exact inv_mk ot hI
      · by_cases qf : h 5 2 < 200
        · obtain ⟨p, hp⟩ := plc_ex W.1 (pad n f)
          have hp1 : plc h1 (tp h1 23) p := by rw [htp]; exact plc_cg (o1.1 5 (by decide) (by decide)) (o1.1 6 (by decide) (by decide)) (o1.1 7 (by decide) (by decide)) hp
          have hp2 : plc h2 (pad n f) p := plc_cg (o2.1 5 (by decide) (by decide)) (o2.1 6 (by decide) (by decide)) (o2.1 7 (by decide) (by decide)) hp
          have e51 : h1 5 = h 5 := r1 5 (by decide) (by decide) (by decide) (by decide)
          obtain ⟨h3, m1, m2, m3, m4, m5, m6⟩ := s_grow_new (c := c) W1.1 hT1 hp1 (by rw [e51]; exact qf)
          have p1 := hp.1
          have p2 := hp.2.1
          -- the model's part
          have l1 := s_Md_place (c := c) W2.1 ⟨n1, n2⟩ g3 g4 hfb hp2
          have e5 : h2 81 5 = h 5 2 := by rw [g2.2.1 5 (by decide) (by decide), W.1.2.1]
          obtain ⟨h4, l2, l3, l4, l5⟩ := s_shiftUp (c := c) (p := p) (n := h 5 2) (h := h2) ⟨p1, p2⟩ qf
          have e83 : h4 83 = h2 83 := l3.1 83 (by decide) (by decide)
          have e84 : h4 84 = h2 84 := l3.1 84 (by decide) (by decide)
          have e81 : ∀ j, h4 81 j = h2 81 j := fun j => l3.2 j List.not_mem_nil
          have ly := s_Md_lay (c := c) (p := p) (m := n) (h := xup (xup h4 81 5 (h 5 2 + 1)) 85 p n) ⟨p1, by omega⟩ ⟨n1, n2⟩ (by rw [xup_row (by decide), xup_row (by decide), e83, g3])
          have eM : f_Md_add c h = some (c, xup (hLay 86 (12 * p) n (fun k => xup (xup h4 81 5 (h 5 2 + 1)) 85 p n 84 k) (xup (xup h4 81 5 (h 5 2 + 1)) 85 p n)) 87 p c) := by
            unfold f_Md_add f_Md_add_85 f_Md_add_120 f_Md_add_126
            have s1 : ∀ x, xup (xup h4 81 5 x) 85 p n 83 = h2 83 := fun x => by rw [xup_row (by decide), xup_row (by decide), e83]
            rw [g1, xc2_some, if_neg (by decide), in_1 (by omega) (by omega), xc1_some, if_neg (by decide), xgd_pos (by decide) (by decide), k3, xc1_some, if_pos rfl, e5, if_neg (by omega), l1, xc1_some, xlet_eq, l2, xc1_some]
            unfold f_Md_add_149
            rw [e81 5, e5, w32_id (by omega) (by omega), xlet_eq, xgd_pos (by decide) (by decide), xgd_pos p1 (by omega), xlet_eq, xup_row (by decide), e83, g3]
            unfold f_Md_add_175
            rw [ly, xc1_some]
            unfold f_Md_add_212
            rw [xgd_pos p1 (by omega), xlet_eq]
          refine ⟨c, h3, _, ?_, off_hi (off_tr o1 m2) (by decide) rfl, eM, ?_⟩
          · have k1' : f_Lex_grow 23 c h1 = some (c, h3) := by
              unfold f_Lex_grow
              rw [k1, xc1_some, if_pos (by decide), m1]
            unfold f_WM_add
            rw [e1, xc2_some, if_neg (by decide), if_neg (by omega), if_neg (by omega), k1', xc2_some]
          · have o4 : off [83, 84, 85, 86, 87] [1, 2, 5] h (xup (hLay 86 (12 * p) n (fun k => xup (xup h4 81 5 (h 5 2 + 1)) 85 p n 84 k) (xup (xup h4 81 5 (h 5 2 + 1)) 85 p n)) 87 p c) :=
              off_w (off_tr (off_tr o2 l3) (off_tr (off_tr (off_tr off_um (off_up (by decide))) (off_lay (by decide))) (off_up (by decide)))) (by decide) (by decide)
            generalize hX : xup (hLay 86 (12 * p) n (fun k => xup (xup h4 81 5 (h 5 2 + 1)) 85 p n 84 k) (xup (xup h4 81 5 (h 5 2 + 1)) 85 p n)) 87 p c = X at *
            have x81 : X 81 5 = h 5 2 + 1 := by rw [← hX]; simp (disch := omega) only [hLay_row, ↓if_pos, ↓if_neg, ↓xgd_pos, ↓xgb_pos, ↓xgc_pos, ↓xlet_eq, xc1_some, xc2_some, w32_id, xup_same, xup_row, xup_ne_j, xsw_l, xsw_r]
            have x1 : X 81 1 = 0 := by
              rw [← hX]
              simp (disch := omega) only [hLay_row, ↓if_pos, ↓if_neg, ↓xgd_pos, ↓xgb_pos, ↓xgc_pos, ↓xlet_eq, xc1_some, xc2_some, w32_id, xup_same, xup_row, xup_ne_j, xsw_l, xsw_r]
              rw [e81]
              exact g2.2.2
            have x85 : ∀ j, X 85 j = if j = p then n else h4 85 j := fun j => by
              rw [← hX]
              by_cases z : j = p
              · subst z; rw [if_pos rfl]; simp (disch := omega) only [hLay_row, ↓if_pos, ↓if_neg, ↓xgd_pos, ↓xgb_pos, ↓xgc_pos, ↓xlet_eq, xc1_some, xc2_some, w32_id, xup_same, xup_row, xup_ne_j, xsw_l, xsw_r]
              · rw [if_neg z]; simp (disch := omega) only [hLay_row, ↓if_pos, ↓if_neg, ↓xgd_pos, ↓xgb_pos, ↓xgc_pos, ↓xlet_eq, xc1_some, xc2_some, w32_id, xup_same, xup_row, xup_ne_j, xsw_l, xsw_r]
            have x87 : ∀ j, X 87 j = if j = p then c else h4 87 j := fun j => by
              rw [← hX]
              by_cases z : j = p
              · subst z; rw [if_pos rfl]; simp (disch := omega) only [hLay_row, ↓if_pos, ↓if_neg, ↓xgd_pos, ↓xgb_pos, ↓xgc_pos, ↓xlet_eq, xc1_some, xc2_some, w32_id, xup_same, xup_row, xup_ne_j, xsw_l, xsw_r]
              · rw [if_neg z]; simp (disch := omega) only [hLay_row, ↓if_pos, ↓if_neg, ↓xgd_pos, ↓xgb_pos, ↓xgc_pos, ↓xlet_eq, xc1_some, xc2_some, w32_id, xup_same, xup_row, xup_ne_j, xsw_l, xsw_r]
            have x86 : ∀ j, (j < 12 * p ∨ 12 * p + n ≤ j) → X 86 j = h4 86 j := fun j z => by
              rw [← hX, xup_row (by decide), hLay_out z]
              simp (disch := omega) only [↓if_pos, ↓if_neg, ↓xgd_pos, ↓xgb_pos, ↓xgc_pos, ↓xlet_eq, xc1_some, xc2_some, w32_id, xup_same, xup_row, xup_ne_j, xsw_l, xsw_r]
            have x86p : ∀ k, 0 ≤ k → k < n → X 86 (12 * p + k) = f k := fun k a b => by
              rw [← hX, xup_row (by decide), hLay_in (by omega) (by omega), show 12 * p + k - 12 * p = k by omega, xup_row (by decide), xup_row (by decide), e84]
              exact g4 k a b
            have e7 : h1 7 = h 7 := r1 7 (by decide) (by decide) (by decide) (by decide)
            have e6 : h1 6 = h 6 := r1 6 (by decide) (by decide) (by decide) (by decide)
            have f85 : h2 85 = h 85 := r2 85 (by decide) (by decide) (by decide)
            have f86 : h2 86 = h 86 := r2 86 (by decide) (by decide) (by decide)
            rw [e51] at m3 m6
            have hT := Tp_empty (h := mx h3 X) (by rw [mx_lo (by decide), m2.1 2 (by decide) (by decide)]; exact z1) (by rw [mx_hi (by decide)]; exact x1)
            have q7 : mx h3 X 7 = h3 7 := mx_lo (by decide)
            have q8 : mx h3 X 8 = h3 8 := mx_lo (by decide)
            have q6 : mx h3 X 6 = h3 6 := mx_lo (by decide)
            have q5 : mx h3 X 5 = h3 5 := mx_lo (by decide)
            have q81 : mx h3 X 81 = X 81 := mx_hi (by decide)
            have q85 : mx h3 X 85 = X 85 := mx_hi (by decide)
            have q86 : mx h3 X 86 = X 86 := mx_hi (by decide)
            have q87 : mx h3 X 87 = X 87 := mx_hi (by decide)
            have hW : Wd (mx h3 X) := by
              refine Wd_ins (p := p) (m := n) (f := f) W hp w3 qf (by rw [q5]; exact m3) (by rw [q81]; exact x81) (fun a a1 a2 => ?_) (fun a a1 a2 => ?_) ?_ ?_
              · obtain ⟨y1, y2, y3⟩ := m4 a a1 a2
                obtain ⟨y4, y5, y6⟩ := l4 a a1 a2
                unfold wS
                rw [q7, q8, q6, q85, q87, q86]
                refine ⟨by rw [y1, e7], by rw [y2, e8], fun i i1 i2 => by rw [y3 i i1 i2, e6], by rw [x85, if_neg (by omega), y4, f85], by rw [x87, if_neg (by omega), y5, e87], fun i i1 i2 => by rw [x86 _ (by omega), y6 i i1 i2, f86]⟩
              · obtain ⟨y1, y2, y3⟩ := m6 a a1 a2
                obtain ⟨y4, y5, y6⟩ := l5 a a1 a2
                unfold wS
                rw [q7, q8, q6, q85, q87, q86]
                refine ⟨by rw [y1, e7], by rw [y2, e8], fun i i1 i2 => by rw [y3 i i1 i2, e6], by rw [x85, if_neg (by omega), y4, f85], by rw [x87, if_neg (by omega), y5, e87], fun i i1 i2 => by rw [x86 _ (by omega), y6 i i1 i2, f86]⟩
              · obtain ⟨y1, y2, y3⟩ := m5
                unfold wOK
                rw [q7, q8, q6, q85, q87, q86, y1, y2, h23, x85, if_pos rfl, x87, if_pos rfl]
                exact ⟨n1, n2, fun k a b => by rw [y3 k a (by omega), h24 k a b]; exact hfb k a b, rfl, rfl, by omega, by omega, fun k a b => by rw [x86p k a b, y3 k a (by omega), h24 k a b]⟩
              · obtain ⟨y1, y2, y3⟩ := m5
                refine pad_ext ?_ (fun k a b => ?_)
                · show mx h3 X 7 p = n
                  rw [q7, y1, h23]
                · show mx h3 X 6 (p * 12 + k) = f k
                  rw [q6, y3 k a (by omega), h24 k a b]
            exact inv_mk (off_mx (off_tr o1 m2) o4) hI
        · have e51 : h1 5 = h 5 := r1 5 (by decide) (by decide) (by decide) (by decide)
          have e5 : h2 81 5 = h 5 2 := by rw [g2.2.1 5 (by decide) (by decide), W.1.2.1]
          obtain ⟨p, hp⟩ := plc_ex W1.1 (tp h1 23)
          have hpl := s_Lex_place W1.1 hT1 hp
          refine ⟨-4, h1, h2, ?_, off_hi o1 (by decide) rfl, ?_, ?_⟩
          · unfold f_WM_add f_Lex_grow f_Lex_grow_45
            simp (disch := omega) only [e1, k1, hpl, s_isFull5, e51, ↓if_pos, ↓if_neg, ↓xgd_pos, ↓xgb_pos, ↓xgc_pos, ↓xlet_eq, xc1_some, xc2_some, w32_id, xup_same, xup_row, xup_ne_j, xsw_l, xsw_r]
          · unfold f_Md_add
            simp (disch := omega) only [g1, in_1, k3, e5, ↓if_pos, ↓if_neg, ↓xgd_pos, ↓xgb_pos, ↓xgc_pos, ↓xlet_eq, xc1_some, xc2_some, w32_id, xup_same, xup_row, xup_ne_j, xsw_l, xsw_r]
          · have hT := Tp_empty (h := mx h1 h2) (by rw [mx_lo (by decide)]; exact z1) (by rw [mx_hi (by decide)]; exact g2.2.2)
            exact inv_mk (off_mx o1 o2) hI
  · obtain ⟨h2, g1, g2⟩ := hx h rfl rfl
    have o2 := mfr_off g2
    refine ⟨-2, h1, h2, ?_, off_hi o1 (by decide) rfl, ?_, ?_⟩
    · unfold f_WM_add
      rw [e1, xc2_some, if_pos rfl]
    · unfold f_Md_add
      rw [g1, xc2_some, if_pos rfl]
    · have hT := Tp_empty (h := mx h1 h2) (by rw [mx_lo (by decide)]; exact z1) (by rw [mx_hi (by decide)]; exact g2.2.2)
      exact inv_mk (off_mx o1 o2) hI
theorem op_drop : Op2 f_WM_drop f_Md_drop := by
  refine op2_of (fun _ _ => loc_Md_drop) (fun h hI => ?_)
  have W := hI.2.1
  have hN := Wd_n W.1
  rcases rd1 hI.1 with ⟨n, f, h1, n1, n2, hfb, e1, o1, z1, hT1, h23, htp, h24, hx⟩ | ⟨h1, e1, o1, z1, hx⟩
  · obtain ⟨h2, g1, g2, g3, g4⟩ := hx h rfl rfl
    have o2 := mfr_off g2
    have W1 : Wd h1 := Wd_off o1 (by decide) W
    have W2 : Wd h2 := Wd_off o2 (by decide) W
    obtain ⟨w, k1, k2⟩ := s_Lex_numberOf W1.1 hT1
    obtain ⟨v, k3, k4⟩ := s_Md_wordOf (n := h2 83 0) (c := 84) (p := 0) W2.1 (by omega) (by rw [xN84]; omega) (fun k a d => by rw [show (0 : Int) + k = k by omega, g4 k a (by omega)]; exact hfb k a (by omega))
    have ep : pad (h2 83 0) (fun k => h2 84 (0 + k)) = pad n f := pad_ext g3 (fun k a d => by rw [show (0 : Int) + k = k by omega]; exact g4 k a d)
    rw [ep] at k4
    rw [htp] at k2
    have k2 := isN_cg (o1.1 5 (by decide) (by decide)) (o1.1 6 (by decide) (by decide)) (o1.1 7 (by decide) (by decide)) k2
    have k4 := isN_cg (o2.1 5 (by decide) (by decide)) (o2.1 6 (by decide) (by decide)) (o2.1 7 (by decide) (by decide)) k4
    have ew := isN_uniq W.1 k4 k2
    subst ew
    have r1 : ∀ o, o ≠ 2 → o ≠ 23 → o ≠ 24 → o ≠ 81 → h1 o = h o := fun o a1 a2 a3 a4 => o1.1 o a4 (by simp [a1, a2, a3])
    have r2 : ∀ o, o ≠ 83 → o ≠ 84 → o ≠ 81 → h2 o = h o := fun o a1 a2 a4 => o2.1 o a4 (by simp [a1, a2])
    have e8 : h1 8 = h 8 := r1 8 (by decide) (by decide) (by decide) (by decide)
    have e7 : h1 7 = h 7 := r1 7 (by decide) (by decide) (by decide) (by decide)
    have e6 : h1 6 = h 6 := r1 6 (by decide) (by decide) (by decide) (by decide)
    have e51 : h1 5 = h 5 := r1 5 (by decide) (by decide) (by decide) (by decide)
    have f85 : h2 85 = h 85 := r2 85 (by decide) (by decide) (by decide)
    have f86 : h2 86 = h 86 := r2 86 (by decide) (by decide) (by decide)
    have e87 : h2 87 = h 87 := r2 87 (by decide) (by decide) (by decide)
    have e5 : h2 81 5 = h 5 2 := by rw [g2.2.1 5 (by decide) (by decide), W.1.2.1]
    rcases k2 with ⟨w1, w2, w3⟩ | ⟨rfl, w3⟩
    · obtain ⟨b2, b3, b4⟩ := W.2 v w1 w2
      have q5 : ∀ z : xH, z = xcp h1 8 (v + 1) 8 v (h 5 2 - v - 1) → z 5 = h 5 ∧ z 6 = h 6 ∧ z 7 = h 7 := fun z hz => by
        rw [hz, xcp_row (by decide), xcp_row (by decide), xcp_row (by decide)]
        exact ⟨e51, e6, e7⟩
      obtain ⟨y5, y6, y7⟩ := q5 _ rfl
      obtain ⟨h3, m1, m2, m3, m4, m5, m6, m7, m8⟩ := s_Rows_remove (o := 5) (N := 200) (r := v) (h := xcp h1 8 (v + 1) 8 v (h 5 2 - v - 1)) (RO_congr y5 y6 y7 W.1.1) w1 (by rw [y5]; exact w2)
      simp only [Int.reduceAdd, y5, y6, y7] at m2 m3 m4 m5 m6 m7 m8
      have o3 : off [5, 6, 7, 8] [] h1 h3 := ⟨fun o h0 hn => by
        rw [m2 o (fun z => hn (by simp [z])) (fun z => hn (by simp [z])) (fun z => hn (by simp [z])), xcp_row (fun z => hn (by simp [z]))], fun j _ => by rw [m2 81 (by decide) (by decide) (by decide), xcp_row (by decide)]⟩
      have h38 : h3 8 = xcp h1 8 (v + 1) 8 v (h 5 2 - v - 1) 8 := m2 8 (by decide) (by decide) (by decide)
      obtain ⟨h4, l2, l3, l4, l5⟩ := s_shiftDown (c := h 8 v) (p := v) (n := h 5 2) (h := h2) ⟨w1, w2⟩ hN.2 e5
      have e81 : ∀ j, h4 81 j = h2 81 j := fun j => l3.2 j List.not_mem_nil
      refine ⟨h 8 v, h3, xup h4 81 5 (h 5 2 - 1), ?_, off_hi (off_tr o1 o3) (by decide) rfl, ?_, ?_⟩
      · unfold f_WM_drop f_Lex_remove
        simp (disch := omega) only [e1, k1, e8, e51, m1, ↓if_pos, ↓if_neg, ↓xgd_pos, ↓xgb_pos, ↓xgc_pos, ↓xlet_eq, xc1_some, xc2_some, w32_id, xup_same, xup_row, xup_ne_j, xsw_l, xsw_r]
      · unfold f_Md_drop f_Md_drop_42 f_Md_drop_66
        simp (disch := omega) only [g1, k3, e87, b2, l2, e81, e5, ↓if_pos, ↓if_neg, ↓xgd_pos, ↓xgb_pos, ↓xgc_pos, ↓xlet_eq, xc1_some, xc2_some, w32_id, xup_same, xup_row, xup_ne_j, xsw_l, xsw_r]
      · have o4 : off [83, 84, 85, 86, 87] [1, 2, 5] h (xup h4 81 5 (h 5 2 - 1)) := off_w (off_tr (off_tr o2 l3) off_um) (by decide) (by decide)
        have hT := Tp_empty (h := mx h3 (xup h4 81 5 (h 5 2 - 1))) (by rw [mx_lo (by decide), o3.1 2 (by decide) (by decide)]; exact z1) (by rw [mx_hi (by decide), xup_ne_j (by decide), e81]; exact g2.2.2)
        generalize hX : xup h4 81 5 (h 5 2 - 1) = X at *
        have x85 : X 85 = h4 85 := by rw [← hX]; exact xup_row (by decide)
        have x86 : X 86 = h4 86 := by rw [← hX]; exact xup_row (by decide)
        have x87 : X 87 = h4 87 := by rw [← hX]; exact xup_row (by decide)
        have x81 : X 81 5 = h 5 2 - 1 := by rw [← hX]; exact xup_same
        have hW : Wd (mx h3 X) := by
          refine Wd_del (p := v) W ⟨w1, w2⟩ (by rw [mx_lo (o := 5) (by decide)]; exact m3) (by rw [mx_hi (o := 81) (by decide)]; exact x81) (fun a a1 a2 => ?_) (fun a a1 a2 => ?_)
          · obtain ⟨y4, y5, y6⟩ := l4 a a1 a2
            unfold wS
            rw [mx_lo (o := 7) (by decide), mx_lo (o := 8) (by decide), mx_lo (o := 6) (by decide), mx_hi (o := 85) (by decide), mx_hi (o := 86) (by decide), mx_hi (o := 87) (by decide), x85, x86, x87]
            exact ⟨m5 a a1 a2, by rw [h38, xcp_out (by omega), e8], fun i i1 i2 => m7 _ (by omega) (by omega), by rw [y4, f85], by rw [y5, e87], fun i i1 i2 => by rw [y6 i i1 i2, f86]⟩
          · obtain ⟨y4, y5, y6⟩ := l5 a a1 a2
            unfold wS
            rw [mx_lo (o := 7) (by decide), mx_lo (o := 8) (by decide), mx_lo (o := 6) (by decide), mx_hi (o := 85) (by decide), mx_hi (o := 86) (by decide), mx_hi (o := 87) (by decide), x85, x86, x87]
            refine ⟨m6 a a1 a2, ?_, fun i i1 i2 => ?_, by rw [y4, f85], by rw [y5, e87], fun i i1 i2 => by rw [y6 i i1 i2, f86]⟩
            · rw [h38, xcp_in (by omega) (by omega), e8]
              congr 1
              omega
            · rw [m8 _ (by omega) (by omega)]
              congr 1
              omega
        exact inv_mk (off_mx (off_tr o1 o3) o4) hI
    · refine ⟨0, h1, h2, ?_, off_hi o1 (by decide) rfl, ?_, ?_⟩
      · unfold f_WM_drop f_Lex_remove
        simp (disch := omega) only [e1, k1, ↓if_pos, ↓if_neg, ↓xgd_pos, ↓xgb_pos, ↓xgc_pos, ↓xlet_eq, xc1_some, xc2_some, w32_id, xup_same, xup_row, xup_ne_j, xsw_l, xsw_r]
      · unfold f_Md_drop
        simp (disch := omega) only [g1, k3, ↓if_pos, ↓if_neg, ↓xgd_pos, ↓xgb_pos, ↓xgc_pos, ↓xlet_eq, xc1_some, xc2_some, w32_id, xup_same, xup_row, xup_ne_j, xsw_l, xsw_r]
      · have hT := Tp_empty (h := mx h1 h2) (by rw [mx_lo (by decide)]; exact z1) (by rw [mx_hi (by decide)]; exact g2.2.2)
        exact inv_mk (off_mx o1 o2) hI
  · obtain ⟨h2, g1, g2⟩ := hx h rfl rfl
    have o2 := mfr_off g2
    refine ⟨-2, h1, h2, ?_, off_hi o1 (by decide) rfl, ?_, ?_⟩
    · unfold f_WM_drop
      rw [e1, xc2_some, if_pos rfl]
    · unfold f_Md_drop
      rw [g1, xc2_some, if_pos rfl]
    · have hT := Tp_empty (h := mx h1 h2) (by rw [mx_lo (by decide)]; exact z1) (by rw [mx_hi (by decide)]; exact g2.2.2)
      exact inv_mk (off_mx o1 o2) hI
