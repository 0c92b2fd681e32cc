/-! MENDING: the class's offers, all of them -/
theorem s_sides {c y : xH} {r j : Int} (hR : RO 25 12 c) (r0 : 0 ≤ r) (r1 : r < c 25 2) (j1 : 1 ≤ j) (j2 : j < c 27 r) (y25 : y 25 = c 25) (y26 : y 26 = c 26) (y27 : y 27 = c 27) (e21 : y 21 1 = 0) (e23 : y 23 1 = 0) : ∃ g, xloop (fun s : Int × xH => f_WM_offerJoin_s30 r j s.1 s.2) (0, y) = some g ∧ off [21, 22, 23, 24] [] y g ∧ TO 21 g ∧ TO 23 g ∧ tp g 21 = cutA c r j ∧ tp g 23 = cutB c r j := by
  obtain ⟨l1, l2, l3, l4⟩ := tl_b hR r0 r1
  obtain ⟨g, e, o1, g1, g2, g3, g4⟩ := xloop_W (step := fun s : Int × xH => f_WM_offerJoin_s30 r j s.1 s.2)
    (I := fun s => 0 ≤ s.1 ∧ s.1 ≤ c 27 r ∧ off [21, 22, 23, 24] [] y s.2 ∧ s.2 21 1 = min s.1 j ∧ (∀ i, 0 ≤ i → i < min s.1 j → s.2 22 i = c 26 (r * 12 + i)) ∧ s.2 23 1 = max 0 (s.1 - j) ∧ ∀ i, 0 ≤ i → i < max 0 (s.1 - j) → s.2 24 i = c 26 (r * 12 + (j + i))) (fun s => (c 27 r - s.1).toNat)
    (post := fun g => off [21, 22, 23, 24] [] y g ∧ g 21 1 = j ∧ (∀ i, 0 ≤ i → i < j → g 22 i = c 26 (r * 12 + i)) ∧ g 23 1 = c 27 r - j ∧ ∀ i, 0 ≤ i → i < c 27 r - j → g 24 i = c 26 (r * 12 + (j + i))) (s := (0, y)) (by
      rintro ⟨k, g⟩ hI
      dsimp only at hI ⊢
      obtain ⟨k0, k1, go, g1, g2, g3, g4⟩ := hI
      have gR : RO 25 12 g := RO_congr (by rw [go.1 25 (by decide) (by decide), y25]) (by rw [go.1 (25 + 1) (by decide) (by decide)]; exact y26) (by rw [go.1 (25 + 2) (by decide) (by decide)]; exact y27) hR
      have g25 : g 25 = c 25 := by rw [go.1 25 (by decide) (by decide), y25]
      unfold f_WM_offerJoin_s30
      rw [s_Rows_sizeOf' gR r0 (by rw [g25]; exact r1), xc1_some, show (25 + 2 : Int) = 27 from rfl, go.1 27 (by decide) (by decide), y27]
      by_cases q : k < c 27 r
      · left
        have at' : f_Rows_at 25 r k g = some (c 26 (r * 12 + k)) := by
          rw [s_Rows_at' gR k0 r0 (by rw [g25]; exact r1)]
          unfold rp
          rw [show (25 + 2 : Int) = 27 from rfl, show (25 + 1 : Int) = 26 from rfl, go.1 27 (by decide) (by decide), y27, go.1 26 (by decide) (by decide), y26, pad_in k0 q]
        rw [if_pos q]
        by_cases x : k < j
        · rw [if_pos x]
          unfold f_WM_offerJoin_58
          refine ⟨(k + 1, xup (xup g 22 k (c 26 (r * 12 + k))) 21 1 (k + 1)), ?_, ⟨by dsimp only; omega, by dsimp only; omega, off_w (off_tr go (off_tr (off_up (by decide)) (off_up (by decide)))) (by decide) (by decide), ?_, fun i i0 i1 => ?_, ?_, fun i i0 i1 => ?_⟩, by dsimp only; omega⟩
          · have e1 : g 21 1 = k := by omega
            rw [at', xc1_some, s_Row_append (by omega) (by omega), xc2_some, w32_id (by omega) (by omega), xlet_eq, e1]
            rfl
          · dsimp only; rw [xup_same]; omega
          · dsimp only at i1 ⊢
            rw [xup_row (by decide)]
            by_cases w : i = k
            · rw [w, xup_same]
            · rw [xup_ne_j w]; exact g2 i i0 (by omega)
          · dsimp only; rw [xup_row (by decide), xup_row (by decide), g3]; omega
          · dsimp only at i1 ⊢; omega
        · rw [if_neg x]
          unfold f_WM_offerJoin_58
          refine ⟨(k + 1, xup (xup g 24 (k - j) (c 26 (r * 12 + k))) 23 1 (k - j + 1)), ?_, ⟨by dsimp only; omega, by dsimp only; omega, off_w (off_tr go (off_tr (off_up (by decide)) (off_up (by decide)))) (by decide) (by decide), ?_, fun i i0 i1 => ?_, ?_, fun i i0 i1 => ?_⟩, by dsimp only; omega⟩
          · have e1 : g 23 1 = k - j := by omega
            rw [at', xc1_some, s_Row_append (by omega) (by omega), xc2_some, w32_id (by omega) (by omega), xlet_eq, e1]
            rfl
          · dsimp only; rw [xup_row (by decide), xup_row (by decide), g1]; omega
          · dsimp only at i1 ⊢
            rw [xup_row (by decide), xup_row (by decide)]
            exact g2 i i0 (by omega)
          · dsimp only; rw [xup_same]; omega
          · dsimp only at i1 ⊢
            rw [xup_row (by decide)]
            by_cases w : i = k - j
            · rw [w, xup_same, show j + (k - j) = k by omega]
            · rw [xup_ne_j w]; exact g4 i i0 (by omega)
      · right
        exact ⟨g, by rw [if_neg q], go, by omega, fun i i0 i1 => g2 i i0 (by omega), by omega, fun i i0 i1 => g4 i i0 (by omega)⟩) ⟨Int.le_refl _, by dsimp only; omega, off_rf, by dsimp only; omega, fun i i0 i1 => by dsimp only at i1; omega, by dsimp only; omega, fun i i0 i1 => by dsimp only at i1; omega⟩
  refine ⟨g, e, o1, ⟨by omega, by omega, fun k k0 k1 => ?_⟩, ⟨by omega, by omega, fun k k0 k1 => ?_⟩, ?_, ?_⟩
  · rw [g1] at k1
    simp only [Int.reduceAdd]
    rw [g2 k k0 k1]
    exact l4 k k0 (by omega)
  · rw [g3] at k1
    simp only [Int.reduceAdd]
    rw [g4 k k0 k1]
    exact l4 _ (by omega) (by omega)
  · exact pad_ext g1 g2
  · exact pad_ext g3 g4
theorem s_join {c z : xH} {b r : Int} (oz : off [21, 22, 23, 24, 55, 56, 57, 58, 59, 60, 61, 66, 67, 68, 69, 70, 71, 72, 73, 74, 75, 76] [] c z) (hP : Pr c) (hS : So c) (W : Wd0 c) (hR : RO 25 12 c) (r0 : 0 ≤ r) (r1 : r < c 25 2) (z6 : z 70 6 = c 25 2) (hK : nW c (tX c r) = -1) :
    ∃ z', f_WM_offerJoin r z = some z' ∧ off [21, 22, 23, 24, 71, 72, 73] [] z z' ∧ CE z z' 3 r (MP c b 3 r) (MF c b 3 r) (MS c 3 r) := by
  obtain ⟨l1, l2, l3, l4⟩ := tl_b hR r0 r1
  rw [MF_3, MS_3]
  unfold f_WM_offerJoin f_WM_offerJoin_2
  obtain ⟨q, e, hq⟩ := xloop_W (step := fun s : Int × xH => f_WM_offerJoin_s2 r s.1 s.2) (I := fun s => 1 ≤ s.1 ∧ s.1 ≤ c 27 r ∧ off [21, 22, 23, 24] [] z s.2 ∧ ∀ i, 1 ≤ i → i < s.1 → ¬ okCut c r i) (fun s => (c 27 r - s.1).toNat)
    (post := fun q => (∃ y, q = Sum.inl y ∧ off [21, 22, 23, 24] [] z y ∧ ∀ i, 1 ≤ i → i < c 27 r → ¬ okCut c r i) ∨ ∃ y j, q = Sum.inr y ∧ off [21, 22, 23, 24, 71, 72, 73] [] z y ∧ (1 ≤ j ∧ j < c 27 r ∧ okCut c r j ∧ ∀ i, 1 ≤ i → i < j → ¬ okCut c r i) ∧ CE z y 3 r (c 10 9) (nW c (cutA c r j)) (nW c (cutB c r j))) (s := (1, z)) (by
      rintro ⟨j, y⟩ hI
      dsimp only at hI ⊢
      obtain ⟨j1, j2, yo, yn⟩ := hI
      have oy : off [21, 22, 23, 24, 55, 56, 57, 58, 59, 60, 61, 66, 67, 68, 69, 70, 71, 72, 73, 74, 75, 76] [] c y := off_w (off_tr oz yo) (by decide) (by decide)
      obtain ⟨P1, S1, W1, R1, e25, e26, e27, enW, erp, e20⟩ := mn_fr oy hP hS W hR
      unfold f_WM_offerJoin_s2
      rw [s_Rows_sizeOf' R1 r0 (by rw [e25]; exact r1), xc1_some, show (25 + 2 : Int) = 27 from rfl, e27]
      by_cases q : j < c 27 r
      · rw [if_pos q, s_Row_clear, xc1_some, s_Row_clear, xc1_some]
        generalize hy1 : xup (xup y 21 1 0) 23 1 0 = y1
        have o1 : off [21, 23] [] y y1 := by rw [← hy1]; exact off_w (off_tr (off_up (by decide)) (off_up (by decide))) (by decide) (by decide)
        obtain ⟨g, s1, s2, s3, s4, s5, s6⟩ := s_sides (c := c) (y := y1) hR r0 r1 j1 q (by rw [o1.1 25 (by decide) (by decide), e25]) (by rw [o1.1 26 (by decide) (by decide), e26]) (by rw [o1.1 27 (by decide) (by decide), e27]) (by rw [← hy1, xup_row (by decide), xup_same]) (by rw [← hy1, xup_same])
        have og : off [21, 22, 23, 24] [] z g := off_w (off_tr yo (off_tr o1 s2)) (by decide) (by decide)
        have og2 : off [21, 22, 23, 24, 55, 56, 57, 58, 59, 60, 61, 66, 67, 68, 69, 70, 71, 72, 73, 74, 75, 76] [] c g := off_w (off_tr oz og) (by decide) (by decide)
        obtain ⟨P2, S2, W2, R2, -, -, -, enW2, -, e202⟩ := mn_fr og2 hP hS W hR
        unfold f_WM_offerJoin_30
        rw [s1, xc1_some]
        unfold f_WM_offerJoin_81 f_WM_offerJoin_139
        rw [s_numOf W2 s3, s_numOf W2 s4, xc1_some, xc1_some, enW2, s5, s6, w32_id (by omega) (by omega), xlet_eq]
        have nxt : ¬ okCut c r j → (1 ≤ j + 1 ∧ j + 1 ≤ c 27 r ∧ off [21, 22, 23, 24] [] z g ∧ ∀ i, 1 ≤ i → i < j + 1 → ¬ okCut c r i) := fun x => ⟨by omega, by omega, og, fun i i0 i1 => by
          by_cases w : i = j
          · rw [w]; exact x
          · exact yn i i0 (by omega)⟩
        by_cases k1 : nW c (cutA c r j) = -1
        · left
          exact ⟨(j + 1, g), by rw [if_pos k1], nxt (fun x => x.1 k1), by dsimp only; omega⟩
        · rw [if_neg k1]
          by_cases k2 : nW c (cutB c r j) = -1
          · left
            exact ⟨(j + 1, g), by rw [if_pos k2], nxt (fun x => x.2 k2), by dsimp only; omega⟩
          · right
            rw [if_neg k2]
            have e9 : f_Slips_kindPrice 9 g = some (c 10 9) := by
              unfold f_Slips_kindPrice
              rw [if_neg (by decide), if_pos (by decide), xgd_pos (by decide) (by decide), e202 10 (by decide) (by decide)]
            have p9 := hP.2.2.1
            obtain ⟨g2, t1, t2, t3⟩ := s_offer (z := g) (k := 3) (r := r) (p := c 10 9) (f := nW c (cutA c r j)) (s := nW c (cutB c r j)) (by decide) (by decide) r0 (by rw [og.1 70 (by decide) (by decide), z6]; exact r1) (by omega) (by omega)
            rw [e9, xc1_some, t1, xc1_some]
            refine ⟨_, rfl, Or.inr ⟨g2, j, rfl, off_w (off_tr og t2) (by decide) (by decide), ⟨j1, q, ⟨k1, k2⟩, yn⟩, ?_⟩⟩
            unfold CE at t3 ⊢
            rw [og.1 71 (by decide) (by decide), og.1 72 (by decide) (by decide), og.1 73 (by decide) (by decide)] at t3
            exact t3
      · right
        exact ⟨Sum.inl y, by rw [if_neg q], Or.inl ⟨y, rfl, yo, fun i i0 i1 => yn i i0 (by omega)⟩⟩) ⟨Int.le_refl _, l1, off_rf, fun i i0 i1 => by dsimp only at i1; omega⟩
  rw [e, xc1_some]
  rcases hq with ⟨y, rfl, y1, y2⟩ | ⟨y, j, rfl, y1, y2, y3⟩
  · rw [xsw_l]
    have ej : jn c r = -1 := jn_of (Or.inr ⟨rfl, y2⟩)
    exact ⟨y, rfl, off_w y1 (by decide) (by decide), CE_no (y1.1 71 (by decide) (by decide)) (y1.1 72 (by decide) (by decide)) (y1.1 73 (by decide) (by decide)) (by rw [MP_3, if_pos hK, if_pos ej])⟩
  · rw [xsw_r]
    have ej : jn c r = j := jn_of (Or.inl y2)
    refine ⟨y, rfl, y1, ?_⟩
    rw [MP_3, if_pos hK, ej, if_neg (by omega)]
    exact y3
theorem SW_d {h : xH} (hW : Wd h) (ht : Wt h) {g : xH} (e4 : g 4 = h 4) (e8 : g 8 = h 8) {w : Int} (w0 : 0 ≤ w) (w1 : w < h 5 2) : f_Lex_share w g = some (SW h w) ∧ 0 ≤ SW h w ∧ SW h w ≤ 67108864 ∧ ∀ y : xH, y 81 15 = h 81 15 → f_Md_share (h 8 w) y = some (SW h w) := by
  have N200 := Wd_n hW.1
  have hc := (hW.2 w w0 w1).2
  have ex : ∀ y : xH, y 81 15 = h 81 15 → f_Lex_share w h = some (SW h w) ∧ f_Md_share (h 8 w) y = some (SW h w) ∧ 0 ≤ SW h w ∧ SW h w ≤ 67108864 := fun y hy => by
    obtain ⟨s, s1, s2, s3, s4⟩ := s_share (h := h) (g := y) w0 (by omega) hc ht.2 (by rw [hy]; exact ht.1)
    have e : SW h w = s := by unfold SW; rw [s1]; rfl
    rw [e]
    exact ⟨s1, s2, s3, s4⟩
  obtain ⟨a1, a2, a3, a4⟩ := ex h rfl
  refine ⟨?_, a3, a4, fun y hy => (ex y hy).2.1⟩
  rw [← a1]
  unfold f_Lex_share f_Lex_countOf
  rw [e4, e8]
/-- the walk for one row of the text, and the word that it leads to -/
theorem s_mended {c z : xH} {b r : Int} (oz : off [21, 22, 23, 24, 55, 56, 57, 58, 59, 60, 61, 66, 67, 68, 69, 70, 71, 72, 73, 74, 75, 76] [] c z) (hP : Pr c) (hS : So c) (hWd : Wd c) (hWt : Wt c) (hR : RO 25 12 c) (r0 : 0 ≤ r) (r1 : r < c 25 2) (z6 : z 70 6 = c 25 2) (hK : nW c (tX c r) = -1) (b0 : 0 ≤ b) (b1 : b ≤ 99999) :
    ∃ y g z', f_Rows_copyTo 25 r 23 z = some y ∧ f_Walk_go 23 b 0 y = some g ∧ f_WM_offerMended r b g = some z' ∧ off [23, 24, 55, 56, 57, 58, 59, 60, 61, 66, 67, 68, 69, 71, 72, 73] [] z z' ∧ CE z z' 1 r (MP c b 1 r) (MF c b 1 r) (MS c 1 r) := by
  have W := hWd.1
  have N200 := Wd_n W
  obtain ⟨P1, S1, W1, R1, e25, e26, e27, enW, erp, e20⟩ := mn_fr oz hP hS W hR
  obtain ⟨l1, l2, l3, l4⟩ := tl_b hR r0 r1
  have cp := s_Rows_copyTo (t := 23) R1 r0 (by rw [e25]; exact r1) (by unfold apart; decide)
  rw [show (25 + 2 : Int) = 27 from rfl, show (25 + 1 : Int) = 26 from rfl, e26, e27] at cp
  generalize hy : hRow 23 (c 27 r) (fun k => c 26 (r * 12 + k)) z = y at cp
  have oy : off [23, 24] [] z y := by rw [← hy]; exact off_hRow (by decide) (by decide)
  have Ty : TO 23 y := by rw [← hy]; exact TO_hRow l1 l2 l4
  have qy : tp y 23 = tX c r := by rw [← hy]; exact tp_hRow
  have my : y 23 1 = c 27 r := by rw [← hy, hRow_size]
  have oy2 : off [21, 22, 23, 24, 55, 56, 57, 58, 59, 60, 61, 66, 67, 68, 69, 70, 71, 72, 73, 74, 75, 76] [] c y := off_w (off_tr oz oy) (by decide) (by decide)
  obtain ⟨P2, S2, W2, R2, -, -, -, -, -, e202⟩ := mn_fr oy2 hP hS W hR
  have hq : LR (c 27 r) (tX c r) := by rw [← qy, ← my]; exact LR_t (TQ_of Ty)
  have ey5 : ∀ x, 5 ≤ x → x ≤ 20 → y x = c x := fun x a d => e202 x (by omega) d
  obtain ⟨g, g1, g2, g3, -, g5⟩ := s_go (b := b) (kp := 0) P2 S2 W2 (TQ_of Ty)
  rw [my, qy, WH_cg ey5, BG_cg ey5, ey5 5 (by decide) (by decide)] at g3
  have g5' := g5 rfl
  have og : off [55, 56, 57, 58, 59, 60, 61] [] y g := ⟨fun x x0 hn => by
    by_cases d : 49 ≤ x ∧ x ≤ 54
    · exact g5' x d.1 d.2
    · refine g2.1 x x0 (fun w => hn ?_)
      simp at w ⊢
      omega, g2.2⟩
  have eg : ∀ x, 4 ≤ x → x ≤ 20 → g x = c x := fun x a d => by rw [og.1 x (by omega) (fun w => by simp at w; omega)]; exact e202 x a d
  have DB := fun w w0 w1 => DW_b (md := 0) (w := w) hP hS W hq w0 w1
  have ga := s_gather (h := g) (o := 66) (r := 60) (b := b) (bm := b) (most := 1) (D := DW c (tX c r) (c 27 r) 0) (S := SW c) (Or.inr rfl) (Or.inl rfl) (by rw [eg 5 (by decide) (by decide)]; exact N200.1) (by rw [eg 5 (by decide) (by decide)]; exact N200.2) (by decide) (by decide) (fun w w0 w1 => by rw [eg 5 (by decide) (by decide)] at w1; have := DB w w0 w1; omega) (fun w w0 w1 => by
    rw [eg 5 (by decide) (by decide)] at w1
    rw [(g3 w w0 w1).1]
    exact WH_rel hP hS W hq (by omega) w0 w1) (fun w w0 w1 => by
    rw [eg 5 (by decide) (by decide)] at w1
    obtain ⟨c1, c2, c3, -⟩ := SW_d hWd hWt (eg 4 (by decide) (by decide)) (eg 8 (by decide) (by decide)) w0 w1
    exact ⟨c1, c2, c3⟩)
  rw [eg 5 (by decide) (by decide), eg 8 (by decide) (by decide)] at ga
  obtain ⟨g', a1, a2, a3, a4⟩ := ga
  have F := fl_ok (C := c 8) (D := DW c (tX c r) (c 27 r) 0) (S := SW c) (b := b) (c 5 2).toNat
  have eff : fl (c 8) (DW c (tX c r) (c 27 r) 0) (SW c) b (c 5 2).toNat = ffl c b r := rfl
  rw [eff] at a1 a3 a4 F
  obtain ⟨F0, F1, F2, F3⟩ := F
  have og' : off [66, 67, 68, 69] [] g g' := ⟨fun x _ hn => a2 x (fun w => hn (by simp [w])) (fun w => hn (by simp [w])) (fun w => hn (by simp [w])) (fun w => hn (by simp [w])), fun j _ => by rw [a2 81 (by decide) (by decide) (by decide) (by decide)]⟩
  have ogz : off [23, 24, 55, 56, 57, 58, 59, 60, 61, 66, 67, 68, 69] [] z g' := off_w (off_tr oy (off_tr og og')) (by decide) (by decide)
  rw [MF_1, MS_n (by decide)]
  refine ⟨y, g, ?_⟩
  unfold f_WM_offerMended
  rw [a1, xc2_some]
  by_cases q : 0 < (ffl c b r).2
  · have mp : MP c b 1 r = DW c (tX c r) (c 27 r) 0 ((ffl c b r).1 0) := by rw [MP_1, if_pos hK, if_pos q]
    obtain ⟨u1, u2, -⟩ := a4 0 (by omega) (by omega)
    simp only [Int.reduceAdd] at u1 u2
    have fa := F2 0 (by omega) q
    have db := DB ((ffl c b r).1 0) fa.1 (by omega)
    have t1 : f_Found_tell 66 0 1 g' = some (DW c (tX c r) (c 27 r) 0 ((ffl c b r).1 0)) := by
      unfold f_Found_tell
      rw [if_neg (by decide), a3, if_pos (by omega), if_pos (by decide), if_neg (by decide), if_pos rfl, xgd_pos (by decide) (by decide)]
      exact congrArg some u2
    have t0 : f_Found_tell 66 0 0 g' = some ((ffl c b r).1 0) := by
      unfold f_Found_tell
      rw [if_neg (by decide), a3, if_pos (by omega), if_pos (by decide), if_pos rfl, xgd_pos (by decide) (by decide)]
      exact congrArg some u1
    obtain ⟨g2', o1, o2, o3⟩ := s_offer (z := g') (k := 1) (r := r) (p := DW c (tX c r) (c 27 r) 0 ((ffl c b r).1 0)) (f := (ffl c b r).1 0) (s := -1) (by decide) (by decide) r0 (by rw [ogz.1 70 (by decide) (by decide), z6]; exact r1) (by omega) (by omega)
    refine ⟨g2', cp, g1, ?_, off_w (off_tr ogz o2) (by decide) (by decide), ?_⟩
    · rw [if_pos (by omega), t1, xc1_some, t0, xc1_some, o1, xc1_some]
    · rw [mp]
      unfold CE at o3 ⊢
      rw [ogz.1 71 (by decide) (by decide), ogz.1 72 (by decide) (by decide), ogz.1 73 (by decide) (by decide)] at o3
      exact o3
  · have mp : MP c b 1 r = -1 := by rw [MP_1, if_pos hK, if_neg q]
    refine ⟨g', cp, g1, by rw [if_neg (by omega)], off_w ogz (by decide) (by decide), CE_no (ogz.1 71 (by decide) (by decide)) (ogz.1 72 (by decide) (by decide)) (ogz.1 73 (by decide) (by decide)) mp⟩
/-- the cells of the offers, as far as they are done -/
def CL (c : xH) (b : Int) (z : xH) (dn : Int → Int → Prop) : Prop := ∀ k r, 0 ≤ k → k < 5 → 0 ≤ r → r < c 25 2 → (dn k r → z 71 (k * 12 + r) = MP c b k r ∧ (MP c b k r ≠ -1 → z 72 (k * 12 + r) = MF c b k r ∧ z 73 (k * 12 + r) = MS c k r)) ∧ (¬ dn k r → z 71 (k * 12 + r) = -1)
theorem CL_step {c z z' : xH} {b k r : Int} {dn dn' : Int → Int → Prop} (n12 : c 25 2 ≤ 12) (h : CL c b z dn) (hn : ¬ dn k r) (k0 : 0 ≤ k) (k1 : k < 5) (r0 : 0 ≤ r) (r1 : r < c 25 2) (ce : CE z z' k r (MP c b k r) (MF c b k r) (MS c k r)) (hd : ∀ k' r', dn' k' r' ↔ dn k' r' ∨ (k' = k ∧ r' = r)) : CL c b z' dn' := by
  intro k' r' a1 a2 a3 a4
  obtain ⟨x1, x2⟩ := h k' r' a1 a2 a3 a4
  obtain ⟨c1, c2, c3⟩ := ce
  by_cases q : k' = k ∧ r' = r
  · obtain ⟨rfl, rfl⟩ := q
    refine ⟨fun _ => ?_, fun w => absurd ((hd k' r').2 (Or.inr ⟨rfl, rfl⟩)) w⟩
    by_cases p : MP c b k' r' = -1
    · exact ⟨by rw [c2 p, x2 hn, p], fun w => absurd p w⟩
    · obtain ⟨y1, y2, y3⟩ := c3 p
      exact ⟨y1, fun _ => ⟨y2, y3⟩⟩
  · obtain ⟨y1, y2, y3⟩ := c1 (k' * 12 + r') (by omega)
    rw [y1, y2, y3]
    refine ⟨fun w => x1 ?_, fun w => x2 (fun w' => w ((hd k' r').2 (Or.inl w')))⟩
    rcases (hd k' r').1 w with w' | w'
    · exact w'
    · exact absurd w' q
theorem CL_ext {c z : xH} {b : Int} {dn dn' : Int → Int → Prop} (h : CL c b z dn) (hd : ∀ k r, dn' k r → 0 ≤ k → k < 5 → 0 ≤ r → r < c 25 2 → dn k r ∨ MP c b k r = -1) (hd' : ∀ k r, dn k r → dn' k r) : CL c b z dn' := by
  intro k r a1 a2 a3 a4
  obtain ⟨x1, x2⟩ := h k r a1 a2 a3 a4
  refine ⟨fun w => ?_, fun w => x2 (fun w' => w (hd' k r w'))⟩
  by_cases q : dn k r
  · exact x1 q
  · rcases hd k r w a1 a2 a3 a4 with w' | w'
    · exact absurd w' q
    · exact ⟨by rw [x2 q, w'], fun y => absurd w' y⟩
theorem CL_cg {c z z' : xH} {b : Int} {dn : Int → Int → Prop} (e1 : z' 71 = z 71) (e2 : z' 72 = z 72) (e3 : z' 73 = z 73) (h : CL c b z dn) : CL c b z' dn := by
  unfold CL
  rw [e1, e2, e3]
  exact h
