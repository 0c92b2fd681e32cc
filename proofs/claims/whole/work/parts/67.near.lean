/-! NEAR, NEAREST, COMPLETE -/
noncomputable def SW (h : xH) (w : Int) : Int := (f_Lex_share w h).getD 0
theorem SW_c {h : xH} (hI : Inv h) {g : xH} (e4 : g 4 = h 4) (e8 : g 8 = h 8) {w : Int} (w0 : 0 ≤ w) (w1 : w < h 5 2) : f_Lex_share w g = some (SW h w) ∧ 0 ≤ SW h w ∧ SW h w ≤ 67108864 ∧ ∀ y : xH, y 81 15 = h 81 15 → f_Md_share (h 8 w) y = some (SW h w) := by
  have N200 := Wd_n hI.2.1.1
  have hc := (hI.2.1.2 w w0 w1).2
  have ht := hI.2.2.1
  have ex : ∀ y : xH, y 81 15 = h 81 15 → f_Lex_share w h = some (SW h w) ∧ f_Md_share (h 8 w) y = some (SW h w) ∧ 0 ≤ SW h w ∧ SW h w ≤ 67108864 := fun y hy => by
    obtain ⟨s, s1, s2, s3, s4⟩ := s_share (h := h) (g := y) w0 (by omega) hc ht.2 (by rw [hy]; exact ht.1)
    have e : SW h w = s := by unfold SW; rw [s1]; rfl
    rw [e]
    exact ⟨s1, s2, s3, s4⟩
  obtain ⟨a1, a2, a3, a4⟩ := ex h rfl
  refine ⟨?_, a3, a4, fun y hy => (ex y hy).2.1⟩
  rw [← a1]
  unfold f_Lex_share f_Lex_countOf
  rw [e4, e8]
/-- gather and its model -/
theorem gath {h g y : xH} {q : Int → Int} {m md r bc bm most : Int} (hI : Inv h) (hq : LR m q) (hr : r = 60 ∨ r = 61) (m1 : 1 ≤ most) (m2 : most ≤ 200) (eg : ∀ x, 4 ≤ x → x ≤ 8 → g x = h x) (rel : ∀ w, 0 ≤ w → w < h 5 2 → (g r w ≤ bc ↔ DW h q m md w ≤ bm) ∧ (DW h q m md w ≤ bm → g r w = DW h q m md w))
    (oy : off [83, 84, 97, 98, 110, 111, 112, 113, 114, 115, 116, 118, 119, 120] [1, 2, 22, 23, 39, 40, 47, 83, 84] h y) (hB : MB y) (qy : pB y = q) (my : y 81 23 = m) :
    ∃ v g2 y2 y3, f_Found_gather 62 r bc most g = some (v, g2) ∧ off [62, 63, 64, 65] [] g g2 ∧ f_Md_tries bm md y = some y2 ∧ f_Md_keeps most y2 = some (v, y3) ∧ off [97, 99, 116, 121, 122, 123, 124, 125, 126] [22, 53, 57, 83, 84] y y3 ∧ Fo (mx g2 y3) := by
  have W := hI.2.1.1
  have N200 := Wd_n W
  have P' : Pr y := Pr_off oy (by decide) hI.2.2.2.1
  have S' : So y := So_off oy (by decide) hI.2.2.2.2.1
  have W' : Wd0 y := Wd0_off oy (by decide) W
  have ey : ∀ x, 5 ≤ x → x ≤ 20 → y x = h x := fun x a b => oy.1 x (by omega) (fun z => by simp at z; omega)
  have e5y : y 5 = h 5 := ey 5 (by decide) (by decide)
  have e5g : g 5 = h 5 := eg 5 (by decide) (by decide)
  have e8g : g 8 = h 8 := eg 8 (by decide) (by decide)
  have DB := fun w w0 w1 => DW_b (md := md) (w := w) hI.2.2.2.1 hI.2.2.2.2.1 W hq w0 w1
  obtain ⟨g2, a1, a2, a3, a4⟩ := s_gather (h := g) (o := 62) (r := r) (b := bc) (bm := bm) (most := most) (D := DW h q m md) (S := SW h) (Or.inl rfl) hr (by rw [e5g]; exact N200.1) (by rw [e5g]; exact N200.2) m1 m2 (fun w w0 w1 => by rw [e5g] at w1; have := DB w w0 w1; omega) (fun w w0 w1 => by rw [e5g] at w1; exact rel w w0 w1) (fun w w0 w1 => by
    rw [e5g] at w1
    obtain ⟨c1, c2, c3, -⟩ := SW_c hI (eg 4 (by decide) (by decide)) e8g w0 w1
    exact ⟨c1, c2, c3⟩)
  rw [e5g, e8g] at a1 a3 a4
  obtain ⟨y2, b1, b2, b3, b4⟩ := m_tries (h := y) (b := bm) (md := md) (C := h 8) (S := SW h) P' S' W' hB (fun w w0 w1 => by rw [oy.1 87 (by decide) (by decide)]; rw [e5y] at w1; exact (hI.2.1.2 w w0 w1).1) (fun w w0 w1 => by
    rw [e5y] at w1
    obtain ⟨c1, c2, c3, c4⟩ := SW_c hI rfl rfl w0 w1
    exact ⟨fun z hz => c4 z (by rw [hz, oy.2 15 (by decide)]), c2, c3⟩)
  rw [qy, my, e5y, DW_cg ey] at b3 b4
  have F := fl_ok (C := h 8) (D := DW h q m md) (S := SW h) (b := bm) (h 5 2).toNat
  generalize fl (h 8) (DW h q m md) (SW h) bm (h 5 2).toNat = ff at *
  obtain ⟨F0, F1, F2, F3⟩ := F
  obtain ⟨y3, c1, c2, c3, c4⟩ := m_keeps (most := most) b3 F0 (by omega) (by omega) b4
  refine ⟨min ff.2 most, g2, y2, y3, a1, ⟨fun x x0 hn => a2 x (fun z => hn (by simp [z])) (fun z => hn (by simp [z])) (fun z => hn (by simp [z])) (fun z => hn (by simp [z])), fun x _ => by rw [a2 81 (by decide) (by decide) (by decide) (by decide)]⟩, b1, c1, off_w (off_tr b2 c2) (by decide) (by decide), ?_⟩
  unfold Fo
  rw [mx_lo (o := 62) (by decide), mx_lo (o := 63) (by decide), mx_lo (o := 64) (by decide), mx_lo (o := 65) (by decide), mx_hi (o := 81) (by decide), mx_hi (o := 121) (by decide), mx_hi (o := 122) (by decide), mx_hi (o := 123) (by decide), a3]
  refine ⟨c3, by omega, by omega, fun i i0 i1 => ?_⟩
  obtain ⟨u1, u2, u3⟩ := a4 i i0 i1
  obtain ⟨v1, v2, v3⟩ := c4 i i0 i1
  simp only [Int.reduceAdd] at u1 u2 u3 v1 v2 v3
  exact ⟨by rw [v1, u1], by rw [v2, u2], by rw [v3, u3]⟩
/-- the model takes the row read as the typed one -/
theorem m_tookB {h h2 : xH} {n : Int} {f : Int → Int} (n1 : 1 ≤ n) (n2 : n ≤ 12) (hf : ∀ k, 0 ≤ k → k < n → 0 ≤ f k ∧ f k ≤ 25) (g2 : mfr h h2) (g3 : h2 83 0 = n) (g4 : ∀ k, 0 ≤ k → k < n → h2 84 k = f k) : ∃ y, f_Md_takeB 0 h2 = some y ∧ off [83, 84, 98] [1, 2, 23] h y ∧ y 81 1 = 0 ∧ MB y ∧ pB y = pad n f ∧ y 81 23 = n := by
  have tk := m_takeB (h := h2) (l := 0) (by decide) (by decide) g3 (by omega) n2
  refine ⟨_, tk, off_w (off_tr (mfr_off g2) (off_tr off_um (off_lay (by decide)))) (by decide) (by decide), ?_, ?_, ?_, ?_⟩
  · rw [hLay_row (by decide), xup_ne_j (by decide)]; exact g2.2.2
  · unfold MB
    rw [hLay_row (o' := 81) (by decide), xup_same]
    refine ⟨by omega, n2, fun k k0 k1 => ?_⟩
    rw [hLay_in k0 (by omega), show 12 * 0 + (k - 0) = k by omega, g4 k k0 k1]
    exact hf k k0 k1
  · unfold pB
    rw [hLay_row (o' := 81) (by decide), xup_same]
    refine pad_ext rfl (fun k k0 k1 => ?_)
    rw [hLay_in k0 (by omega), show 12 * 0 + (k - 0) = k by omega, g4 k k0 k1]
  · rw [hLay_row (by decide), xup_same]
theorem s_noBound {b : Int} {h : xH} : f_WM_isNoBound b h = some (if 0 ≤ b ∧ b ≤ 99999 then 0 else 1) := by
  unfold f_WM_isNoBound f_WM_isNoBound_11
  by_cases z : b < 0
  · rw [if_pos z, if_neg (by omega)]
  · rw [if_neg z]
    by_cases y : 99999 < b
    · rw [if_pos y, if_neg (by omega)]
    · rw [if_neg y, if_pos (by omega)]
/-- the walk that is kept, then the words that are near enough -/
theorem near_core {h h1 y : xH} {n b md : Int} {f : Int → Int} (hI : Inv h) (n1 : 1 ≤ n) (n2 : n ≤ 12) (hf : ∀ k, 0 ≤ k → k < n → 0 ≤ f k ∧ f k ≤ 25) (o1 : off [2, 23, 24] [] h h1) (T1 : TO 23 h1) (a23 : h1 23 1 = n) (pa : tp h1 23 = pad n f) (b0 : 0 ≤ b) (b1 : b ≤ 99999) (oy : off [83, 84, 98] [1, 2, 23] h y) (hB : MB y) (qy : pB y = pad n f) (my : y 81 23 = n) (z1 : h1 2 1 = 0) (zy : y 81 1 = 0) (hmd : md = 0 ∨ md = 1) :
    ∃ v g g2 y2 y3 y4, f_Walk_go 23 b 1 h1 = some g ∧ f_Found_gather 62 (60 + md) b 200 g = some (v, g2) ∧ off [2, 23, 24, 49, 50, 51, 52, 53, 54, 55, 56, 57, 58, 59, 60, 61, 62, 63, 64, 65] [] h g2 ∧ f_Md_walk b y = some y2 ∧ f_Md_tries b md y2 = some y3 ∧ f_Md_keeps 200 y3 = some (v, y4) ∧ Inv (mx g2 y4) := by
  have hP := hI.2.2.2.1
  have hS := hI.2.2.2.2.1
  have W := hI.2.1.1
  have N200 := Wd_n W
  have hq : LR n (pad n f) := LR_p (by omega) n2 hf
  have P1 : Pr h1 := Pr_off o1 (by decide) hP
  have S1 : So h1 := So_off o1 (by decide) hS
  have W1 : Wd0 h1 := Wd0_off o1 (by decide) W
  have Py : Pr y := Pr_off oy (by decide) hP
  have Sy : So y := So_off oy (by decide) hS
  have Wy' : Wd0 y := Wd0_off oy (by decide) W
  have eh : ∀ x, 4 ≤ x → x ≤ 20 → h1 x = h x := fun x a b => o1.1 x (by omega) (fun z => by simp at z; omega)
  have ey : ∀ x, 5 ≤ x → x ≤ 20 → y x = h x := fun x a b => oy.1 x (by omega) (fun z => by simp at z; omega)
  have eh5 : ∀ x, 5 ≤ x → x ≤ 20 → h1 x = h x := fun x a b => eh x (by omega) b
  obtain ⟨g, g1, g2, g3, g4, -⟩ := s_go (b := b) (kp := 1) P1 S1 W1 (TQ_of T1)
  obtain ⟨k1, k2, k3⟩ := g4 (by decide)
  rw [a23, pa, WH_cg eh5, BG_cg eh5, eh5 5 (by decide) (by decide)] at g3
  obtain ⟨y2, w1, w2⟩ := m_walk (b := b) Py Sy Wy' hB
  have me := Me_walk W hq eh5 ey pa a23 qy my k1 k2 k3 w2
  have ow := w2.1
  have oy2 : off [83, 84, 97, 98, 110, 111, 112, 113, 114, 115, 116, 118, 119, 120] [1, 2, 22, 23, 39, 40, 47, 83, 84] h y2 := off_w (off_tr oy ow) (by decide) (by decide)
  have hB2 : MB y2 := by unfold MB; rw [ow.2 23 (by decide), ow.1 98 (by decide) (by decide)]; exact hB
  have qy2 : pB y2 = pad n f := by rw [← qy]; unfold pB; rw [ow.2 23 (by decide), ow.1 98 (by decide) (by decide)]
  obtain ⟨v, g2', y3, y4, t1, t2, t3, t4, t5, t6⟩ := gath (h := h) (g := g) (y := y2) (q := pad n f) (m := n) (md := md) (r := 60 + md) (bc := b) (bm := b) (most := 200) hI hq (by omega) (by decide) (by decide) (fun x a c => by rw [g2.1 x (by omega) (fun z => by simp at z; omega)]; exact eh x a (by omega)) (fun w x0 x1 => by
    obtain ⟨c1, c2⟩ := g3 w x0 x1
    rcases hmd with rfl | rfl
    · rw [show (60 + 0 : Int) = 60 from rfl, c1]
      exact WH_rel hP hS W hq (by omega) x0 x1
    · rw [show (60 + 1 : Int) = 61 from rfl, c2]
      exact BG_rel hP hS W hq (by omega) x0 x1 (by decide)) oy2 hB2 qy2 (by rw [ow.2 23 (by decide)]; exact my)
  have oc := off_tr o1 (off_tr g2 t2)
  have om := off_tr oy2 t5
  refine ⟨v, g, g2', y2, y3, y4, g1, t1, off_w oc (by decide) (by decide), w1, t3, t4, ?_⟩
  have hT : Tp (mx g2' y4) := Tp_empty (by rw [mx_lo (by decide), t2.1 2 (by decide) (by decide), g2.1 2 (by decide) (by decide)]; exact z1) (by rw [mx_hi (by decide), t5.2 1 (by decide), ow.2 1 (by decide)]; exact zy)
  have hM : Me (mx g2' y4) := by
    have e1 : ∀ x, x = 49 ∨ x = 50 ∨ x = 51 ∨ x = 52 ∨ x = 53 ∨ x = 54 → mx g2' y4 x = mx g y2 x := fun x hx => by
      rw [mx_lo (by omega), mx_lo (by omega), t2.1 x (by omega) (fun z => by simp at z; omega)]
    have e2 : ∀ x, x = 110 ∨ x = 111 ∨ x = 112 ∨ x = 113 ∨ x = 114 ∨ x = 115 → mx g2' y4 x = mx g y2 x := fun x hx => by
      rw [mx_hi (by omega), mx_hi (by omega), t5.1 x (by omega) (fun z => by simp at z; omega)]
    have e3 : ∀ j, j = 39 ∨ j = 40 ∨ j = 47 → mx g2' y4 81 j = mx g y2 81 j := fun j hj => by
      rw [mx_hi (by omega), mx_hi (by omega), t5.2 j (fun z => by simp at z; omega)]
    unfold Me at me ⊢
    rw [e1 49 (by omega), e1 50 (by omega), e1 51 (by omega), e1 52 (by omega), e1 53 (by omega), e1 54 (by omega), e2 110 (by omega), e2 111 (by omega), e2 112 (by omega), e2 113 (by omega), e2 114 (by omega), e2 115 (by omega), e3 39 (by omega), e3 40 (by omega), e3 47 (by omega)]
    exact me
  exact inv_mk (off_mx oc om) hI
theorem op_near (b : Int) : Op2 (f_WM_near b) (f_Md_near b) := by
  refine op2_of (fun _ _ => loc_Md_near) (fun h hI => ?_)
  rcases rd1 hI.1 with ⟨n, f, h1, n1, n2, hf, e1, o1, z1, T1, a23, pa, -, hx⟩ | ⟨h1, e1, o1, z1, hx⟩
  · obtain ⟨h2, m1, m2, m3, m4⟩ := hx h rfl rfl
    by_cases q : 0 ≤ b ∧ b ≤ 99999
    · obtain ⟨y, t1, t2, t3, t4, t5, t6⟩ := m_tookB n1 n2 hf m2 m3 m4
      obtain ⟨v, g, g2, y2, y3, y4, c1, c2, c3, c4, c5, c6, c7⟩ := near_core (md := 0) hI n1 n2 hf o1 T1 a23 pa q.1 q.2 t2 t4 t5 t6 z1 t3 (Or.inl rfl)
      refine ⟨v, g2, y4, ?_, off_hi c3 (by decide) rfl, ?_, c7⟩
      · unfold f_WM_near
        rw [e1, xc2_some, if_neg (by decide), s_noBound, if_pos q, xc1_some, if_pos rfl, c1, xc1_some]
        rw [show (60 + 0 : Int) = 60 from rfl] at c2
        rw [c2, xc2_some]
      · unfold f_Md_near
        rw [m1, xc2_some, if_neg (by decide), in_1 q.1 q.2, xc1_some, if_neg (by decide), t1, xc1_some, c4, xc1_some, c5, xc1_some, c6, xc2_some]
    · refine ⟨-2, h1, h2, ?_, off_hi o1 (by decide) rfl, ?_, ?_⟩
      · unfold f_WM_near
        rw [e1, xc2_some, if_neg (by decide), s_noBound, if_neg q, xc1_some, if_neg (by decide)]
      · unfold f_Md_near
        rw [m1, xc2_some, if_neg (by decide), in_0 (by omega), xc1_some, if_pos rfl]
      · have hT := Tp_empty (h := mx h1 h2) (by rw [mx_lo (by decide)]; exact z1) (by rw [mx_hi (by decide)]; exact m2.2.2)
        exact inv_mk (off_mx o1 (mfr_off m2)) hI
  · obtain ⟨h2, g1, g2⟩ := hx h rfl rfl
    refine ⟨-2, h1, h2, ?_, off_hi o1 (by decide) rfl, ?_, ?_⟩
    · unfold f_WM_near
      rw [e1, xc2_some, if_pos rfl]
    · unfold f_Md_near
      rw [g1, xc2_some, if_pos rfl]
    · have hT := Tp_empty (h := mx h1 h2) (by rw [mx_lo (by decide)]; exact z1) (by rw [mx_hi (by decide)]; exact g2.2.2)
      exact inv_mk (off_mx o1 (mfr_off g2)) hI
theorem op_complete (b : Int) : Op2 (f_WM_complete b) (f_Md_complete b) := by
  refine op2_of (fun _ _ => loc_Md_complete) (fun h hI => ?_)
  rcases rd1 hI.1 with ⟨n, f, h1, n1, n2, hf, e1, o1, z1, T1, a23, pa, -, hx⟩ | ⟨h1, e1, o1, z1, hx⟩
  · obtain ⟨h2, m1, m2, m3, m4⟩ := hx h rfl rfl
    by_cases q : 0 ≤ b ∧ b ≤ 99999
    · obtain ⟨y, t1, t2, t3, t4, t5, t6⟩ := m_tookB n1 n2 hf m2 m3 m4
      obtain ⟨v, g, g2, y2, y3, y4, c1, c2, c3, c4, c5, c6, c7⟩ := near_core (md := 1) hI n1 n2 hf o1 T1 a23 pa q.1 q.2 t2 t4 t5 t6 z1 t3 (Or.inr rfl)
      refine ⟨v, g2, y4, ?_, off_hi c3 (by decide) rfl, ?_, c7⟩
      · unfold f_WM_complete
        rw [e1, xc2_some, if_neg (by decide), s_noBound, if_pos q, xc1_some, if_pos rfl, c1, xc1_some]
        rw [show (60 + 1 : Int) = 61 from rfl] at c2
        rw [c2, xc2_some]
      · unfold f_Md_complete
        rw [m1, xc2_some, if_neg (by decide), in_1 q.1 q.2, xc1_some, if_neg (by decide), t1, xc1_some, c4, xc1_some, c5, xc1_some, c6, xc2_some]
    · refine ⟨-2, h1, h2, ?_, off_hi o1 (by decide) rfl, ?_, ?_⟩
      · unfold f_WM_complete
        rw [e1, xc2_some, if_neg (by decide), s_noBound, if_neg q, xc1_some, if_neg (by decide)]
      · unfold f_Md_complete
        rw [m1, xc2_some, if_neg (by decide), in_0 (by omega), xc1_some, if_pos rfl]
      · have hT := Tp_empty (h := mx h1 h2) (by rw [mx_lo (by decide)]; exact z1) (by rw [mx_hi (by decide)]; exact m2.2.2)
        exact inv_mk (off_mx o1 (mfr_off m2)) hI
  · obtain ⟨h2, g1, g2⟩ := hx h rfl rfl
    refine ⟨-2, h1, h2, ?_, off_hi o1 (by decide) rfl, ?_, ?_⟩
    · unfold f_WM_complete
      rw [e1, xc2_some, if_pos rfl]
    · unfold f_Md_complete
      rw [g1, xc2_some, if_pos rfl]
    · have hT := Tp_empty (h := mx h1 h2) (by rw [mx_lo (by decide)]; exact z1) (by rw [mx_hi (by decide)]; exact g2.2.2)
      exact inv_mk (off_mx o1 (mfr_off g2)) hI
theorem op_nearest (k : Int) : Op2 (f_WM_nearest k) (f_Md_nearest k) := by
  refine op2_of (fun _ _ => loc_Md_nearest) (fun h hI => ?_)
  have hP := hI.2.2.2.1
  have hS := hI.2.2.2.2.1
  have W := hI.2.1.1
  rcases rd1 hI.1 with ⟨n, f, h1, n1, n2, hf, e1, o1, z1, T1, a23, pa, -, hx⟩ | ⟨h1, e1, o1, z1, hx⟩
  · obtain ⟨h2, m1, m2, m3, m4⟩ := hx h rfl rfl
    by_cases q : 1 ≤ k ∧ k ≤ 200
    · obtain ⟨y, t1, t2, t3, t4, t5, t6⟩ := m_tookB n1 n2 hf m2 m3 m4
      have hq : LR n (pad n f) := LR_p (by omega) n2 hf
      have P1 : Pr h1 := Pr_off o1 (by decide) hP
      have S1 : So h1 := So_off o1 (by decide) hS
      have W1 : Wd0 h1 := Wd0_off o1 (by decide) W
      have eh : ∀ x, 4 ≤ x → x ≤ 20 → h1 x = h x := fun x a b => o1.1 x (by omega) (fun z => by simp at z; omega)
      have eh5 : ∀ x, 5 ≤ x → x ≤ 20 → h1 x = h x := fun x a b => eh x (by omega) b
      obtain ⟨g, g1, g2, g3, -, g5⟩ := s_go (b := 1000000) (kp := 0) P1 S1 W1 (TQ_of T1)
      rw [a23, pa, WH_cg eh5, BG_cg eh5, eh5 5 (by decide) (by decide)] at g3
      have g5' := g5 rfl
      have og : off [55, 56, 57, 58, 59, 60, 61] [] h1 g := ⟨fun x x0 hn => by
        by_cases c : 49 ≤ x ∧ x ≤ 54
        · exact g5' x c.1 c.2
        · refine g2.1 x x0 (fun z => hn ?_)
          simp at z ⊢
          omega, g2.2⟩
      obtain ⟨v, g2', y3, y4, u1, u2, u3, u4, u5, u6⟩ := gath (h := h) (g := g) (y := y) (q := pad n f) (m := n) (md := 0) (r := 60) (bc := 1000000) (bm := 2000000) (most := k) hI hq (Or.inl rfl) q.1 q.2 (fun x a c => by rw [g2.1 x (by omega) (fun z => by simp at z; omega)]; exact eh x a (by omega)) (fun w x0 x1 => by
        obtain ⟨c1, c2⟩ := g3 w x0 x1
        have db := DW_b (md := 0) hP hS W hq x0 x1
        rw [c1, WH_all hP hS W hq x0 x1]
        exact ⟨⟨fun _ => by omega, fun _ => by omega⟩, fun _ => rfl⟩) (off_w t2 (by decide) (by decide)) t4 t5 t6
      have oc := off_tr o1 (off_tr og u2)
      have om := off_tr t2 u5
      refine ⟨v, g2', y4, ?_, off_hi oc (by decide) rfl, ?_, ?_⟩
      · unfold f_WM_nearest
        rw [e1, xc2_some, if_neg (by decide), if_neg (by omega), if_neg (by omega), g1, xc1_some, u1, xc2_some]
      · unfold f_Md_nearest
        rw [m1, xc2_some, if_neg (by decide), in_1 q.1 q.2, xc1_some, if_neg (by decide), t1, xc1_some, u3, xc1_some, u4, xc2_some]
      · have hT : Tp (mx g2' y4) := Tp_empty (by rw [mx_lo (by decide), u2.1 2 (by decide) (by decide), og.1 2 (by decide) (by decide)]; exact z1) (by rw [mx_hi (by decide), u5.2 1 (by decide)]; exact t3)
        exact inv_mk (off_mx oc om) hI
    · refine ⟨-2, h1, h2, ?_, off_hi o1 (by decide) rfl, ?_, ?_⟩
      · unfold f_WM_nearest
        rw [e1, xc2_some, if_neg (by decide)]
        by_cases z : k < 1
        · rw [if_pos z]
        · rw [if_neg z, if_pos (by omega)]
      · unfold f_Md_nearest
        rw [m1, xc2_some, if_neg (by decide), in_0 (by omega), xc1_some, if_pos rfl]
      · have hT := Tp_empty (h := mx h1 h2) (by rw [mx_lo (by decide)]; exact z1) (by rw [mx_hi (by decide)]; exact m2.2.2)
        exact inv_mk (off_mx o1 (mfr_off m2)) hI
  · obtain ⟨h2, g1, g2⟩ := hx h rfl rfl
    refine ⟨-2, h1, h2, ?_, off_hi o1 (by decide) rfl, ?_, ?_⟩
    · unfold f_WM_nearest
      rw [e1, xc2_some, if_pos rfl]
    · unfold f_Md_nearest
      rw [g1, xc2_some, if_pos rfl]
    · have hT := Tp_empty (h := mx h1 h2) (by rw [mx_lo (by decide)]; exact z1) (by rw [mx_hi (by decide)]; exact g2.2.2)
      exact inv_mk (off_mx o1 (mfr_off g2)) hI
