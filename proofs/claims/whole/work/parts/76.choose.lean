/-! MENDING: the class's loops over the text, and its choice -/
theorem s_clearM {c : xH} (n0 : 0 ≤ c 25 2) (n12 : c 25 2 ≤ 12) : ∃ z, f_Mend_clear (c 25 2) c = some z ∧ off [70, 71, 74] [] c z ∧ z 70 6 = c 25 2 ∧ z 70 7 = 0 ∧ (∀ j, 0 ≤ j → j < 60 → z 71 j = -1) ∧ ∀ j, 0 ≤ j → j < 13 → z 74 j = 0 := by
  have x71 : (xN 71 : Int) = 60 := rfl
  have x74 : (xN 74 : Int) = 13 := rfl
  unfold f_Mend_clear
  rw [xlet_eq, xlet_eq, s_fillA (o := 71) (by decide), xc1_some, s_fillA (o := 74) (by decide), xc1_some, x71, x74, show max 0 (min (c 25 2) 12) = c 25 2 by omega]
  refine ⟨_, rfl, off_w (off_tr (off_up (by decide)) (off_tr (off_up (by decide)) (off_tr (off_lay (by decide)) (off_lay (by decide))))) (by decide) (by decide), ?_, ?_, fun j j0 j1 => ?_, fun j j0 j1 => ?_⟩
  · rw [hLay_row (by decide), hLay_row (by decide), xup_ne_j (by decide), xup_same]
  · rw [hLay_row (by decide), hLay_row (by decide), xup_same]
  · rw [hLay_row (by decide), hLay_in j0 (by omega)]
  · rw [hLay_in j0 (by omega)]
theorem s_loops {c z0 : xH} {b : Int} (o0 : off [70, 71, 74] [] c z0) (hP : Pr c) (hS : So c) (hWd : Wd c) (hWt : Wt c) (hR : RO 25 12 c) (z6 : z0 70 6 = c 25 2) (z1 : ∀ j, 0 ≤ j → j < 60 → z0 71 j = -1) (b0 : 0 ≤ b) (b1 : b ≤ 99999) :
    ∃ z, f_WM_mend_46 b 0 z0 = f_WM_mend_193 z ∧ off [21, 22, 23, 24, 55, 56, 57, 58, 59, 60, 61, 66, 67, 68, 69, 71, 72, 73] [] z0 z ∧ CL c b z (fun _ _ => True) := by
  have W := hWd.1
  have n12 := hR.2.2.2.2.1
  have n0 := hR.2.2.2.1
  have oz0 : off [21, 22, 23, 24, 55, 56, 57, 58, 59, 60, 61, 66, 67, 68, 69, 70, 71, 72, 73, 74, 75, 76] [] c z0 := off_w o0 (by decide) (by decide)
  obtain ⟨za, ea, a1, a2⟩ := xloop_W (step := fun s : Int × xH => f_WM_mend_s46 b s.1 s.2) (I := fun s => 0 ≤ s.1 ∧ s.1 ≤ c 25 2 ∧ off [23, 24, 71, 72, 73] [] z0 s.2 ∧ CL c b s.2 (fun k r => k = 0 ∧ r < s.1)) (fun s => (c 25 2 - s.1).toNat)
    (post := fun z => off [23, 24, 71, 72, 73] [] z0 z ∧ CL c b z (fun k r => k = 0 ∧ r < c 25 2)) (s := (0, z0)) (by
      rintro ⟨r, z⟩ hI
      dsimp only at hI ⊢
      obtain ⟨r0, r1, zo, zc⟩ := hI
      have oz : off [21, 22, 23, 24, 55, 56, 57, 58, 59, 60, 61, 66, 67, 68, 69, 70, 71, 72, 73, 74, 75, 76] [] c z := off_w (off_tr oz0 zo) (by decide) (by decide)
      obtain ⟨P1, S1, W1, R1, e25, e26, e27, enW, erp, e20⟩ := mn_fr oz hP hS W hR
      unfold f_WM_mend_s46
      rw [e25]
      by_cases q : r < c 25 2
      · left
        obtain ⟨l1, l2, l3, l4⟩ := tl_b hR r0 q
        have cp := s_Rows_copyTo (t := 23) R1 r0 (by rw [e25]; exact q) (by unfold apart; decide)
        rw [show (25 + 2 : Int) = 27 from rfl, show (25 + 1 : Int) = 26 from rfl, e26, e27] at cp
        generalize hy : hRow 23 (c 27 r) (fun k => c 26 (r * 12 + k)) z = y at cp
        have oy : off [23, 24] [] z y := by rw [← hy]; exact off_hRow (by decide) (by decide)
        have Ty : TO 23 y := by rw [← hy]; exact TO_hRow l1 l2 l4
        have qy : tp y 23 = tX c r := by rw [← hy]; exact tp_hRow
        have oy2 : off [21, 22, 23, 24, 55, 56, 57, 58, 59, 60, 61, 66, 67, 68, 69, 70, 71, 72, 73, 74, 75, 76] [] c y := off_w (off_tr oz oy) (by decide) (by decide)
        obtain ⟨P2, S2, W2, R2, -, -, -, enW2, -, e202⟩ := mn_fr oy2 hP hS W hR
        have yc : CL c b y (fun k r' => k = 0 ∧ r' < r) := CL_cg (oy.1 71 (by decide) (by decide)) (oy.1 72 (by decide) (by decide)) (oy.1 73 (by decide) (by decide)) zc
        rw [if_pos q, cp, xc1_some, s_numOf W2 Ty, xc1_some, enW2, qy]
        have e101 : ∀ w, f_WM_mend_101 b r w = some (Sum.inl (r + 1, w)) := fun w => by
          unfold f_WM_mend_101
          rw [w32_id (by omega) (by omega), xlet_eq]
        by_cases k1 : nW c (tX c r) = -1
        · refine ⟨(r + 1, y), by rw [if_pos k1, e101], ⟨by dsimp only; omega, by dsimp only; omega, off_w (off_tr zo oy) (by decide) (by decide), ?_⟩, by dsimp only; omega⟩
          refine CL_ext yc (fun k r' h _ _ _ _ => ?_) (fun k r' h => ⟨h.1, by (try dsimp only); omega⟩)
          dsimp only at h
          by_cases x : r' = r
          · right
            rw [h.1, x, MP_0, if_pos k1]
          · exact Or.inl ⟨h.1, by omega⟩
        · obtain ⟨y2, t1, t2, t3⟩ := s_offer (z := y) (k := 0) (r := r) (p := 0) (f := nW c (tX c r)) (s := -1) (by decide) (by decide) r0 (by rw [oy.1 70 (by decide) (by decide), zo.1 70 (by decide) (by decide), z6]; exact q) (by omega) (by decide)
          refine ⟨(r + 1, y2), by rw [if_neg k1, t1, xc1_some, e101], ⟨by dsimp only; omega, by dsimp only; omega, off_w (off_tr zo (off_tr oy t2)) (by decide) (by decide), ?_⟩, by dsimp only; omega⟩
          refine CL_step (k := 0) (r := r) n12 yc (fun h => by omega) (by decide) (by decide) r0 q (by rw [MP_0, if_neg k1, MF_0, MS_n (by decide)]; exact t3) (fun k' r' => ?_)
          dsimp only
          constructor
          · intro h; omega
          · intro h; omega
      · right
        refine ⟨z, by rw [if_neg q], zo, ?_⟩
        rw [show c 25 2 = r by omega]
        exact zc) ⟨Int.le_refl _, n0, off_rf, fun k r k0 k1 r0 r1 => ⟨fun h => by (try dsimp only at h); omega, fun _ => z1 _ (by omega) (by omega)⟩⟩
  have oza : off [21, 22, 23, 24, 55, 56, 57, 58, 59, 60, 61, 66, 67, 68, 69, 70, 71, 72, 73, 74, 75, 76] [] c za := off_w (off_tr oz0 a1) (by decide) (by decide)
  obtain ⟨zb, eb, b1', b2'⟩ := xloop_W (step := fun s : Int × xH => f_WM_mend_s109 b s.1 s.2) (I := fun s => 0 ≤ s.1 ∧ s.1 ≤ c 25 2 ∧ off [21, 22, 23, 24, 55, 56, 57, 58, 59, 60, 61, 66, 67, 68, 69, 71, 72, 73] [] za s.2 ∧ CL c b s.2 (fun k r => k = 0 ∨ r < s.1)) (fun s => (c 25 2 - s.1).toNat)
    (post := fun z => off [21, 22, 23, 24, 55, 56, 57, 58, 59, 60, 61, 66, 67, 68, 69, 71, 72, 73] [] za z ∧ CL c b z (fun k r => k = 0 ∨ r < c 25 2)) (s := (0, za)) (by
      rintro ⟨r, z⟩ hI
      dsimp only at hI ⊢
      obtain ⟨r0, r1, zo, zc⟩ := hI
      have oz : off [21, 22, 23, 24, 55, 56, 57, 58, 59, 60, 61, 66, 67, 68, 69, 70, 71, 72, 73, 74, 75, 76] [] c z := off_w (off_tr oza zo) (by decide) (by decide)
      obtain ⟨P1, S1, W1, R1, e25, e26, e27, enW, erp, e20⟩ := mn_fr oz hP hS W hR
      have zz6 : z 70 6 = c 25 2 := by rw [zo.1 70 (by decide) (by decide), a1.1 70 (by decide) (by decide)]; exact z6
      unfold f_WM_mend_s109
      rw [e25]
      by_cases q : r < c 25 2
      · left
        obtain ⟨y1, s1, s2, s3⟩ := s_split oz hP hS W hR r0 q zz6 (fun r' x0 x1 => ((zc 0 r' (by decide) (by decide) x0 x1).1 (Or.inl rfl)).1)
        have c1 : CL c b y1 (fun k r' => (k = 0 ∨ r' < r) ∨ (k = 2 ∧ r' = r)) := CL_step n12 zc (fun h => by (try dsimp only at h); omega) (by decide) (by decide) r0 q s3 (fun k' r' => Iff.rfl)
        have e187 : ∀ w, f_WM_mend_187 b r w = some (Sum.inl (r + 1, w)) := fun w => by
          unfold f_WM_mend_187
          rw [w32_id (by omega) (by omega), xlet_eq]
        have y16 : y1 70 6 = c 25 2 := by rw [s2.1 70 (by decide) (by decide)]; exact zz6
        have k0 := ((c1 0 r (by decide) (by decide) r0 q).1 (Or.inl (Or.inl rfl))).1
        rw [if_pos q, s1, xc1_some, s_offers (by decide) (by decide) r0 (by omega) (by omega), xc1_some, k0, MP_0]
        by_cases k1 : nW c (tX c r) = -1
        · rw [if_pos k1, if_pos rfl, if_pos rfl]
          have oy1 : off [21, 22, 23, 24, 55, 56, 57, 58, 59, 60, 61, 66, 67, 68, 69, 70, 71, 72, 73, 74, 75, 76] [] c y1 := off_w (off_tr oz s2) (by decide) (by decide)
          obtain ⟨y2, t1, t2, t3⟩ := s_join (b := b) oy1 hP hS W hR r0 q y16 k1
          have c2 : CL c b y2 (fun k r' => ((k = 0 ∨ r' < r) ∨ (k = 2 ∧ r' = r)) ∨ (k = 3 ∧ r' = r)) := CL_step n12 c1 (fun h => by (try dsimp only at h); omega) (by decide) (by decide) r0 q t3 (fun k' r' => Iff.rfl)
          have y26 : y2 70 6 = c 25 2 := by rw [t2.1 70 (by decide) (by decide)]; exact y16
          obtain ⟨y3, u1, u2, u3⟩ := s_offer (z := y2) (k := 4) (r := r) (p := b + 1) (f := -1) (s := -1) (by decide) (by decide) r0 (by omega) (by omega) (by omega)
          have c3 : CL c b y3 (fun k r' => (((k = 0 ∨ r' < r) ∨ (k = 2 ∧ r' = r)) ∨ (k = 3 ∧ r' = r)) ∨ (k = 4 ∧ r' = r)) := CL_step n12 c2 (fun h => by (try dsimp only at h); omega) (by decide) (by decide) r0 q (by rw [MP_4, if_pos k1, MF_4, MS_n (by decide)]; exact u3) (fun k' r' => Iff.rfl)
          have y36 : y3 70 6 = c 25 2 := by rw [u2.1 70 (by decide) (by decide)]; exact y26
          have oy3 : off [21, 22, 23, 24, 55, 56, 57, 58, 59, 60, 61, 66, 67, 68, 69, 70, 71, 72, 73, 74, 75, 76] [] c y3 := off_w (off_tr oy1 (off_tr t2 u2)) (by decide) (by decide)
          obtain ⟨y4, y5, y6, v1, v2, v3, v4, v5⟩ := s_mended (b := b) oy3 hP hS hWd hWt hR r0 q y36 k1 b0 b1
          have c4 : CL c b y6 (fun k r' => ((((k = 0 ∨ r' < r) ∨ (k = 2 ∧ r' = r)) ∨ (k = 3 ∧ r' = r)) ∨ (k = 4 ∧ r' = r)) ∨ (k = 1 ∧ r' = r)) := CL_step n12 c3 (fun h => by (try dsimp only at h); omega) (by decide) (by decide) r0 q v5 (fun k' r' => Iff.rfl)
          refine ⟨(r + 1, y6), ?_, ⟨by dsimp only; omega, by dsimp only; omega, off_w (off_tr zo (off_tr s2 (off_tr t2 (off_tr u2 v4)))) (by decide) (by decide), ?_⟩, by dsimp only; omega⟩
          · rw [t1, xc1_some, w32_id (by omega) (by omega), u1, xc1_some, v1, xc1_some, v2, xc1_some, v3, xc1_some, e187]
          · refine CL_ext c4 (fun k r' h x0 x1 _ _ => Or.inl ?_) (fun k r' h => ?_)
            · dsimp only at h ⊢; omega
            · dsimp only at h ⊢; omega
        · rw [if_neg k1, if_neg (show ¬ ((0 : Int) = -1) by decide), if_neg (show ¬ ((1 : Int) = 0) by decide)]
          refine ⟨(r + 1, y1), by rw [e187], ⟨by dsimp only; omega, by dsimp only; omega, off_w (off_tr zo s2) (by decide) (by decide), ?_⟩, by dsimp only; omega⟩
          refine CL_ext c1 (fun k r' h x0 x1 _ _ => ?_) (fun k r' h => ?_)
          · dsimp only at h ⊢
            by_cases x : r' = r
            · subst x
              have : k = 0 ∨ k = 1 ∨ k = 2 ∨ k = 3 ∨ k = 4 := by omega
              rcases this with rfl | rfl | rfl | rfl | rfl
              · exact Or.inl (Or.inl (Or.inl rfl))
              · right; rw [MP_1, if_neg k1]
              · exact Or.inl (Or.inr ⟨rfl, rfl⟩)
              · right; rw [MP_3, if_neg k1]
              · right; rw [MP_4, if_neg k1]
            · left; omega
          · dsimp only at h ⊢; omega
      · right
        refine ⟨z, by rw [if_neg q], zo, ?_⟩
        rw [show c 25 2 = r by omega]
        exact zc) ⟨Int.le_refl _, n0, off_rf, CL_ext a2 (fun k r h _ _ r0 r1 => by dsimp only at h; left; omega) (fun k r h => Or.inl h.1)⟩
  refine ⟨zb, ?_, off_w (off_tr a1 b1') (by decide) (by decide), CL_ext b2' (fun k r _ _ _ _ r1 => Or.inl (Or.inr r1)) (fun _ _ _ => trivial)⟩
  unfold f_WM_mend_46
  rw [ea, xc1_some]
  unfold f_WM_mend_107 f_WM_mend_109
  rw [eb, xc1_some]
/-! the choice -/
def tk (k : Int) : Int := if k = 2 then 2 else 1
theorem tk_b {k : Int} : 1 ≤ tk k ∧ tk k ≤ 2 := by
  unfold tk
  split <;> omega
/-- parts as they may be -/
def PK (n : Int) (P : Int → Int → Int) : Prop := 0 ≤ n ∧ n ≤ 12 ∧ (∀ r, 0 ≤ r → r < n → ∃ k, 0 ≤ k ∧ k < 5 ∧ P k r ≠ -1) ∧ (∀ r, P 2 r ≠ -1 → r + 2 ≤ n) ∧ ∀ k r, 0 ≤ k → k < 5 → 0 ≤ r → r < n → P k r ≠ -1 → 0 ≤ P k r ∧ P k r ≤ 100000
theorem PK_tk {n : Int} {P : Int → Int → Int} (h : PK n P) {k r : Int} (r1 : r < n) (hp : P k r ≠ -1) : r + tk k ≤ n := by
  unfold tk
  split
  · next c => rw [c] at hp; exact h.2.2.2.1 r hp
  · omega
/-- the least sums from a row on, and what they begin with -/
def BST (n : Int) (P : Int → Int → Int) (s kd : Int → Int) (r0 : Int) : Prop := s n = 0 ∧ ∀ r, r0 ≤ r → 0 ≤ r → r < n → 0 ≤ kd r ∧ kd r < 5 ∧ P (kd r) r ≠ -1 ∧ s r = P (kd r) r + s (r + tk (kd r)) ∧ (∀ k, 0 ≤ k → k < 5 → P k r ≠ -1 → s r ≤ P k r + s (r + tk k)) ∧ (∀ k, 0 ≤ k → k < kd r → P k r ≠ -1 → s r < P k r + s (r + tk k)) ∧ 0 ≤ s r ∧ s r ≤ 100000 * (n - r)
theorem BST_b {n : Int} {P : Int → Int → Int} {s kd : Int → Int} {r0 : Int} (h : BST n P s kd r0) {j : Int} (j0 : r0 ≤ j) (j1 : 0 ≤ j) (j2 : j ≤ n) : 0 ≤ s j ∧ s j ≤ 100000 * (n - j) := by
  by_cases z : j = n
  · rw [z, h.1]; omega
  · have := h.2 j j0 j1 (by omega)
    omega
theorem s_sumByM {n : Int} {P : Int → Int → Int} {z : xH} {k r : Int} {kd : Int → Int} (hp : PK n P) (z6 : z 70 6 = n) (z71 : ∀ k r, 0 ≤ k → k < 5 → 0 ≤ r → r < n → z 71 (k * 12 + r) = P k r) (hb : BST n P (z 74) kd (r + 1)) (k0 : 0 ≤ k) (k1 : k < 5) (r0 : 0 ≤ r) (r1 : r < n) (ho : P k r ≠ -1) : f_Mend_sumBy k r z = some (P k r + z 74 (r + tk k)) := by
  obtain ⟨p1, p2, p3, p4, p5⟩ := id hp
  have t := tk_b (k := k)
  have pk := PK_tk hp r1 ho
  have pb := p5 k r k0 k1 r0 r1 ho
  have sb := BST_b hb (j := r + tk k) (by omega) (by omega) pk
  unfold f_Mend_sumBy f_Mend_taken
  rw [s_cellOf k0 k1 r0 (by omega) (by omega), xc1_some]
  have et : (if k = 2 then some (2 : Int) else some 1) = some (tk k) := by
    unfold tk
    by_cases c : k = 2
    · rw [if_pos c, if_pos c]
    · rw [if_neg c, if_neg c]
  rw [et, xc1_some, w32_id (by omega) (by omega), xlet_eq, if_neg (by omega), if_pos (by omega), xgd_pos (by omega) (by omega), xgd_pos (by omega) (by omega), z71 k r k0 k1 r0 r1, w32_id (by omega) (by omega)]
theorem s_bestKind {n : Int} {P : Int → Int → Int} {z : xH} {r : Int} {kd : Int → Int} (hp : PK n P) (z6 : z 70 6 = n) (z71 : ∀ k r, 0 ≤ k → k < 5 → 0 ≤ r → r < n → z 71 (k * 12 + r) = P k r) (hb : BST n P (z 74) kd (r + 1)) (r0 : 0 ≤ r) (r1 : r < n) : ∃ k, f_Mend_bestKind r z = some k ∧ 0 ≤ k ∧ k < 5 ∧ P k r ≠ -1 ∧ (∀ i, 0 ≤ i → i < 5 → P i r ≠ -1 → P k r + z 74 (r + tk k) ≤ P i r + z 74 (r + tk i)) ∧ ∀ i, 0 ≤ i → i < k → P i r ≠ -1 → P k r + z 74 (r + tk k) < P i r + z 74 (r + tk i) := by
  obtain ⟨p1, p2, p3, p4, p5⟩ := id hp
  unfold f_Mend_bestKind f_Mend_bestKind_4 f_Mend_bestKind_46
  obtain ⟨q, e, h1⟩ := xloop_W (step := fun s : Int × Int => f_Mend_bestKind_s4 r s.1 s.2 z) (I := fun s => 0 ≤ s.2 ∧ s.2 ≤ 5 ∧ (s.1 = -1 ∧ (∀ i, 0 ≤ i → i < s.2 → P i r = -1) ∨ 0 ≤ s.1 ∧ s.1 < s.2 ∧ P s.1 r ≠ -1 ∧ (∀ i, 0 ≤ i → i < s.2 → P i r ≠ -1 → P s.1 r + z 74 (r + tk s.1) ≤ P i r + z 74 (r + tk i)) ∧ ∀ i, 0 ≤ i → i < s.1 → P i r ≠ -1 → P s.1 r + z 74 (r + tk s.1) < P i r + z 74 (r + tk i))) (fun s => (5 - s.2).toNat)
    (post := fun k => 0 ≤ k ∧ k < 5 ∧ P k r ≠ -1 ∧ (∀ i, 0 ≤ i → i < 5 → P i r ≠ -1 → P k r + z 74 (r + tk k) ≤ P i r + z 74 (r + tk i)) ∧ ∀ i, 0 ≤ i → i < k → P i r ≠ -1 → P k r + z 74 (r + tk k) < P i r + z 74 (r + tk i)) (s := (-1, 0)) (by
      rintro ⟨b, k⟩ hI
      dsimp only at hI ⊢
      obtain ⟨k0, k1, hk⟩ := hI
      unfold f_Mend_bestKind_s4 f_Mend_bestKind_38 f_Mend_bestKind_40
      by_cases q : k < 5
      · left
        rw [if_pos q, s_offers k0 q r0 (by omega) (by omega), xc1_some, z71 k r k0 q r0 r1, w32_id (by omega) (by omega), xlet_eq, xlet_eq]
        by_cases a : P k r = -1
        · rw [if_pos a, if_pos rfl]
          refine ⟨(b, k + 1), rfl, ⟨by dsimp only; omega, by dsimp only; omega, ?_⟩, by dsimp only; omega⟩
          dsimp only
          rcases hk with ⟨b1, b2⟩ | ⟨b0, b1, b2, b3, b4⟩
          · left
            refine ⟨b1, fun i i0 i1 => ?_⟩
            by_cases x : i = k
            · rw [x]; exact a
            · exact b2 i i0 (by omega)
          · right
            refine ⟨b0, by omega, b2, fun i i0 i1 i2 => ?_, b4⟩
            by_cases x : i = k
            · rw [x] at i2; exact absurd a i2
            · exact b3 i i0 (by omega) i2
        · rw [if_neg a, if_neg (by decide)]
          rcases hk with ⟨b1, b2⟩ | ⟨b0, b1, b2, b3, b4⟩
          · rw [if_pos b1]
            refine ⟨(k, k + 1), rfl, ⟨by dsimp only; omega, by dsimp only; omega, Or.inr ⟨k0, by dsimp only; omega, a, fun i i0 i1 i2 => ?_, fun i i0 i1 i2 => absurd (b2 i i0 i1) i2⟩⟩, by dsimp only; omega⟩
            dsimp only at i1 ⊢
            by_cases x : i = k
            · rw [x]; exact Int.le_refl _
            · exact absurd (b2 i i0 (by omega)) i2
          · rw [if_neg (by omega), s_sumByM hp z6 z71 hb k0 q r0 r1 a, s_sumByM hp z6 z71 hb b0 (by omega) r0 r1 b2, xc1_some, xc1_some]
            by_cases x : P k r + z 74 (r + tk k) < P b r + z 74 (r + tk b)
            · rw [if_pos x]
              refine ⟨(k, k + 1), rfl, ⟨by dsimp only; omega, by dsimp only; omega, Or.inr ⟨k0, by dsimp only; omega, a, fun i i0 i1 i2 => ?_, fun i i0 i1 i2 => ?_⟩⟩, by dsimp only; omega⟩
              · dsimp only at i1 ⊢
                by_cases w : i = k
                · rw [w]; exact Int.le_refl _
                · have := b3 i i0 (by omega) i2; omega
              · have := b3 i i0 i1 i2
                dsimp only
                omega
            · rw [if_neg x]
              refine ⟨(b, k + 1), rfl, ⟨by dsimp only; omega, by dsimp only; omega, Or.inr ⟨b0, by dsimp only; omega, b2, fun i i0 i1 i2 => ?_, b4⟩⟩, by dsimp only; omega⟩
              dsimp only at i1 ⊢
              by_cases w : i = k
              · rw [w]; omega
              · exact b3 i i0 (by omega) i2
      · right
        refine ⟨b, by rw [if_neg q], ?_⟩
        rcases hk with ⟨b1, b2⟩ | ⟨b0, b1, b2, b3, b4⟩
        · obtain ⟨i, i0, i1, i2⟩ := p3 r r0 r1
          exact absurd (b2 i i0 (by omega)) i2
        · exact ⟨b0, by omega, b2, fun i i0 i1 i2 => b3 i i0 (by omega) i2, b4⟩) ⟨Int.le_refl _, by dsimp only; omega, Or.inl ⟨rfl, fun i i0 i1 => by dsimp only at i1; omega⟩⟩
  exact ⟨q, by rw [e, xc1_some], h1⟩
def stn (kd : Int → Int) : Nat → Int
  | 0 => 0
  | i + 1 => stn kd i + tk (kd (stn kd i))
theorem stn_ge {kd : Int → Int} : ∀ i : Nat, (i : Int) ≤ stn kd i
  | 0 => Int.le_refl _
  | i + 1 => by
    have := stn_ge (kd := kd) i
    have t := tk_b (k := kd (stn kd i))
    show ((i + 1 : Nat) : Int) ≤ stn kd i + tk (kd (stn kd i))
    omega
theorem s_choose {n : Int} {P : Int → Int → Int} {z : xH} (hp : PK n P) (z6 : z 70 6 = n) (z7 : z 70 7 = 0) (z71 : ∀ k r, 0 ≤ k → k < 5 → 0 ≤ r → r < n → z 71 (k * 12 + r) = P k r) (z74 : ∀ j, 0 ≤ j → j < 13 → z 74 j = 0) :
    ∃ (sz : Nat) (g : xH), f_Mend_choose z = some ((sz : Int), g) ∧ off [70, 74, 75, 76] [] z g ∧ BST n P (g 74) (g 75) 0 ∧ g 70 7 = sz ∧ g 70 6 = n ∧ sz ≤ 12 ∧ (∀ i : Nat, i < sz → g 76 i = stn (g 75) i ∧ 0 ≤ stn (g 75) i ∧ stn (g 75) i < n) ∧ n ≤ stn (g 75) sz := by
  obtain ⟨p1, p2, p3, p4, p5⟩ := id hp
  unfold f_Mend_choose
  rw [z6, w32_id (by omega) (by omega), xlet_eq]
  unfold f_Mend_choose_7
  obtain ⟨y, e1, y1, y2⟩ := xloop_W (step := fun s : Int × xH => f_Mend_choose_s7 s.1 s.2) (I := fun s => -1 ≤ s.1 ∧ s.1 < n ∧ off [74, 75] [] z s.2 ∧ BST n P (s.2 74) (s.2 75) (s.1 + 1)) (fun s => (s.1 + 1).toNat)
    (post := fun y => off [74, 75] [] z y ∧ BST n P (y 74) (y 75) 0) (s := (n - 1, z)) (by
      rintro ⟨r, y⟩ hI
      dsimp only at hI ⊢
      obtain ⟨r0, r1, yo, yb⟩ := hI
      have y6 : y 70 6 = n := by rw [yo.1 70 (by decide) (by decide)]; exact z6
      have y71 : ∀ k r, 0 ≤ k → k < 5 → 0 ≤ r → r < n → y 71 (k * 12 + r) = P k r := by rw [yo.1 71 (by decide) (by decide)]; exact z71
      unfold f_Mend_choose_s7
      by_cases q : r < 0
      · right
        exact ⟨y, by rw [if_pos q], yo, by rw [show r + 1 = 0 by omega] at yb; exact yb⟩
      · left
        obtain ⟨k, k1, k2, k3, k4, k5, k6⟩ := s_bestKind hp y6 y71 yb (by omega) r1
        have t := tk_b (k := k)
        have pk := PK_tk hp r1 k4
        have pb := p5 k r k2 k3 (by omega) r1 k4
        have sb := BST_b yb (j := r + tk k) (by omega) (by omega) pk
        rw [if_neg q, k1, xc1_some, xgd_pos (by omega) (by omega), xlet_eq]
        generalize hy2 : xup y 75 r k = y2
        have o2 : off [75] [] y y2 := by rw [← hy2]; exact off_up (by decide)
        have e74 : y2 74 = y 74 := o2.1 74 (by decide) (by decide)
        have sm := s_sumByM (z := y2) (kd := y 75) (k := k) (r := r) hp (by rw [o2.1 70 (by decide) (by decide)]; exact y6) (by rw [o2.1 71 (by decide) (by decide)]; exact y71) (by rw [e74]; exact yb) k2 k3 (by omega) r1 k4
        rw [e74] at sm
        rw [sm, xc1_some, xgd_pos (by omega) (by omega), xlet_eq, show r + -1 = r - 1 by omega, w32_id (by omega) (by omega), xlet_eq]
        refine ⟨_, rfl, ⟨by dsimp only; omega, by dsimp only; omega, off_w (off_tr yo (off_tr o2 (off_up (by decide)))) (by decide) (by decide), ?_⟩, by dsimp only; omega⟩
        dsimp only
        rw [xup_row (o' := 75) (by decide)]
        have a74 : ∀ j, j ≠ r → xup y2 74 r (P k r + y 74 (r + tk k)) 74 j = y 74 j := fun j hj => by rw [xup_ne_j hj, e74]
        have a75 : ∀ j, j ≠ r → y2 75 j = y 75 j := fun j hj => by rw [← hy2, xup_ne_j hj]
        refine ⟨by rw [a74 n (by omega)]; exact yb.1, fun r' x0 x1 x2 => ?_⟩
        by_cases c : r' = r
        · subst c
          rw [show y2 75 r' = k by rw [← hy2, xup_same], xup_same, a74 _ (by omega)]
          refine ⟨k2, k3, k4, rfl, fun i i0 i1 i2 => ?_, fun i i0 i1 i2 => ?_, by omega, by omega⟩
          · have ti := tk_b (k := i)
            rw [a74 _ (by omega)]
            exact k5 i i0 i1 i2
          · have ti := tk_b (k := i)
            rw [a74 _ (by omega)]
            exact k6 i i0 i1 i2
        · obtain ⟨b1, b2, b3, b4, b5, b6, b7, b8⟩ := yb.2 r' (by omega) x1 x2
          have tr := tk_b (k := y 75 r')
          rw [a75 r' c, a74 r' c, a74 _ (by omega)]
          refine ⟨b1, b2, b3, b4, fun i i0 i1 i2 => ?_, fun i i0 i1 i2 => ?_, b7, b8⟩
          · have ti := tk_b (k := i)
            rw [a74 _ (by omega)]
            exact b5 i i0 i1 i2
          · have ti := tk_b (k := i)
            rw [a74 _ (by omega)]
            exact b6 i i0 i1 i2) ⟨by dsimp only; omega, by dsimp only; omega, off_rf, by dsimp only; exact z74 n (by omega) (by omega), fun r x0 x1 x2 => by dsimp only at x0; omega⟩
  rw [e1, xc1_some]
  unfold f_Mend_choose_42 f_Mend_choose_44
  obtain ⟨g, e2, sz, g1, g2, g3, g4, g5⟩ := xloop_W (step := fun s : Int × xH => f_Mend_choose_s44 s.1 s.2) (I := fun s => ∃ i : Nat, i ≤ 12 ∧ s.1 = stn (y 75) i ∧ (i = 0 ∨ s.1 ≤ n) ∧ off [70, 76] [] y s.2 ∧ s.2 70 7 = i ∧ s.2 70 6 = n ∧ ∀ j : Nat, j < i → s.2 76 j = stn (y 75) j ∧ 0 ≤ stn (y 75) j ∧ stn (y 75) j < n) (fun s => (n + 1 - s.1).toNat)
    (post := fun g => ∃ sz : Nat, off [70, 76] [] y g ∧ (g 70 7 = sz ∧ g 70 6 = n) ∧ sz ≤ 12 ∧ (∀ i : Nat, i < sz → g 76 i = stn (y 75) i ∧ 0 ≤ stn (y 75) i ∧ stn (y 75) i < n) ∧ n ≤ stn (y 75) sz) (s := (0, y)) (by
      rintro ⟨r, g⟩ ⟨i, i12, hr, hn, go, g7, g6, gs⟩
      dsimp only at hr hn go g7 g6 gs ⊢
      have ge := stn_ge (kd := y 75) i
      unfold f_Mend_choose_s44
      rw [g7, g6]
      by_cases q : (i : Int) < 12
      · rw [if_pos q]
        by_cases a : r < n
        · left
          obtain ⟨b1, b2, b3, -⟩ := y2.2 r (by omega) (by omega) a
          have t := tk_b (k := y 75 r)
          have pk := PK_tk hp a b3
          rw [if_pos a, xgd_pos (by omega) (by omega), xlet_eq, xup_row (by decide), g7, w32_id (by omega) (by omega), xlet_eq, xgd_pos (by omega) (by omega), xup_row (o' := 75) (by decide), xup_row (o' := 75) (by decide), go.1 75 (by decide) (by decide)]
          have et : ∀ w, f_Mend_taken (y 75 r) w = some (tk (y 75 r)) := fun w => by
            unfold f_Mend_taken tk
            by_cases c : y 75 r = 2
            · rw [if_pos c, if_pos c]
            · rw [if_neg c, if_neg c]
          rw [et, xc1_some, w32_id (by omega) (by omega), xlet_eq]
          refine ⟨_, rfl, ⟨i + 1, by omega, ?_, Or.inr pk, off_w (off_tr go (off_tr (off_up (by decide)) (off_up (by decide)))) (by decide) (by decide), ?_, ?_, fun j hj => ?_⟩, by dsimp only; omega⟩
          · show r + tk (y 75 r) = stn (y 75) i + tk (y 75 (stn (y 75) i))
            rw [hr]
          · dsimp only; rw [xup_same]; omega
          · dsimp only; rw [xup_ne_j (by decide), xup_row (by decide)]; exact g6
          · dsimp only
            rw [xup_row (by decide)]
            by_cases c : j = i
            · rw [c, xup_same, ← hr]
              exact ⟨rfl, by omega, a⟩
            · rw [xup_ne_j (by omega)]
              exact gs j (by omega)
        · right
          exact ⟨g, by rw [if_neg a], i, go, ⟨g7, g6⟩, i12, gs, by omega⟩
      · right
        exact ⟨g, by rw [if_neg q], i, go, ⟨g7, g6⟩, i12, gs, by omega⟩) ⟨0, by omega, rfl, Or.inl rfl, off_rf, by dsimp only; rw [y1.1 70 (by decide) (by decide)]; exact z7, by dsimp only; rw [y1.1 70 (by decide) (by decide)]; exact z6, fun j hj => by omega⟩
  rw [e2, xc1_some]
  unfold f_Mend_choose_96
  have h74 : g 74 = y 74 := g1.1 74 (by decide) (by decide)
  have h75 : g 75 = y 75 := g1.1 75 (by decide) (by decide)
  refine ⟨sz, g, by rw [g2.1], off_w (off_tr y1 g1) (by decide) (by decide), by rw [h74, h75]; exact y2, g2.1, g2.2, g3, by rw [h75]; exact g4, by rw [h75]; exact g5⟩
