/-! MENDING: the model's words, kinds and prices -/
/-- what the model keeps while it mends -/
theorem mm_fr {m y : xH} (oy : off [97, 98, 99, 116, 124, 125, 126, 134, 135, 136, 137, 138, 139, 140, 141, 145] [22, 23, 57, 69, 70, 83, 84] m y) (hP : Pr m) (hS : So m) (W : Wd0 m) : Pr y ∧ So y ∧ Wd0 y ∧ nW y = nW m ∧ y 83 = m 83 ∧ y 84 = m 84 ∧ y 81 2 = m 81 2 ∧ y 81 13 = m 81 13 ∧ y 81 14 = m 81 14 ∧ (∀ x, 4 ≤ x → x ≤ 20 → y x = m x) := by
  have e : ∀ x, 4 ≤ x → x ≤ 20 → y x = m x := fun x a b => oy.1 x (by omega) (fun w => by simp at w; omega)
  exact ⟨Pr_off oy (by decide) hP, So_off oy (by decide) hS, Wd0_off oy (by decide) W, nW_cg (e 5 (by decide) (by decide)) (e 6 (by decide) (by decide)) (e 7 (by decide) (by decide)), oy.1 83 (by decide) (by decide), oy.1 84 (by decide) (by decide), oy.2 2 (by decide), oy.2 13 (by decide), oy.2 14 (by decide), e⟩
theorem m_word {y : xH} {n o p : Int} {f : Int → Int} (W : Wd0 y) (hn : 0 ≤ n ∧ n ≤ 12) (hp : 0 ≤ p ∧ p ≤ 1000 ∧ p + n ≤ (xN o : Int)) (e : ∀ k, 0 ≤ k → k < n → y o (p + k) = f k) (hf : ∀ k, 0 ≤ k → k < n → 0 ≤ f k ∧ f k ≤ 25) : f_Md_wordOf n o p y = some (nW y (pad n f)) := by
  obtain ⟨w, e1, hi⟩ := s_Md_wordOf W hn hp (fun k k0 k1 => by rw [e k k0 k1]; exact hf k k0 k1)
  rw [pad_ext rfl e] at hi
  rw [e1, nW_of W hi]
/-- the class's and the model's heaps speak of one text and one lexicon -/
def TX (c m : xH) : Prop := RO 25 12 c ∧ TXT c m ∧ m 81 2 = c 25 2 ∧ Pr m ∧ So m ∧ Wd m ∧ (Wt m ∧ Pr c ∧ So c ∧ Wd c ∧ Wt c) ∧ (∀ x, 4 ≤ x → x ≤ 20 → m x = c x) ∧ nW m = nW c
section
variable {c m y : xH} {b r : Int}
theorem m_isWord (hT : TX c m) (oy : off [97, 98, 99, 116, 124, 125, 126, 134, 135, 136, 137, 138, 139, 140, 141, 145] [22, 23, 57, 69, 70, 83, 84] m y) (r0 : 0 ≤ r) (r1 : r < c 25 2) : f_Md_isWord r y = some (nW c (tX c r)) := by
  obtain ⟨hR, hx, h2, hP, hS, hW, -, -, hn⟩ := hT
  obtain ⟨P1, S1, W1, en, e83, e84, -⟩ := mm_fr oy hP hS hW.1
  obtain ⟨l1, l2, l3, l4⟩ := tl_b hR r0 r1
  obtain ⟨x1, x2⟩ := hx r r0 r1
  unfold f_Md_isWord
  rw [xgd_pos r0 (by omega), e83, x1, w32_id (by omega) (by omega), m_word (f := fun k => c 26 (r * 12 + k)) W1 (by omega) (by rw [xN84]; omega) (fun k k0 k1 => by rw [e84]; exact x2 k k0 k1) l4, xc1_some, en, hn]
  rfl
theorem m_together (hT : TX c m) (oy : off [97, 98, 99, 116, 124, 125, 126, 134, 135, 136, 137, 138, 139, 140, 141, 145] [22, 23, 57, 69, 70, 83, 84] m y) (r0 : 0 ≤ r) (r1 : r + 1 < c 25 2) : (12 < c 27 r + c 27 (r + 1) → f_Md_together r y = some (-1, y)) ∧ (c 27 r + c 27 (r + 1) ≤ 12 → ∃ y', f_Md_together r y = some (nW c (catX c r), y') ∧ off [145] [] y y') := by
  obtain ⟨hR, hx, h2, hP, hS, hW, -, -, hn⟩ := hT
  obtain ⟨P1, S1, W1, en, e83, e84, -⟩ := mm_fr oy hP hS hW.1
  obtain ⟨l1, l2, l3, l4⟩ := tl_b hR r0 (show r < c 25 2 by omega)
  obtain ⟨k1, k2, -, k4⟩ := tl_b hR (show 0 ≤ r + 1 by omega) r1
  obtain ⟨x1, x2⟩ := hx r r0 (by omega)
  obtain ⟨z1, z2⟩ := hx (r + 1) (by omega) r1
  unfold f_Md_together
  rw [w32_id (z := r + 1) (by omega) (by omega), xgd_pos r0 (by omega), xgd_pos (by omega) (by omega), e83, x1, z1, w32_id (by omega) (by omega), xlet_eq]
  refine ⟨fun q => by rw [if_pos q], fun q => ?_⟩
  rw [if_neg (by omega)]
  unfold f_Md_together_26
  have s1 := xloop_T (step := fun s : Int × xH => f_Md_together_s26 r (c 27 r + c 27 (r + 1)) s.1 s.2) (fun k => ((k : Int), hLay 145 0 k (catF c r) y)) (c 27 r).toNat (s0 := (0, y)) (b := hLay 145 0 (c 27 r) (catF c r) y) (by rw [show ((0 : Nat) : Int) = 0 from rfl, hLay_0])
    (fun k hk => by
      dsimp only [f_Md_together_s26]
      have sc := hLay_succ (o := 145) (p := 0) (n := k) (f := catF c r) (h := y) (by omega)
      rw [Int.zero_add] at sc
      have ek : y 84 (12 * r + k) = catF c r k := by
        unfold catF
        rw [if_pos (by omega), e84]
        exact x2 k (by omega) (by omega)
      rw [xgd_pos r0 (by omega), hLay_row (o' := 83) (by decide), e83, x1, if_pos (by omega), w32_id (z := 12 * r) (by omega) (by omega), w32_id (z := 12 * r + (k : Int)) (by omega) (by omega), xgd_pos (by omega) (by omega), xgd_pos (by omega) (by omega), hLay_row (o' := 84) (by decide), ek, xlet_eq, w32_id (by omega) (by omega), xlet_eq, sc]
      rfl)
    (by
      dsimp only [f_Md_together_s26]
      rw [xgd_pos r0 (by omega), hLay_row (o' := 83) (by decide), e83, x1, if_neg (by omega), show (((c 27 r).toNat : Nat) : Int) = c 27 r by omega])
  rw [s1, xc1_some]
  unfold f_Md_together_59 f_Md_together_61
  have s2 := xloop_T (step := fun s : Int × xH => f_Md_together_s61 r (c 27 r + c 27 (r + 1)) s.1 s.2) (fun k => ((k : Int), hLay 145 0 (c 27 r + k) (catF c r) y)) (c 27 (r + 1)).toNat (s0 := (0, hLay 145 0 (c 27 r) (catF c r) y)) (b := hLay 145 0 (c 27 r + c 27 (r + 1)) (catF c r) y) (by rw [show c 27 r + ((0 : Nat) : Int) = c 27 r by omega]; rfl)
    (fun k hk => by
      dsimp only [f_Md_together_s61]
      have sc := hLay_succ (o := 145) (p := 0) (n := c 27 r + k) (f := catF c r) (h := y) (by omega)
      rw [Int.zero_add] at sc
      have ek : y 84 (12 * (r + 1) + k) = catF c r (c 27 r + k) := by
        unfold catF
        rw [if_neg (by omega), e84, show c 27 r + (k : Int) - c 27 r = k by omega]
        exact z2 k (by omega) (by omega)
      rw [w32_id (z := r + 1) (by omega) (by omega), xgd_pos (by omega) (by omega), hLay_row (o' := 83) (by decide), e83, z1, if_pos (by omega), xgd_pos r0 (by omega), w32_id (z := 12 * (r + 1)) (by omega) (by omega), w32_id (z := 12 * (r + 1) + (k : Int)) (by omega) (by omega), xgd_pos (by omega) (by omega), x1, w32_id (z := c 27 r + (k : Int)) (by omega) (by omega), xgd_pos (by omega) (by omega), hLay_row (o' := 84) (by decide), ek, xlet_eq, w32_id (by omega) (by omega), xlet_eq, sc, show c 27 r + (k : Int) + 1 = c 27 r + ((k + 1 : Nat) : Int) by omega]
      rfl)
    (by
      dsimp only [f_Md_together_s61]
      rw [w32_id (z := r + 1) (by omega) (by omega), xgd_pos (by omega) (by omega), hLay_row (o' := 83) (by decide), e83, z1, if_neg (by omega), show c 27 r + (((c 27 (r + 1)).toNat : Nat) : Int) = c 27 r + c 27 (r + 1) by omega])
  rw [s2, xc1_some]
  generalize hy : hLay 145 0 (c 27 r + c 27 (r + 1)) (catF c r) y = y'
  have oy' : off [145] [] y y' := by rw [← hy]; exact off_lay (by decide)
  have oy2 : off [97, 98, 99, 116, 124, 125, 126, 134, 135, 136, 137, 138, 139, 140, 141, 145] [22, 23, 57, 69, 70, 83, 84] m y' := off_w (off_tr oy oy') (by decide) (by decide)
  obtain ⟨P2, S2, W2, en2, -⟩ := mm_fr oy2 hP hS hW.1
  have x145 : (xN 145 : Int) = 24 := rfl
  unfold f_Md_together_105
  rw [m_word (y := y') (f := catF c r) W2 (by omega) (by rw [x145]; omega) (fun k k0 k1 => by rw [← hy, hLay_in (by omega) (by omega), show 0 + k - 0 = k by omega]) (fun k k0 k1 => by
    unfold catF
    by_cases x : k < c 27 r
    · rw [if_pos x]; exact l4 k k0 x
    · rw [if_neg x]; exact k4 _ (by omega) (by omega)), xc1_some, en2, hn]
  exact ⟨y', rfl, oy'⟩
/-- two parts of a row are words of the model's -/
theorem m_cuts (hT : TX c m) (oy : off [97, 98, 99, 116, 124, 125, 126, 134, 135, 136, 137, 138, 139, 140, 141, 145] [22, 23, 57, 69, 70, 83, 84] m y) (r0 : 0 ≤ r) (r1 : r < c 25 2) {j : Int} (j1 : 1 ≤ j) (j2 : j < c 27 r) : f_Md_wordOf j 84 (12 * r) y = some (nW c (cutA c r j)) ∧ f_Md_wordOf (c 27 r - j) 84 (12 * r + j) y = some (nW c (cutB c r j)) := by
  obtain ⟨hR, hx, h2, hP, hS, hW, -, -, hn⟩ := hT
  obtain ⟨P1, S1, W1, en, e83, e84, -⟩ := mm_fr oy hP hS hW.1
  obtain ⟨l1, l2, l3, l4⟩ := tl_b hR r0 r1
  obtain ⟨x1, x2⟩ := hx r r0 r1
  constructor
  · rw [m_word (f := fun k => c 26 (r * 12 + k)) W1 (by omega) (by rw [xN84]; omega) (fun k k0 k1 => by rw [e84]; exact x2 k k0 (by omega)) (fun k k0 k1 => l4 k k0 (by omega)), en, hn]
    rfl
  · rw [m_word (f := fun k => c 26 (r * 12 + (j + k))) W1 (by omega) (by rw [xN84]; omega) (fun k k0 k1 => by rw [e84, show 12 * r + j + k = 12 * r + (j + k) by omega]; exact x2 (j + k) (by omega) (by omega)) (fun k k0 k1 => l4 _ (by omega) (by omega)), en, hn]
    rfl
theorem m_parting (hT : TX c m) (oy : off [97, 98, 99, 116, 124, 125, 126, 134, 135, 136, 137, 138, 139, 140, 141, 145] [22, 23, 57, 69, 70, 83, 84] m y) (r0 : 0 ≤ r) (r1 : r < c 25 2) : f_Md_parting r y = some (jn c r) ∧ isJ c r (jn c r) := by
  obtain ⟨hR, hx, h2, hP, hS, hW, -, -, hn⟩ := id hT
  obtain ⟨P1, S1, W1, en, e83, e84, -⟩ := mm_fr oy hP hS hW.1
  obtain ⟨l1, l2, l3, l4⟩ := tl_b hR r0 r1
  obtain ⟨x1, x2⟩ := hx r r0 r1
  unfold f_Md_parting f_Md_parting_2
  obtain ⟨q, e, hq⟩ := xloop_W (step := fun s : Int => f_Md_parting_s2 r s y) (I := fun j => 1 ≤ j ∧ j ≤ c 27 r ∧ ∀ i, 1 ≤ i → i < j → ¬ okCut c r i) (fun j => (c 27 r - j).toNat)
    (post := fun q => q = Sum.inl () ∧ isJ c r (-1) ∨ ∃ j, q = Sum.inr j ∧ isJ c r j) (s := 1) (by
      intro j ⟨j1, j2, jn'⟩
      dsimp only [f_Md_parting_s2]
      rw [xgd_pos r0 (by omega), e83, x1]
      by_cases q : j < c 27 r
      · obtain ⟨w1, w2⟩ := m_cuts hT oy r0 r1 j1 q
        have e57 : f_Md_parting_57 r j y = some (Sum.inl (j + 1)) := by
          unfold f_Md_parting_57
          rw [w32_id (by omega) (by omega), xlet_eq]
        have nxt : ¬ okCut c r j → (1 ≤ j + 1 ∧ j + 1 ≤ c 27 r ∧ ∀ i, 1 ≤ i → i < j + 1 → ¬ okCut c r i) := fun x => ⟨by omega, by omega, fun i i0 i1 => by
          by_cases w : i = j
          · rw [w]; exact x
          · exact jn' i i0 (by omega)⟩
        rw [if_pos q, w32_id (z := 12 * r) (by omega) (by omega), w1, xc1_some, xgd_pos r0 (by omega), w32_id (z := c 27 r - j) (by omega) (by omega), w32_id (z := 12 * r + j) (by omega) (by omega), w2, xc1_some, e57]
        by_cases a : nW c (cutA c r j) = -1
        · left
          exact ⟨j + 1, by rw [if_pos a], nxt (fun x => x.1 a), by omega⟩
        · rw [if_neg a]
          by_cases d : nW c (cutB c r j) = -1
          · left
            exact ⟨j + 1, by rw [if_pos d], nxt (fun x => x.2 d), by omega⟩
          · right
            exact ⟨Sum.inr j, by rw [if_neg d], Or.inr ⟨j, rfl, Or.inl ⟨j1, q, ⟨a, d⟩, jn'⟩⟩⟩
      · right
        exact ⟨Sum.inl (), by rw [if_neg q], Or.inl ⟨rfl, Or.inr ⟨rfl, fun i i0 i1 => jn' i i0 (by omega)⟩⟩⟩) ⟨by omega, l1, fun i i0 i1 => by omega⟩
  rw [e, xc1_some]
  rcases hq with ⟨rfl, hj⟩ | ⟨j, rfl, hj⟩
  · rw [xsw_l, jn_of hj]
    exact ⟨rfl, hj⟩
  · rw [xsw_r, jn_of hj]
    exact ⟨rfl, hj⟩
/-- the nearest words, as the model holds them -/
def M140 (c y : xH) (b r : Int) : Prop := (y 140 r = -1 ↔ ¬ (nW c (tX c r) = -1 ∧ 0 < (ffl c b r).2)) ∧ (nW c (tX c r) = -1 → 0 < (ffl c b r).2 → y 140 r = (ffl c b r).1 0 ∧ y 141 r = DW c (tX c r) (c 27 r) 0 ((ffl c b r).1 0))
theorem pa_0 {s0 : Int} : f_Md_partAt_14 0 r b s0 y = if s0 = 0 then some (1000000, y) else some (0, y) := by
  unfold f_Md_partAt_14
  rw [if_pos rfl]
theorem pa_1 {s0 : Int} : f_Md_partAt_14 1 r b s0 y = if s0 = 0 then (xgd r 12 (if y 140 r = (-1) then (some (1000000, y)) else (xgd r 12 (some (y 141 r, y))))) else some (1000000, y) := by
  unfold f_Md_partAt_14
  rw [if_neg (show ¬ ((1 : Int) = 0) by decide), if_pos rfl]
theorem pa_2 {s0 : Int} : f_Md_partAt_14 2 r b s0 y = if w32 (r + 1) < y 81 2 then (if s0 = 0 then (f_Md_partAt_115 r y) else (xc1 (f_Md_isWord (w32 (r + 1)) y) (fun r1 => if r1 = (-1) then (f_Md_partAt_115 r y) else (some (1000000, y))))) else some (1000000, y) := by
  unfold f_Md_partAt_14
  rw [if_neg (show ¬ ((2 : Int) = 0) by decide), if_neg (show ¬ ((2 : Int) = 1) by decide), if_pos rfl]
theorem pa_3 {s0 : Int} : f_Md_partAt_14 3 r b s0 y = if s0 = 0 then (xc1 (f_Md_parting r y) (fun r2 => if r2 = (-1) then (some (1000000, y)) else (some (y 81 14, y)))) else some (1000000, y) := by
  unfold f_Md_partAt_14
  rw [if_neg (show ¬ ((3 : Int) = 0) by decide), if_neg (show ¬ ((3 : Int) = 1) by decide), if_neg (show ¬ ((3 : Int) = 2) by decide), if_pos rfl]
theorem pa_4 {s0 : Int} : f_Md_partAt_14 4 r b s0 y = if s0 = 0 then (some (w32 (b + 1), y)) else some (1000000, y) := by
  unfold f_Md_partAt_14
  rw [if_neg (show ¬ ((4 : Int) = 0) by decide), if_neg (show ¬ ((4 : Int) = 1) by decide), if_neg (show ¬ ((4 : Int) = 2) by decide), if_neg (show ¬ ((4 : Int) = 3) by decide)]
theorem m_partAt {k : Int} (hT : TX c m) (oy : off [97, 98, 99, 116, 124, 125, 126, 134, 135, 136, 137, 138, 139, 140, 141, 145] [22, 23, 57, 69, 70, 83, 84] m y) (k0 : 0 ≤ k) (k1 : k < 5) (r0 : 0 ≤ r) (r1 : r < c 25 2) (hM : M140 c y b r) (b0 : 0 ≤ b) (b1 : b ≤ 99999) : ∃ y', f_Md_partAt k r b y = some (fr (MP c b k r), y') ∧ off [145] [] y y' := by
  obtain ⟨hR, hx, h2, hP, hS, hW, ⟨-, hPc, hSc, hWc, -⟩, e20, hn⟩ := id hT
  obtain ⟨P1, S1, W1, en, e83, e84, e2, e13, e14, -⟩ := mm_fr oy hP hS hW.1
  obtain ⟨l1, l2, l3, l4⟩ := tl_b hR r0 r1
  have p13 : y 81 13 = c 10 8 := by rw [e13, hP.2.1.1, e20 10 (by decide) (by decide)]
  have p14 : y 81 14 = c 10 9 := by rw [e14, hP.2.2.1.1, e20 10 (by decide) (by decide)]
  have q13 := hP.2.1.2
  have q14 := hP.2.2.1.2
  rw [e20 10 (by decide) (by decide)] at q13 q14
  unfold f_Md_partAt
  rw [m_isWord hT oy r0 r1, xc1_some]
  have kk : k = 0 ∨ k = 1 ∨ k = 2 ∨ k = 3 ∨ k = 4 := by omega
  rcases kk with rfl | rfl | rfl | rfl | rfl
  · rw [pa_0, pa_0, MP_0]
    by_cases a : nW c (tX c r) = -1
    · rw [if_pos a, if_pos rfl, if_pos a, fr_n]
      exact ⟨y, rfl, off_rf⟩
    · rw [if_neg a, if_neg (show ¬ ((1 : Int) = 0) by decide), if_neg a, fr_p (by decide)]
      exact ⟨y, rfl, off_rf⟩
  · rw [pa_1, pa_1, MP_1]
    by_cases a : nW c (tX c r) = -1
    · rw [if_pos a, if_pos rfl, xgd_pos r0 (by omega), xgd_pos r0 (by omega), if_pos a]
      by_cases d : 0 < (ffl c b r).2
      · obtain ⟨u1, u2⟩ := hM.2 a d
        have nn : ¬ y 140 r = -1 := fun z => (hM.1.1 z) ⟨a, d⟩
        rw [if_neg nn, if_pos d, u2]
        have hq : LR (c 27 r) (tX c r) := ⟨by omega, l2, fun k => c 26 (r * 12 + k), rfl, l4⟩
        have F := fl_ok (C := c 8) (D := DW c (tX c r) (c 27 r) 0) (S := SW c) (b := b) (c 5 2).toNat
        have eff : fl (c 8) (DW c (tX c r) (c 27 r) 0) (SW c) b (c 5 2).toNat = ffl c b r := rfl
        rw [eff] at F
        have fa := F.2.2.1 0 (by omega) d
        have := DW_b (md := 0) (w := (ffl c b r).1 0) (h := c) (q := tX c r) (m := c 27 r) hPc hSc hWc.1 hq fa.1 (by omega)
        rw [fr_p this.1]
        exact ⟨y, rfl, off_rf⟩
      · have nn : y 140 r = -1 := hM.1.2 (fun z => d z.2)
        rw [if_pos nn, if_neg d, fr_n]
        exact ⟨y, rfl, off_rf⟩
    · rw [if_neg a, if_neg (show ¬ ((1 : Int) = 0) by decide), if_neg a, fr_n]
      exact ⟨y, rfl, off_rf⟩
  · rw [pa_2, pa_2, w32_id (z := r + 1) (by omega) (by omega), e2, h2]
    by_cases q1 : r + 1 < c 25 2
    · rw [if_pos q1, if_pos q1]
      obtain ⟨t1, t2⟩ := m_together hT oy r0 q1
      have body : ¬ (nW c (tX c r) ≠ -1 ∧ nW c (tX c (r + 1)) ≠ -1) → ∃ y', f_Md_partAt_115 r y = some (fr (MP c b 2 r), y') ∧ off [145] [] y y' := by
        intro q2
        unfold f_Md_partAt_115
        by_cases q3 : c 27 r + c 27 (r + 1) ≤ 12
        · obtain ⟨y', u1, u2⟩ := t2 q3
          rw [u1, xc2_some]
          by_cases q4 : nW c (catX c r) = -1
          · rw [if_pos q4, MP_2, if_neg (fun x => x.2.2.2 q4), fr_n]
            exact ⟨y', rfl, u2⟩
          · rw [if_neg q4, MP_2, if_pos ⟨q1, q2, q3, q4⟩, fr_p (by omega), u2.2 13 (by decide), p13]
            exact ⟨y', rfl, u2⟩
        · rw [t1 (by omega), xc2_some, if_pos rfl, MP_2, if_neg (fun x => q3 x.2.2.1), fr_n]
          exact ⟨y, rfl, off_rf⟩
      by_cases a : nW c (tX c r) = -1
      · rw [if_pos a, if_pos rfl]
        exact body (fun x => x.1 a)
      · rw [if_neg a, if_neg (show ¬ ((1 : Int) = 0) by decide), m_isWord hT oy (by omega) q1, xc1_some]
        by_cases d : nW c (tX c (r + 1)) = -1
        · rw [if_pos d]
          exact body (fun x => x.2 d)
        · rw [if_neg d, MP_2, if_neg (fun x => x.2.1 ⟨a, d⟩), fr_n]
          exact ⟨y, rfl, off_rf⟩
    · have e : MP c b 2 r = -1 := by rw [MP_2, if_neg (fun x => q1 x.1)]
      rw [if_neg q1, if_neg q1, e, fr_n]
      exact ⟨y, by split <;> rfl, off_rf⟩
  · rw [pa_3, pa_3]
    obtain ⟨t1, t2⟩ := m_parting hT oy r0 r1
    by_cases a : nW c (tX c r) = -1
    · rw [if_pos a, if_pos rfl, t1, xc1_some, MP_3, if_pos a]
      by_cases d : jn c r = -1
      · rw [if_pos d, if_pos d, fr_n]
        exact ⟨y, rfl, off_rf⟩
      · rw [if_neg d, if_neg d, fr_p (by omega), p14]
        exact ⟨y, rfl, off_rf⟩
    · rw [if_neg a, if_neg (show ¬ ((1 : Int) = 0) by decide), MP_3, if_neg a, fr_n]
      exact ⟨y, rfl, off_rf⟩
  · rw [pa_4, pa_4, w32_id (by omega) (by omega), MP_4]
    by_cases a : nW c (tX c r) = -1
    · rw [if_pos a, if_pos rfl, if_pos a, fr_p (by omega)]
      exact ⟨y, rfl, off_rf⟩
    · rw [if_neg a, if_neg (show ¬ ((1 : Int) = 0) by decide), if_neg a, fr_n]
      exact ⟨y, rfl, off_rf⟩
end
