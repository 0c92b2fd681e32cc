/-! MENDING: the model's parts -/
section
variable {c m : xH} {b : Int}
/-- one part of the mending is written down -/
theorem m_part1 {w : xH} {k r i : Int} (hT : TX c m) (b0 : 0 ≤ b) (b1 : b ≤ 99999) (ow : off [97, 98, 99, 116, 124, 125, 126, 134, 135, 136, 137, 138, 139, 140, 141, 145] [22, 23, 57, 69, 70, 83, 84] m w) (hM : M140 c w b r) (k0 : 0 ≤ k) (k1 : k < 5) (r0 : 0 ≤ r) (r1 : r < c 25 2) (hk : MP c b k r ≠ -1) (hi : w 81 69 = i) (i0 : 0 ≤ i) (i1 : i < 12) :
    ∃ g, f_Md_mend_302 b r k (MP c b k r) w = some (Sum.inl (r + tk k, g)) ∧ off [134, 135, 136, 137, 138, 145] [69] w g ∧ g 81 69 = i + 1 ∧ (g 134 i = k ∧ g 135 i = MP c b k r ∧ g 136 i = MF c b k r ∧ g 137 i = MS c k r ∧ g 138 i = tk k) ∧ ∀ j, j ≠ i → g 134 j = w 134 j ∧ g 135 j = w 135 j ∧ g 136 j = w 136 j ∧ g 137 j = w 137 j ∧ g 138 j = w 138 j := by
  obtain ⟨hR, hx, h2, hP, hS, hW, ⟨hWt, hPc, hSc, hWc, hWtc⟩, e20, hn⟩ := id hT
  obtain ⟨l1, l2, l3, l4⟩ := tl_b hR r0 r1
  have n12 := hR.2.2.2.2.1
  have t := tk_b (k := k)
  unfold f_Md_mend_302
  rw [hi, xgd_pos i0 i1, xlet_eq, xup_row (o' := 81) (by decide), hi, xgd_pos i0 i1, xlet_eq, xup_row (o' := 81) (by decide), xup_row (o' := 81) (by decide), hi, xgd_pos i0 i1, xlet_eq, xup_row (o' := 81) (by decide), xup_row (o' := 81) (by decide), xup_row (o' := 81) (by decide), hi]
  generalize hw1 : xup (xup (xup w 134 i k) 135 i (MP c b k r)) 137 i (-1) = w1
  have o1 : off [134, 135, 137] [] w w1 := by rw [← hw1]; exact off_w (off_tr (off_up (by decide)) (off_tr (off_up (by decide)) (off_up (by decide)))) (by decide) (by decide)
  have a353 : (if k = 2 then (f_Md_mend_353 b r k i 2 w1) else (f_Md_mend_353 b r k i 1 w1)) = f_Md_mend_353 b r k i (tk k) w1 := by
    unfold tk
    by_cases x : k = 2
    · rw [if_pos x, if_pos x]
    · rw [if_neg x, if_neg x]
  rw [a353]
  unfold f_Md_mend_353
  rw [xgd_pos i0 i1, xlet_eq]
  generalize hw2 : xup w1 138 i (tk k) = w2
  have o2 : off [134, 135, 137, 138] [] w w2 := by rw [← hw2]; exact off_w (off_tr o1 (off_up (by decide))) (by decide) (by decide)
  have ow2 : off [97, 98, 99, 116, 124, 125, 126, 134, 135, 136, 137, 138, 139, 140, 141, 145] [22, 23, 57, 69, 70, 83, 84] m w2 := off_w (off_tr ow o2) (by decide) (by decide)
  have v134 : w2 134 i = k := by rw [← hw2, xup_row (by decide), ← hw1, xup_row (by decide), xup_row (by decide), xup_same]
  have v135 : w2 135 i = MP c b k r := by rw [← hw2, xup_row (by decide), ← hw1, xup_row (by decide), xup_same]
  have v137 : w2 137 i = -1 := by rw [← hw2, xup_row (by decide), ← hw1, xup_same]
  have v138 : w2 138 i = tk k := by rw [← hw2, xup_same]
  have vj : ∀ j, j ≠ i → ∀ o, w2 o j = w o j := fun j hj o => by rw [← hw2, xup_nk hj, ← hw1, xup_nk hj, xup_nk hj, xup_nk hj]
  have v69 : w2 81 69 = i := by rw [o2.2 69 (by decide)]; exact hi
  -- the end: a first word is written, and how far the part goes
  have fin : ∀ (w3 : xH) (f s : Int), off [137, 145] [] w2 w3 → (∀ j, j ≠ i → w3 137 j = w2 137 j) → w3 137 i = s → f = MF c b k r → s = MS c k r → ∃ g, f_Md_mend_485 b r (xup w3 136 i f) = some (Sum.inl (r + tk k, g)) ∧ off [134, 135, 136, 137, 138, 145] [69] w g ∧ g 81 69 = i + 1 ∧ (g 134 i = k ∧ g 135 i = MP c b k r ∧ g 136 i = MF c b k r ∧ g 137 i = MS c k r ∧ g 138 i = tk k) ∧ ∀ j, j ≠ i → g 134 j = w 134 j ∧ g 135 j = w 135 j ∧ g 136 j = w 136 j ∧ g 137 j = w 137 j ∧ g 138 j = w 138 j := by
    intro w3 f s o3 j3 s3 hf hs
    unfold f_Md_mend_485
    rw [xup_row (o' := 81) (by decide), o3.2 69 (by decide), v69, xgd_pos i0 i1, xup_row (o' := 138) (by decide), o3.1 138 (by decide) (by decide), v138, w32_id (by omega) (by omega), xlet_eq, w32_id (by omega) (by omega), xlet_eq]
    refine ⟨_, rfl, off_w (off_tr o2 (off_tr o3 (off_tr (off_up (by decide)) off_um))) (by decide) (by decide), xup_same, ⟨?_, ?_, ?_, ?_, ?_⟩, fun j hj => ⟨?_, ?_, ?_, ?_, ?_⟩⟩
    · rw [xup_row (by decide), xup_row (by decide), o3.1 134 (by decide) (by decide)]; exact v134
    · rw [xup_row (by decide), xup_row (by decide), o3.1 135 (by decide) (by decide)]; exact v135
    · rw [xup_row (by decide), xup_same]; exact hf
    · rw [xup_row (by decide), xup_row (by decide), s3]; exact hs
    · rw [xup_row (by decide), xup_row (by decide), o3.1 138 (by decide) (by decide)]; exact v138
    · rw [xup_row (by decide), xup_row (by decide), o3.1 134 (by decide) (by decide)]; exact vj j hj 134
    · rw [xup_row (by decide), xup_row (by decide), o3.1 135 (by decide) (by decide)]; exact vj j hj 135
    · rw [xup_row (by decide), xup_ne_j hj, o3.1 136 (by decide) (by decide)]; exact vj j hj 136
    · rw [xup_row (by decide), xup_row (by decide), j3 j hj]; exact vj j hj 137
    · rw [xup_row (by decide), xup_row (by decide), o3.1 138 (by decide) (by decide)]; exact vj j hj 138
  have n445 : ∀ (s0 f : Int) (w3 : xH), k ≠ 3 → f_Md_mend_445 b r k s0 i f w3 = f_Md_mend_485 b r (xup w3 136 i f) := fun s0 f w3 hk3 => by
    unfold f_Md_mend_445
    rw [xgd_pos i0 i1, xlet_eq, if_neg hk3]
  have kk : k = 0 ∨ k = 1 ∨ k = 2 ∨ k = 3 ∨ k = 4 := by omega
  rcases kk with rfl | rfl | rfl | rfl | rfl
  · rw [if_neg (by decide)]
    unfold f_Md_mend_369
    rw [if_pos rfl, m_isWord hT ow2 r0 r1, xc1_some, v69, n445 _ _ _ (by decide)]
    exact fin w2 _ _ off_rf (fun _ _ => rfl) v137 (by rw [MF_0]) (by rw [MS_n (by decide)])
  · rw [if_neg (by decide)]
    unfold f_Md_mend_369
    have aa : nW c (tX c r) = -1 ∧ 0 < (ffl c b r).2 := by
      rw [MP_1] at hk
      by_cases a : nW c (tX c r) = -1
      · rw [if_pos a] at hk
        by_cases d : 0 < (ffl c b r).2
        · exact ⟨a, d⟩
        · rw [if_neg d] at hk; exact absurd rfl hk
      · rw [if_neg a] at hk; exact absurd rfl hk
    rw [if_neg (by decide), if_pos rfl, xgd_pos r0 (by omega), v69, o2.1 140 (by decide) (by decide), (hM.2 aa.1 aa.2).1, n445 _ _ _ (by decide)]
    exact fin w2 _ _ off_rf (fun _ _ => rfl) v137 (by rw [MF_1]) (by rw [MS_n (by decide)])
  · rw [if_neg (by decide)]
    unfold f_Md_mend_369
    have aa : r + 1 < c 25 2 ∧ ¬ (nW c (tX c r) ≠ -1 ∧ nW c (tX c (r + 1)) ≠ -1) ∧ c 27 r + c 27 (r + 1) ≤ 12 ∧ nW c (catX c r) ≠ -1 := by
      by_cases z : r + 1 < c 25 2 ∧ ¬ (nW c (tX c r) ≠ -1 ∧ nW c (tX c (r + 1)) ≠ -1) ∧ c 27 r + c 27 (r + 1) ≤ 12 ∧ nW c (catX c r) ≠ -1
      · exact z
      · rw [MP_2, if_neg z] at hk
        exact absurd rfl hk
    obtain ⟨w3, u1, u2⟩ := (m_together hT ow2 r0 aa.1).2 aa.2.2.1
    rw [if_neg (by decide), if_neg (by decide), if_pos rfl, u1, xc2_some, v69, n445 _ _ _ (by decide)]
    exact fin w3 (nW c (catX c r)) (-1) (off_w u2 (by decide) (by decide)) (fun j _ => by rw [u2.1 137 (by decide) (by decide)]) (by rw [u2.1 137 (by decide) (by decide)]; exact v137) (by rw [MF_2]) (by rw [MS_n (by decide)])
  · rw [if_pos rfl]
    obtain ⟨t1, t2⟩ := m_parting hT ow2 r0 r1
    have aa : jn c r ≠ -1 := fun d => by
      rw [MP_3, if_pos d] at hk
      split at hk <;> exact absurd rfl hk
    have jj : 1 ≤ jn c r ∧ jn c r < c 27 r := by
      rcases t2 with ⟨x1, x2, -⟩ | ⟨x1, -⟩
      · exact ⟨x1, x2⟩
      · exact absurd x1 aa
    obtain ⟨c1, c2⟩ := m_cuts hT ow2 r0 r1 jj.1 jj.2
    rw [t1, xc1_some]
    unfold f_Md_mend_369
    rw [if_neg (by decide), if_neg (by decide), if_neg (by decide), if_pos rfl, w32_id (z := 12 * r) (by omega) (by omega), c1, xc1_some, v69]
    unfold f_Md_mend_445
    rw [xgd_pos i0 i1, xlet_eq, if_pos rfl, xgd_pos r0 (by omega)]
    generalize hw3 : xup w2 136 i (nW c (cutA c r (jn c r))) = w3
    have o3 : off [136] [] w2 w3 := by rw [← hw3]; exact off_up (by decide)
    have ow3 : off [97, 98, 99, 116, 124, 125, 126, 134, 135, 136, 137, 138, 139, 140, 141, 145] [22, 23, 57, 69, 70, 83, 84] m w3 := off_w (off_tr ow2 o3) (by decide) (by decide)
    obtain ⟨d1, d2⟩ := m_cuts hT ow3 r0 r1 jj.1 jj.2
    have e83 : w3 83 r = c 27 r := by rw [ow3.1 83 (by decide) (by decide)]; exact (hx r r0 r1).1
    rw [e83, w32_id (z := c 27 r - jn c r) (by omega) (by omega), w32_id (z := 12 * r) (by omega) (by omega), w32_id (z := 12 * r + jn c r) (by omega) (by omega), d2, xc1_some, o3.2 69 (by decide), v69, xgd_pos i0 i1, xlet_eq, ← hw3, xup_comm (Or.inl (by decide))]
    exact fin (xup w2 137 i (nW c (cutB c r (jn c r)))) _ _ (off_w (off_up (by decide)) (by decide) (by decide)) (fun j hj => by rw [xup_ne_j hj]) xup_same (by rw [MF_3]) (by rw [MS_3])
  · rw [if_neg (by decide)]
    unfold f_Md_mend_369
    rw [if_neg (by decide), if_neg (by decide), if_neg (by decide), if_neg (by decide), v69, n445 _ _ _ (by decide)]
    exact fin w2 _ _ off_rf (fun _ _ => rfl) v137 (by rw [MF_4]) (by rw [MS_n (by decide)])
/-- all the parts -/
theorem m_parts {y : xH} {s kd : Int → Int} (hT : TX c m) (b0 : 0 ≤ b) (b1 : b ≤ 99999) (oy : off [97, 98, 99, 116, 124, 125, 126, 139, 140, 141, 145] [22, 23, 57, 69, 70, 83, 84] m y) (hM : ∀ r, 0 ≤ r → r < c 25 2 → M140 c y b r) (hs : BST (c 25 2) (MP c b) s kd 0) (hu : ∀ r, 0 ≤ r → r ≤ c 25 2 → y 139 r = s r) (y69 : y 81 69 = 0) :
    ∃ (sz : Nat) (g : xH), xloop (fun s : Int × xH => f_Md_mend_s228 b s.1 s.2) (0, y) = some g ∧ off [134, 135, 136, 137, 138, 145] [69] y g ∧ g 81 69 = sz ∧ sz ≤ 12 ∧ (∀ j : Nat, j < sz → stn kd j < c 25 2 ∧ g 134 j = kd (stn kd j) ∧ g 135 j = MP c b (kd (stn kd j)) (stn kd j) ∧ g 136 j = MF c b (kd (stn kd j)) (stn kd j) ∧ g 137 j = MS c (kd (stn kd j)) (stn kd j) ∧ g 138 j = tk (kd (stn kd j))) ∧ c 25 2 ≤ stn kd sz := by
  obtain ⟨hR, hx, h2, hP, hS, hW, ⟨hWt, hPc, hSc, hWc, hWtc⟩, e20, hn⟩ := id hT
  have n12 := hR.2.2.2.2.1
  have n0 := hR.2.2.2.1
  have hp := PK_MP (b := b) hT b0 b1
  obtain ⟨p1, p2, p3, p4, p5⟩ := id hp
  obtain ⟨g, e, sz, g1, g2, g3, g4, g5⟩ := xloop_W (step := fun s : Int × xH => f_Md_mend_s228 b s.1 s.2) (I := fun q => ∃ i : Nat, q.1 = stn kd i ∧ (i = 0 ∨ q.1 ≤ c 25 2) ∧ off [134, 135, 136, 137, 138, 145] [69] y q.2 ∧ q.2 81 69 = i ∧ i ≤ 12 ∧ ∀ j : Nat, j < i → stn kd j < c 25 2 ∧ q.2 134 j = kd (stn kd j) ∧ q.2 135 j = MP c b (kd (stn kd j)) (stn kd j) ∧ q.2 136 j = MF c b (kd (stn kd j)) (stn kd j) ∧ q.2 137 j = MS c (kd (stn kd j)) (stn kd j) ∧ q.2 138 j = tk (kd (stn kd j))) (fun q => (c 25 2 + 1 - q.1).toNat)
    (post := fun g => ∃ sz : Nat, off [134, 135, 136, 137, 138, 145] [69] y g ∧ g 81 69 = sz ∧ sz ≤ 12 ∧ (∀ j : Nat, j < sz → stn kd j < c 25 2 ∧ g 134 j = kd (stn kd j) ∧ g 135 j = MP c b (kd (stn kd j)) (stn kd j) ∧ g 136 j = MF c b (kd (stn kd j)) (stn kd j) ∧ g 137 j = MS c (kd (stn kd j)) (stn kd j) ∧ g 138 j = tk (kd (stn kd j))) ∧ c 25 2 ≤ stn kd sz) (s := (0, y)) (by
      rintro ⟨r, z⟩ ⟨i, hr, hle, zo, z69, i12, zj⟩
      dsimp only at hr hle zo z69 zj ⊢
      have ge := stn_ge (kd := kd) i
      unfold f_Md_mend_s228
      rw [zo.2 2 (by decide), oy.2 2 (by decide), h2]
      by_cases q : r < c 25 2
      · left
        have r0 : 0 ≤ r := by omega
        obtain ⟨d1, d2, d3, d4, d5, d6, d7, d8⟩ := hs.2 r r0 r0 q
        have oz : off [97, 98, 99, 116, 124, 125, 126, 134, 135, 136, 137, 138, 139, 140, 141, 145] [22, 23, 57, 69, 70, 83, 84] m z := off_w (off_tr oy zo) (by decide) (by decide)
        have mw : ∀ w : xH, off [145] [] z w → M140 c w b r := fun w ho => by
          have := hM r r0 q
          have e140 : w 140 = y 140 := by rw [ho.1 140 (by decide) (by decide), zo.1 140 (by decide) (by decide)]
          have e141 : w 141 = y 141 := by rw [ho.1 141 (by decide) (by decide), zo.1 141 (by decide) (by decide)]
          unfold M140 at this ⊢
          rw [e140, e141]
          exact this
        obtain ⟨w0, u1, u2⟩ := m_partAt (b := b) hT oz (k := 0) (by decide) (by decide) r0 q (mw z off_rf) b0 b1
        rw [if_pos q, u1, xc2_some]
        unfold f_Md_mend_248
        obtain ⟨⟨k, v, w⟩, ew, w1, w2, w3⟩ := xloop_W (step := fun s : Int × Int × xH => f_Md_mend_s248 b r s.1 s.2.1 s.2.2) (I := fun q => 0 ≤ q.1 ∧ q.1 ≤ kd r ∧ q.2.1 = fr (MP c b q.1 r) ∧ off [145] [] z q.2.2) (fun q => (kd r - q.1).toNat)
          (post := fun q => q.1 = kd r ∧ q.2.1 = MP c b (kd r) r ∧ off [145] [] z q.2.2) (s := (0, fr (MP c b 0 r), w0)) (by
            rintro ⟨k, v, w⟩ ⟨x0, x1, x2, wo⟩
            dsimp only at x0 x1 x2 wo ⊢
            subst x2
            have ow : off [97, 98, 99, 116, 124, 125, 126, 134, 135, 136, 137, 138, 139, 140, 141, 145] [22, 23, 57, 69, 70, 83, 84] m w := off_w (off_tr oz wo) (by decide) (by decide)
            have w139 : ∀ j, 0 ≤ j → j ≤ c 25 2 → w 139 j = s j := fun j j0 j1 => by rw [wo.1 139 (by decide) (by decide), zo.1 139 (by decide) (by decide)]; exact hu j j0 j1
            have next : k < kd r → ∃ s', f_Md_mend_286 b r k w = some (Sum.inl s') ∧ (0 ≤ s'.1 ∧ s'.1 ≤ kd r ∧ s'.2.1 = fr (MP c b s'.1 r) ∧ off [145] [] z s'.2.2) ∧ (kd r - s'.1).toNat < (kd r - k).toNat := fun hk => by
              obtain ⟨w', u1, u2⟩ := m_partAt (b := b) hT ow (k := k + 1) (by omega) (by omega) r0 q (mw w wo) b0 b1
              unfold f_Md_mend_286
              rw [w32_id (by omega) (by omega), xlet_eq, u1, xc2_some]
              exact ⟨_, rfl, ⟨by dsimp only; omega, by dsimp only; omega, rfl, off_w (off_tr wo u2) (by decide) (by decide)⟩, by dsimp only; omega⟩
            unfold f_Md_mend_s248
            by_cases a : MP c b k r = -1
            · left
              have hk : k < kd r := by
                by_cases x : k = kd r
                · rw [x] at a; exact absurd a d3
                · omega
              rw [a, fr_n, if_neg (by decide)]
              exact next hk
            · have t := tk_b (k := k)
              have pk := PK_tk hp q a
              have pb := p5 k r x0 (by omega) r0 q a
              have sb := BST_b hs (j := r + tk k) (by omega) (by omega) pk
              have t274 : ∀ s3, s3 = tk k → f_Md_mend_274 b r k (MP c b k r) (MP c b k r) r s3 w = if MP c b k r + s (r + tk k) = s r then some (Sum.inr (k, MP c b k r, w)) else f_Md_mend_286 b r k w := fun s3 h3 => by
                subst h3
                unfold f_Md_mend_274
                rw [w32_id (z := r + tk k) (by omega) (by omega), xgd_pos (by omega) (by omega), xgd_pos r0 (by omega), w139 (r + tk k) (by omega) pk, w139 r r0 (by omega), w32_id (by omega) (by omega)]
              have both : (if k = 2 then (f_Md_mend_274 b r k (MP c b k r) (MP c b k r) r 2 w) else (f_Md_mend_274 b r k (MP c b k r) (MP c b k r) r 1 w)) = if MP c b k r + s (r + tk k) = s r then some (Sum.inr (k, MP c b k r, w)) else f_Md_mend_286 b r k w := by
                by_cases x : k = 2
                · rw [if_pos x]; exact t274 2 (by unfold tk; rw [if_pos x])
                · rw [if_neg x]; exact t274 1 (by unfold tk; rw [if_neg x])
              rw [fr_p (by omega), if_pos (by omega), both]
              by_cases x : k = kd r
              · right
                refine ⟨(k, MP c b k r, w), by rw [if_pos (by rw [x]; omega)], x, by dsimp only; rw [x], wo⟩
              · left
                have := d6 k x0 (by omega) a
                rw [if_neg (by omega)]
                exact next (by omega)) ⟨Int.le_refl _, d1, rfl, u2⟩
        dsimp only at w1 w2 w3
        subst w1 w2
        rw [ew, xc1_some]
        dsimp only
        have ow : off [97, 98, 99, 116, 124, 125, 126, 134, 135, 136, 137, 138, 139, 140, 141, 145] [22, 23, 57, 69, 70, 83, 84] m w := off_w (off_tr oz w3) (by decide) (by decide)
        obtain ⟨g, v1, v2, v3, v4, v5⟩ := m_part1 (b := b) (i := (i : Int)) hT b0 b1 ow (mw w w3) d1 d2 r0 q d3 (by rw [w3.2 69 (by decide)]; exact z69) (by omega) (by omega)
        have pk := PK_tk hp q d3
        have t := tk_b (k := kd r)
        refine ⟨_, v1, ⟨i + 1, ?_, Or.inr pk, off_w (off_tr zo (off_tr w3 v2)) (by decide) (by decide), by dsimp only; rw [v3]; omega, by omega, fun j hj => ?_⟩, by dsimp only; omega⟩
        · show r + tk (kd r) = stn kd i + tk (kd (stn kd i))
          rw [hr]
        · dsimp only
          by_cases x : j = i
          · rw [x, ← hr]
            exact ⟨q, v4⟩
          · obtain ⟨y1, y2, y3, y4, y5⟩ := v5 j (by omega)
            rw [y1, y2, y3, y4, y5, w3.1 134 (by decide) (by decide), w3.1 135 (by decide) (by decide), w3.1 136 (by decide) (by decide), w3.1 137 (by decide) (by decide), w3.1 138 (by decide) (by decide)]
            exact zj j (by omega)
      · right
        exact ⟨z, by rw [if_neg q], i, zo, z69, i12, zj, by omega⟩) ⟨0, rfl, Or.inl rfl, off_rf, y69, by omega, fun j hj => by omega⟩
  exact ⟨sz, g, e, g1, g2, g3, g4, g5⟩
end
theorem op_mend (b : Int) : Op2 (f_WM_mend b) (f_Md_mend b) := by
  refine op2_of (fun _ _ => loc_Md_mend) (fun h hI => ?_)
  have hP := hI.2.2.2.1
  have hS := hI.2.2.2.2.1
  rcases rdText hI.1 with ⟨c, m, e1, o1, z1, hR, n1, m1, m2, m3, hx⟩ | ⟨c, m, e1, o1, z1, m1, m2⟩
  · have om := mfr_off m2
    by_cases q : 0 ≤ b ∧ b ≤ 99999
    · have n12 := hR.2.2.2.2.1
      have n0 := hR.2.2.2.1
      have ec : ∀ x, 4 ≤ x → x ≤ 20 → c x = h x := fun x a d => o1.1 x (by omega) (fun w => by simp at w; omega)
      have em : ∀ x, 4 ≤ x → x ≤ 20 → m x = c x := fun x a d => by rw [om.1 x (by omega) (fun w => by simp at w; omega), ec x a d]
      have Pc : Pr c := Pr_off o1 (by decide) hP
      have Sc : So c := So_off o1 (by decide) hS
      have Wc' : Wd c := Wd_off o1 (by decide) hI.2.1
      have Wtc : Wt c := Wt_off o1 (by decide) hI.2.2.1
      have hT : TX c m := ⟨hR, hx, m3, Pr_off om (by decide) hP, So_off om (by decide) hS, Wd_off om (by decide) hI.2.1, ⟨Wt_off om (by decide) hI.2.2.1, Pc, Sc, Wc', Wtc⟩, em, nW_cg (em 5 (by decide) (by decide)) (em 6 (by decide) (by decide)) (em 7 (by decide) (by decide))⟩
      have hp := PK_MP (b := b) hT q.1 q.2
      -- the class
      obtain ⟨z0, a1, a2, a3, a4, a5, a6⟩ := s_clearM n0 n12
      obtain ⟨z, b1, b2, b3⟩ := s_loops (b := b) a2 Pc Sc Wc' Wtc hR a3 a5 q.1 q.2
      obtain ⟨sz, g, c1, c2, c3, c4, c5, c6, c7, c8⟩ := s_choose (z := z) hp (by rw [b2.1 70 (by decide) (by decide)]; exact a3) (by rw [b2.1 70 (by decide) (by decide)]; exact a4) (fun k r k0 k1 r0 r1 => ((b3 k r k0 k1 r0 r1).1 trivial).1) (fun j j0 j1 => by rw [b2.1 74 (by decide) (by decide)]; exact a6 j j0 j1)
      have oc : off [2, 21, 22, 23, 24, 25, 26, 27, 55, 56, 57, 58, 59, 60, 61, 66, 67, 68, 69, 70, 71, 72, 73, 74, 75, 76] [] h g := off_w (off_tr o1 (off_tr a2 (off_tr b2 c2))) (by decide) (by decide)
      -- the model
      obtain ⟨y, d1, d2, d3⟩ := m_nearW hT q.1
      obtain ⟨y1, f1, f2, f3⟩ := m_best hT q.1 q.2 d2 d3
      have hu := best_eq hp c3 f3
      generalize hy2 : xup (xup y1 81 69 0) 81 70 (y1 139 0) = y2
      have o2 : off [] [69, 70] y1 y2 := by rw [← hy2]; exact off_w (off_tr off_um off_um) (by decide) (by decide)
      have oy2 : off [97, 98, 99, 116, 124, 125, 126, 139, 140, 141, 145] [22, 23, 57, 69, 70, 83, 84] m y2 := off_w (off_tr d2 (off_tr f2 o2)) (by decide) (by decide)
      obtain ⟨sz', g', h1, h2, h3, h4, h5, h6⟩ := m_parts (y := y2) hT q.1 q.2 oy2 (fun r r0 r1 => by
        have := d3 r r0 r1
        have e140 : y2 140 = y 140 := by rw [o2.1 140 (by decide) (by decide), f2.1 140 (by decide) (by decide)]
        have e141 : y2 141 = y 141 := by rw [o2.1 141 (by decide) (by decide), f2.1 141 (by decide) (by decide)]
        unfold M140 at this ⊢
        rw [e140, e141]
        exact this) c3 (fun r r0 r1 => by rw [o2.1 139 (by decide) (by decide)]; exact hu _ r r0 r1 (Nat.le_refl _)) (by rw [← hy2, xup_ne_j (by decide), xup_same])
      have esz : sz' = sz := by
        rcases Nat.lt_trichotomy sz' sz with x | x | x
        · have := (c7 sz' x).2.2; omega
        · exact x
        · have := (h5 sz x).1; omega
      subst esz
      have omm := off_tr om (off_tr oy2 h2)
      refine ⟨(sz' : Int), g, g', ?_, off_hi oc (by decide) rfl, ?_, ?_⟩
      · unfold f_WM_mend
        rw [e1, xc2_some, if_neg (by decide), s_noBound, if_pos q, xc1_some, if_pos rfl, a1, xc1_some, b1]
        unfold f_WM_mend_193
        rw [c1, xc2_some]
      · unfold f_Md_mend
        rw [m1, xc2_some, if_neg (by decide), in_1 q.1 q.2, xc1_some, if_neg (by decide)]
        unfold f_Md_mend_31
        rw [d1, xc1_some]
        unfold f_Md_mend_106
        have y2' : y 81 2 = c 25 2 := by rw [d2.2 2 (by decide)]; exact m3
        rw [y2', xgd_pos n0 (by omega), xlet_eq, xup_row (o' := 81) (by decide), y2', w32_id (by omega) (by omega), xlet_eq]
        unfold f_Md_mend_123
        rw [f1, xc1_some]
        unfold f_Md_mend_211 f_Md_mend_228 f_Md_mend_510
        rw [xlet_eq, xgd_pos (by decide) (by decide), xlet_eq, xup_row (o' := 139) (by decide), hy2, h1, xc1_some, h3]
      · have hT' : Tp (mx g g') := Tp_empty (by rw [mx_lo (by decide), c2.1 2 (by decide) (by decide), b2.1 2 (by decide) (by decide), a2.1 2 (by decide) (by decide)]; exact z1) (by rw [mx_hi (by decide), h2.2 1 (by decide), oy2.2 1 (by decide)]; exact m2.2.2)
        have hMn : Mn (mx g g') := by
          right
          rw [mx_lo (o := 70) (by decide), mx_lo (o := 71) (by decide), mx_lo (o := 72) (by decide), mx_lo (o := 73) (by decide), mx_lo (o := 74) (by decide), mx_lo (o := 75) (by decide), mx_lo (o := 76) (by decide), mx_hi (o := 81) (by decide), mx_hi (o := 134) (by decide), mx_hi (o := 135) (by decide), mx_hi (o := 136) (by decide), mx_hi (o := 137) (by decide), mx_hi (o := 138) (by decide), c4, c5]
          refine ⟨h3, ?_, by omega, by omega, n12, fun i i0 i1 => ?_⟩
          · rw [h2.2 70 (by decide), ← hy2, xup_same]
            exact hu _ 0 (by omega) n0 (Nat.le_refl _)
          · obtain ⟨j, rfl⟩ : ∃ j : Nat, i = j := ⟨i.toNat, by omega⟩
            have hj : j < sz' := by omega
            obtain ⟨u1, u2, u3⟩ := c7 j hj
            obtain ⟨v1, v2, v3, v4, v5, v6⟩ := h5 j hj
            obtain ⟨w1, w2, w3, -⟩ := c3.2 _ u2 u2 u3
            rw [u1]
            generalize hst : stn (g 75) j = r at *
            have cc := (b3 (g 75 r) r w1 w2 u2 u3).1 trivial
            have e71 : g 71 = z 71 := c2.1 71 (by decide) (by decide)
            have e72 : g 72 = z 72 := c2.1 72 (by decide) (by decide)
            have e73 : g 73 = z 73 := c2.1 73 (by decide) (by decide)
            obtain ⟨x1, x2⟩ := cc.2 w3
            refine ⟨u2, u3, w1, w2, v2, ?_, ?_, ?_, ?_⟩
            · rw [v3, e71, cc.1]
            · rw [v4, e72, x1]
            · rw [v5, e73, x2]
            · rw [v6]; rfl
        exact inv_mk (off_mx oc omm) hI
    · refine ⟨-2, c, m, ?_, off_hi o1 (by decide) rfl, ?_, ?_⟩
      · unfold f_WM_mend
        rw [e1, xc2_some, if_neg (by decide), s_noBound, if_neg q, xc1_some, if_neg (by decide)]
      · unfold f_Md_mend
        rw [m1, xc2_some, if_neg (by decide), in_0 (by omega), xc1_some, if_pos rfl]
      · have hT := Tp_empty (h := mx c m) (by rw [mx_lo (by decide)]; exact z1) (by rw [mx_hi (by decide)]; exact m2.2.2)
        exact inv_mk (off_mx o1 om) hI
  · refine ⟨-2, c, m, ?_, off_hi o1 (by decide) rfl, ?_, ?_⟩
    · unfold f_WM_mend
      rw [e1, xc2_some, if_pos rfl]
    · unfold f_Md_mend
      rw [m1, xc2_some, if_pos rfl]
    · have hT := Tp_empty (h := mx c m) (by rw [mx_lo (by decide)]; exact z1) (by rw [mx_hi (by decide)]; exact m2.2.2)
      exact inv_mk (off_mx o1 (mfr_off m2)) hI
