/-! WAYS: the model's -/
theorem mw_fr {h g : xH} (og : off [100, 101, 102, 103, 104] [27, 83, 84] h g) (hP : Pr h) (hS : So h) (hA : MA h) (hB : MB h) : Pr g ∧ So g ∧ MA g ∧ MB g ∧ g 81 22 = h 81 22 ∧ g 81 23 = h 81 23 ∧ pA g = pA h ∧ pB g = pB h ∧ sp g = sp h ∧ tA g = tA h ∧ tB g = tB h ∧ g 14 = h 14 ∧ g 99 = h 99 := by
  have e : ∀ x, 10 ≤ x → x ≤ 20 → g x = h x := fun x a b => og.1 x (by omega) (fun z => by simp at z; omega)
  have e22 := og.2 22 (by decide)
  have e23 := og.2 23 (by decide)
  have e97 := og.1 97 (by decide) (by decide)
  have e98 := og.1 98 (by decide) (by decide)
  refine ⟨Pr_off og (by decide) hP, So_off og (by decide) hS, ?_, ?_, e22, e23, ?_, ?_, sp_cg e, tA_cg e, tB_cg e, e 14 (by decide) (by decide), og.1 99 (by decide) (by decide)⟩
  · unfold MA; rw [e22, e97]; exact hA
  · unfold MB; rw [e23, e98]; exact hB
  · unfold pA; rw [e22, e97]
  · unfold pB; rw [e23, e98]
/-- the model's first code at two places -/
theorem m_first {h : xH} {i j : Int} (hP : Pr h) (hS : So h) (hA : MA h) (hB : MB h) (i0 : 0 ≤ i) (i1 : i ≤ h 81 22) (j0 : 0 ≤ j) (j1 : j ≤ h 81 23) (ne : ¬ (i = h 81 22 ∧ j = h 81 23))
    (hT' : ∀ x y, 0 ≤ x → x ≤ h 81 22 → 0 ≤ y → y ≤ h 81 23 → h 99 (13 * x + y) = Dm h x y) : ∃ c, c = fc (sp h (pA h) (pB h)) (tA h) (tB h) (7 + h 14 2).toNat (h 81 22) (h 81 23) i j ∧ f_Md_ways_25 i j h = f_Md_ways_107 i j c (sp h (pA h) (pB h) c i j) (hT h (tA h c) (tB h c)) := by
  have H := ms_ok hP hS hA hB
  have b20 : h 14 2 ≤ 20 := hS.1.2.2.2.2.1
  have bn : 0 ≤ h 14 2 := hS.1.2.2.2.1
  have A2 := hA.2.1
  have B2 := hB.2.1
  have F := fc_is H i0 i1 j0 j1 ne
  have dd := DS_b H i0 i1 j0 j1
  change 0 ≤ Dm h i j ∧ Dm h i j ≤ _ at dd
  unfold f_Md_ways_25
  have s0 := m_slip hP hS hA hB (k := 0) (s := -1) (c := 0) (i := i) (j := j) (by omega) i0 i1 j0 j1
  rw [s0, xc2_some]
  unfold f_Md_ways_37
  obtain ⟨b, e, hb⟩ := xloop_W (step := fun s : Int × Int × xH => f_Md_ways_s37 i j s.1 s.2.1 s.2.2) (I := fun s => 0 ≤ s.1 ∧ s.1 < 7 + h 14 2 ∧ s.2.1 = fr (sp h (pA h) (pB h) s.1 i j) ∧ s.2.2 = hT h (tA h s.1) (tB h s.1) ∧ ∀ x, 0 ≤ x → x < s.1 → vl (sp h (pA h) (pB h)) (tA h) (tB h) (Dm h) i j x ≠ Dm h i j) (fun s => (7 + h 14 2 - s.1).toNat)
    (post := fun b => isFc (sp h (pA h) (pB h)) (tA h) (tB h) (7 + h 14 2).toNat (h 81 22) (h 81 23) i j b.1 ∧ b.2.1 = fr (sp h (pA h) (pB h) b.1 i j) ∧ b.2.2 = hT h (tA h b.1) (tB h b.1)) (s := (0, fr (sp h (pA h) (pB h) 0 i j), hT h (tA h 0) (tB h 0))) (by
      rintro ⟨c, v, g⟩ hI
      dsimp only at hI ⊢
      obtain ⟨c0, c1, rfl, rfl, hx⟩ := hI
      have more : vl (sp h (pA h) (pB h)) (tA h) (tB h) (Dm h) i j c ≠ Dm h i j → ∃ s' : Int × Int × xH, f_Md_ways_83 i j c (hT h (tA h c) (tB h c)) = some (Sum.inl s') ∧ (0 ≤ s'.1 ∧ s'.1 < 7 + h 14 2 ∧ s'.2.1 = fr (sp h (pA h) (pB h) s'.1 i j) ∧ s'.2.2 = hT h (tA h s'.1) (tB h s'.1) ∧ ∀ x, 0 ≤ x → x < s'.1 → vl (sp h (pA h) (pB h)) (tA h) (tB h) (Dm h) i j x ≠ Dm h i j) ∧ (7 + h 14 2 - s'.1).toNat < (7 + h 14 2 - c).toNat := by
        intro nx
        have all : ∀ x, 0 ≤ x → x < c + 1 → vl (sp h (pA h) (pB h)) (tA h) (tB h) (Dm h) i j x ≠ Dm h i j := fun x a b => by
          by_cases z : x = c
          · rw [z]; exact nx
          · exact hx x a (by omega)
        have lt : c + 1 < 7 + h 14 2 := by
          by_cases z : c + 1 < 7 + h 14 2
          · exact z
          · have F0 := F.1
            have F1 := F.2.1
            exact absurd F.2.2.1 (all _ F.1 (by omega))
        obtain ⟨P', S', A', B', e1, e2, e3, e4, e5, e6, e7, e8, e9⟩ := mw_fr (off_w (hT_off (h := h) (a := tA h c) (b := tB h c)) (by decide) (by decide)) hP hS hA hB
        have st := m_try P' S' A' B' (c := c + 1) (i := i) (j := j) (by omega) (by rw [e8]; exact lt) i0 (by rw [e1]; exact i1) j0 (by rw [e2]; exact j1)
        rw [e3, e4, e5, e6, e7, hT_hT] at st
        refine ⟨(c + 1, fr (sp h (pA h) (pB h) (c + 1) i j), hT h (tA h (c + 1)) (tB h (c + 1))), ?_, ⟨by dsimp only; omega, lt, rfl, rfl, all⟩, by dsimp only; omega⟩
        unfold f_Md_ways_83
        rw [w32_id (z := c + 1) (by omega) (by omega), xlet_eq, min_s, xc1_some, w32_id (z := c + 1 - 7) (by omega) (by omega), st, xc2_some]
      unfold f_Md_ways_s37
      by_cases z : sp h (pA h) (pB h) c i j = -1
      · left
        obtain ⟨s', g1, g2, g3⟩ := more (by unfold vl; rw [if_pos z]; omega)
        refine ⟨s', ?_, g2, g3⟩
        rw [z, fr_n, if_neg (by omega), g1]
      · obtain ⟨-, -, -, -, -, -, -, -, g9, g10⟩ := H
        obtain ⟨a1, a2, a3, a4, a5⟩ := g9 c c0 (by omega)
        obtain ⟨k1, k2, k3, k4⟩ := g10 c i j c0 (by omega) i0 i1 j0 j1 z
        have ez : vl (sp h (pA h) (pB h)) (tA h) (tB h) (Dm h) i j c = sp h (pA h) (pB h) c i j + Dm h (i + tA h c) (j + tB h c) := by unfold vl; rw [if_neg z]
        have e : 13 * (i + tA h c) + (j + tB h c) = 13 * (i + tA h c) + j + tB h c := by omega
        have e1 := hT' (i + tA h c) (j + tB h c) (by omega) k3 (by omega) k4
        have bd := DS_b (ms_ok hP hS hA hB) (i := i + tA h c) (j := j + tB h c) (by omega) k3 (by omega) k4
        change 0 ≤ Dm h _ _ ∧ Dm h _ _ ≤ _ at bd
        rw [e] at e1
        have cond : ∀ (X Y : Option ((Int × Int × xH) ⊕ (Int × Int × xH))), (if fr (sp h (pA h) (pB h) c i j) < 1000000 then (xgd (w32 ((w32 ((w32 (13 * (w32 (i + (hT h (tA h c) (tB h c) 81 83))))) + j)) + (hT h (tA h c) (tB h c) 81 84))) 169 (xgd (w32 ((w32 (13 * i)) + j)) 169 (if w32 (fr (sp h (pA h) (pB h) c i j) + (hT h (tA h c) (tB h c) 99 (w32 ((w32 ((w32 (13 * (w32 (i + (hT h (tA h c) (tB h c) 81 83))))) + j)) + (hT h (tA h c) (tB h c) 81 84))))) = hT h (tA h c) (tB h c) 99 (w32 ((w32 (13 * i)) + j)) then X else Y))) else Y) = if vl (sp h (pA h) (pB h)) (tA h) (tB h) (Dm h) i j c = Dm h i j then X else Y := by
          intro X Y
          rw [hT_83, hT_84, hT_row (by decide), fr_p k1, if_pos (by omega), w32_id (z := i + tA h c) (by omega) (by omega), w32_id (z := 13 * (i + tA h c)) (by omega) (by omega), w32_id (z := 13 * (i + tA h c) + j) (by omega) (by omega), w32_id (z := 13 * (i + tA h c) + j + tB h c) (by omega) (by omega), w32_id (z := 13 * i) (by omega) (by omega), w32_id (z := 13 * i + j) (by omega) (by omega), xgd_pos (by omega) (by omega), xgd_pos (by omega) (by omega), e1, hT' i j i0 i1 j0 j1, w32_id (by omega) (by omega), ez]
        rw [cond]
        by_cases y : vl (sp h (pA h) (pB h)) (tA h) (tB h) (Dm h) i j c = Dm h i j
        · right
          exact ⟨(c, fr (sp h (pA h) (pB h) c i j), hT h (tA h c) (tB h c)), by rw [if_pos y], ⟨c0, by dsimp only; omega, y, hx⟩, rfl, rfl⟩
        · left
          obtain ⟨s', g1, g2, g3⟩ := more y
          exact ⟨s', by rw [if_neg y, g1], g2, g3⟩) ⟨by dsimp only; omega, by dsimp only; omega, rfl, rfl, fun x a b => by dsimp only at b; omega⟩
  rw [e, xc1_some]
  obtain ⟨q1, q2, q3⟩ := hb
  have T := fc_to H i0 i1 j0 j1 q1
  refine ⟨b.1, isFc_uniq q1 F, ?_⟩
  rw [q2, q3, fr_p T.2.1]
theorem m_ways {h : xH} (hP : Pr h) (hS : So h) (hA : MA h) (hB : MB h)
    (hT' : ∀ x y, 0 ≤ x → x ≤ h 81 22 → 0 ≤ y → y ≤ h 81 23 → h 99 (13 * x + y) = Dm h x y) : ∃ (h' : xH) (n : Nat), f_Md_ways h = some h' ∧ off [100, 101, 102, 103, 104] [27, 83, 84] h h' ∧ h' 81 27 = n ∧ n ≤ 24 ∧ (∀ k, k < n → ¬ wE (sp h (pA h) (pB h)) (tA h) (tB h) (7 + h 14 2).toNat (h 81 22) (h 81 23) k) ∧ wE (sp h (pA h) (pB h)) (tA h) (tB h) (7 + h 14 2).toNat (h 81 22) (h 81 23) n ∧ ∃ r : Int → Int, wyR (sp h (pA h) (pB h)) (tA h) (tB h) (7 + h 14 2).toNat (h 81 22) (h 81 23) n r (h' 101) (h' 102) (h' 103) ∧ ∀ k : Nat, k < n → h' 100 k = min (r k) 7 ∧ h' 104 k = if r k < 7 then -1 else r k - 7 := by
  have H := ms_ok hP hS hA hB
  have A1 := hA.1
  have A2 := hA.2.1
  have B1 := hB.1
  have B2 := hB.2.1
  have b20 : h 14 2 ≤ 20 := hS.1.2.2.2.2.1
  have bn : 0 ≤ h 14 2 := hS.1.2.2.2.1
  unfold f_Md_ways f_Md_ways_9
  rw [xlet_eq]
  obtain ⟨b, e, hb⟩ := xloop_W (step := fun s : Int × Int × xH => f_Md_ways_s9 s.1 s.2.1 s.2.2) (I := fun s => ∃ k : Nat, s.1 = (wP (sp h (pA h) (pB h)) (tA h) (tB h) (7 + h 14 2).toNat (h 81 22) (h 81 23) k).1 ∧ s.2.1 = (wP (sp h (pA h) (pB h)) (tA h) (tB h) (7 + h 14 2).toNat (h 81 22) (h 81 23) k).2 ∧ 0 ≤ s.1 ∧ s.1 ≤ h 81 22 ∧ 0 ≤ s.2.1 ∧ s.2.1 ≤ h 81 23 ∧ (k : Int) ≤ s.1 + s.2.1 ∧ off [100, 101, 102, 103, 104] [27, 83, 84] h s.2.2 ∧ s.2.2 81 27 = k ∧ (∀ m, m < k → ¬ wE (sp h (pA h) (pB h)) (tA h) (tB h) (7 + h 14 2).toNat (h 81 22) (h 81 23) m) ∧ ∃ r : Int → Int, wyR (sp h (pA h) (pB h)) (tA h) (tB h) (7 + h 14 2).toNat (h 81 22) (h 81 23) k r (s.2.2 101) (s.2.2 102) (s.2.2 103) ∧ ∀ m : Nat, m < k → s.2.2 100 m = min (r m) 7 ∧ s.2.2 104 m = if r m < 7 then -1 else r m - 7) (fun s => (24 - s.1 - s.2.1).toNat)
    (post := fun b => ∃ n : Nat, off [100, 101, 102, 103, 104] [27, 83, 84] h b ∧ b 81 27 = n ∧ n ≤ 24 ∧ (∀ m, m < n → ¬ wE (sp h (pA h) (pB h)) (tA h) (tB h) (7 + h 14 2).toNat (h 81 22) (h 81 23) m) ∧ wE (sp h (pA h) (pB h)) (tA h) (tB h) (7 + h 14 2).toNat (h 81 22) (h 81 23) n ∧ ∃ r : Int → Int, wyR (sp h (pA h) (pB h)) (tA h) (tB h) (7 + h 14 2).toNat (h 81 22) (h 81 23) n r (b 101) (b 102) (b 103) ∧ ∀ m : Nat, m < n → b 100 m = min (r m) 7 ∧ b 104 m = if r m < 7 then -1 else r m - 7) (s := (0, 0, xup h 81 27 0)) (by
      rintro ⟨i, j, g⟩ hI
      dsimp only at hI ⊢
      obtain ⟨k, ei, ej, i0, i1, j0, j1, kk, hg, ek, hne, r, hw, hr⟩ := hI
      obtain ⟨P', S', A', B', e1, e2, e3, e4, e5, e6, e7, e8, e9⟩ := mw_fr hg hP hS hA hB
      unfold f_Md_ways_s9
      by_cases q : i = h 81 22 ∧ j = h 81 23
      · right
        refine ⟨g, ?_, k, hg, ek, by omega, hne, ⟨by rw [← ei]; exact q.1, by rw [← ej]; exact q.2⟩, r, hw, hr⟩
        rw [e1, e2, if_neg (c := i < h 81 22) (by omega), if_neg (c := j < h 81 23) (by omega)]
      · left
        have F := fc_is H i0 i1 j0 j1 q
        obtain ⟨f1, f2, f3, f4, f5, f6, f7, f8, f9, f10⟩ := fc_to H i0 i1 j0 j1 F
        have F0 := F.1
        have F1 := F.2.1
        have dm : Dm g = Dm h := by unfold Dm; rw [e1, e2, e3, e4, e5, e6, e7, e8]
        obtain ⟨c, hc, st⟩ := m_first P' S' A' B' i0 (by rw [e1]; exact i1) j0 (by rw [e2]; exact j1) (by rw [e1, e2]; exact q) (fun x y a b c d => by rw [e9, dm]; exact hT' x y a (by omega) c (by omega))
        rw [e1, e2, e3, e4, e5, e6, e7, e8] at hc
        rw [e3, e4, e5, e6, e7] at st
        have wi : (wP (sp h (pA h) (pB h)) (tA h) (tB h) (7 + h 14 2).toNat (h 81 22) (h 81 23) (k + 1)).1 = i + tA h c := by rw [hc, ei, ej]; rfl
        have wj : (wP (sp h (pA h) (pB h)) (tA h) (tB h) (7 + h 14 2).toNat (h 81 22) (h 81 23) (k + 1)).2 = j + tB h c := by rw [hc, ei, ej]; rfl
        have nek : ¬ wE (sp h (pA h) (pB h)) (tA h) (tB h) (7 + h 14 2).toNat (h 81 22) (h 81 23) k := fun z => q ⟨by rw [ei]; exact z.1, by rw [ej]; exact z.2⟩
        rw [← hc] at f1 f2 f3 f4 f5 f6 f7 f8 f9 f10 F0 F1
        have fin : ∃ g', f_Md_ways_25 i j g = some (Sum.inl (i + tA h c, j + tB h c, g')) ∧ g' = xup (xup (xup (xup (xup (xup (hT g (tA h c) (tB h c)) 100 k (min c 7)) 101 k (sp h (pA h) (pB h) c i j)) 102 k i) 103 k j) 104 k (if c < 7 then -1 else c - 7)) 81 27 (k + 1) := by
          have e175 : ∀ s2, f_Md_ways_175 i j k s2 (xup (xup (xup (xup (hT g (tA h c) (tB h c)) 100 k (min c 7)) 101 k (sp h (pA h) (pB h) c i j)) 102 k i) 103 k j) = some (Sum.inl (i + tA h c, j + tB h c, xup (xup (xup (xup (xup (xup (hT g (tA h c) (tB h c)) 100 k (min c 7)) 101 k (sp h (pA h) (pB h) c i j)) 102 k i) 103 k j) 104 k s2) 81 27 (k + 1))) := by
            intro s2
            unfold f_Md_ways_175
            rw [xgd_pos (by omega) (by omega), xlet_eq, xlet_eq, xup_ne_j (j' := 83) (by decide), xup_ne_j (j' := 84) (by decide)]
            simp (disch := decide) only [xup_row (o' := 81)]
            rw [hT_83, hT_84, hT_j (by decide) (by decide), ek, w32_id (z := (k : Int) + 1) (by omega) (by omega), w32_id (by omega) (by omega), w32_id (by omega) (by omega)]
            rfl
          refine ⟨_, ?_, rfl⟩
          rw [st]
          unfold f_Md_ways_107
          rw [min_s, xc1_some, hT_j (j := 27) (by decide) (by decide), ek, xgd_pos (by omega) (by omega), xlet_eq, xup_row (o' := 81) (by decide), hT_j (j := 27) (by decide) (by decide), ek, xgd_pos (by omega) (by omega), xlet_eq, xup_row (o' := 81) (by decide), xup_row (o' := 81) (by decide), hT_j (j := 27) (by decide) (by decide), ek, xgd_pos (by omega) (by omega), xlet_eq, xup_row (o' := 81) (by decide), xup_row (o' := 81) (by decide), xup_row (o' := 81) (by decide), hT_j (j := 27) (by decide) (by decide), ek, xgd_pos (by omega) (by omega), xlet_eq, xup_row (o' := 81) (by decide), xup_row (o' := 81) (by decide), xup_row (o' := 81) (by decide), xup_row (o' := 81) (by decide), hT_j (j := 27) (by decide) (by decide), ek]
          by_cases y : c < 7
          · rw [if_pos y, if_pos y, e175]
          · rw [if_neg y, if_neg y, w32_id (by omega) (by omega), e175]
        obtain ⟨g', s1, s2⟩ := fin
        have og' : off [100, 101, 102, 103, 104] [27, 83, 84] h g' := by
          rw [s2]
          exact off_w (off_tr hg (off_tr (off_tr (off_tr (off_tr (off_tr (off_tr hT_off (off_up (by decide))) (off_up (by decide))) (off_up (by decide))) (off_up (by decide))) (off_up (by decide))) off_um)) (by decide) (by decide)
        have h100 : g' 100 = xup g 100 k (min c 7) 100 := by
          rw [s2]; simp (disch := decide) only [xup_row (o' := 100)]; funext x; simp only [xup, hT_row (o := 100) (h := g) (by decide)]
        have h101 : g' 101 = xup g 101 k (sp h (pA h) (pB h) c i j) 101 := by
          rw [s2]; simp (disch := decide) only [xup_row (o' := 101)]; funext x; simp (disch := decide) only [xup, hT_row]; simp
        have h102 : g' 102 = xup g 102 k i 102 := by
          rw [s2]; simp (disch := decide) only [xup_row (o' := 102)]; funext x; simp (disch := decide) only [xup, hT_row]; simp
        have h103 : g' 103 = xup g 103 k j 103 := by
          rw [s2]; simp (disch := decide) only [xup_row (o' := 103)]; funext x; simp (disch := decide) only [xup, hT_row]; simp
        have h104 : g' 104 = xup g 104 k (if c < 7 then -1 else c - 7) 104 := by
          rw [s2]; simp (disch := decide) only [xup_row (o' := 104)]; funext x; simp (disch := decide) only [xup, hT_row]; simp
        refine ⟨(i + tA h c, j + tB h c, g'), ?_, ⟨k + 1, wi.symm, wj.symm, by dsimp only; omega, f9, by dsimp only; omega, f10, by dsimp only; omega, og', ?_, fun m hm => ?_, fun x => if x = k then c else r x, fun m hm => ?_, fun m hm => ?_⟩, by dsimp only; omega⟩
        · rw [e1, e2]
          by_cases z : i < h 81 22
          · rw [if_pos z, s1]
          · rw [if_neg z, if_pos (by omega), s1]
        · dsimp only
          rw [s2, xup_same]
          rfl
        · by_cases z : m = k
          · rw [z]; exact nek
          · exact hne m (by omega)
        · dsimp only
          rw [h101, h102, h103]
          by_cases z : m = k
          · rw [z, xup_same, xup_same, xup_same, if_pos rfl, ← ei, ← ej, ← hc]
            exact ⟨rfl, rfl, rfl, rfl⟩
          · rw [xup_ne_j (by omega), xup_ne_j (by omega), xup_ne_j (by omega), if_neg (by omega)]
            exact hw m (by omega)
        · dsimp only
          rw [h100, h104]
          by_cases z : m = k
          · have e : (if (k : Int) = k then c else r k) = c := if_pos rfl
            rw [z, xup_same, xup_same]
            simp only [e]
            exact ⟨rfl, rfl⟩
          · have e : (if (m : Int) = k then c else r m) = r m := if_neg (by omega)
            rw [xup_ne_j (by omega), xup_ne_j (by omega)]
            simp only [e]
            exact hr m (by omega)) ⟨0, rfl, rfl, by dsimp only; omega, by dsimp only; omega, by dsimp only; omega, by dsimp only; omega, by dsimp only; omega, off_w off_um (by decide) (by decide), by dsimp only; rw [xup_same]; rfl, fun m hm => by omega, fun _ => 0, fun m hm => by omega, fun m hm => by omega⟩
  rw [e, xc1_some]
  obtain ⟨n, hb⟩ := hb
  exact ⟨b, n, rfl, hb⟩
