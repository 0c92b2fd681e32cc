/-! LEAST SUMS: the model's table -/
noncomputable def Dm (h : xH) : Int → Int → Int := DS (sp h (pA h) (pB h)) (tA h) (tB h) (7 + h 14 2).toNat (h 81 22) (h 81 23)
theorem ms_ok {h : xH} (hP : Pr h) (hS : So h) (hA : MA h) (hB : MB h) : SPok (sp h (pA h) (pB h)) (tA h) (tB h) (7 + h 14 2).toNat (h 81 22) (h 81 23) :=
  sp_ok hP hS hA.1 hA.2.1 hB.1 hB.2.1 hA.2.2 hB.2.2
theorem ms_fr {h g : xH} (og : off [99] [83, 84] h g) (hP : Pr h) (hS : So h) (hA : MA h) (hB : MB h) : Pr g ∧ So g ∧ MA g ∧ MB g ∧ g 81 22 = h 81 22 ∧ g 81 23 = h 81 23 ∧ pA g = pA h ∧ pB g = pB h ∧ sp g = sp h ∧ tA g = tA h ∧ tB g = tB h ∧ g 14 = h 14 := by
  have e : ∀ x, 10 ≤ x → x ≤ 20 → g x = h x := fun x a b => og.1 x (by omega) (fun z => by simp at z; omega)
  have e22 := og.2 22 (by decide)
  have e23 := og.2 23 (by decide)
  have e97 := og.1 97 (by decide) (by decide)
  have e98 := og.1 98 (by decide) (by decide)
  refine ⟨Pr_off og (by decide) hP, So_off og (by decide) hS, ?_, ?_, e22, e23, ?_, ?_, sp_cg e, tA_cg e, tB_cg e, e 14 (by decide) (by decide)⟩
  · unfold MA; rw [e22, e97]; exact hA
  · unfold MB; rw [e23, e98]; exact hB
  · unfold pA; rw [e22, e97]
  · unfold pB; rw [e23, e98]
/-- the sum of what begins with a code, as the model tries it -/
theorem m_try {h : xH} (hP : Pr h) (hS : So h) (hA : MA h) (hB : MB h) {c i j : Int} (c0 : 0 ≤ c) (c1 : c < 7 + h 14 2) (i0 : 0 ≤ i) (i1 : i ≤ h 81 22) (j0 : 0 ≤ j) (j1 : j ≤ h 81 23) : f_Md_slip (min c 7) (c - 7) i j h = some (fr (sp h (pA h) (pB h) c i j), hT h (tA h c) (tB h c)) :=
  m_slip hP hS hA hB (by omega) i0 i1 j0 j1
theorem m_cell {h : xH} (hP : Pr h) (hS : So h) (hA : MA h) (hB : MB h) {i j v0 : Int} (i0 : 0 ≤ i) (i1 : i ≤ h 81 22) (j0 : 0 ≤ j) (j1 : j ≤ h 81 23) (hv : v0 ≤ 1000000)
    (hT' : ∀ x y, i ≤ x → x ≤ h 81 22 → j ≤ y → y ≤ h 81 23 → i + j < x + y → 0 ≤ h 99 (13 * x + y) ∧ h 99 (13 * x + y) ≤ 1000000) : ∃ b, xloop (fun s : Int × Int × xH => f_Md_sums_s45 i j s.1 s.2.1 s.2.2) (v0, 0, h) = some b ∧ b.1 = min v0 (mnf (vl (sp h (pA h) (pB h)) (tA h) (tB h) (fun x y => h 99 (13 * x + y)) i j) (7 + h 14 2).toNat) ∧ off [] [83, 84] h b.2 := by
  have H := ms_ok hP hS hA hB
  have b20 : h 14 2 ≤ 20 := hS.1.2.2.2.2.1
  have bn : 0 ≤ h 14 2 := hS.1.2.2.2.1
  have e16 := hS.2.2.2.1
  have A2 := hA.2.1
  have B2 := hB.2.1
  obtain ⟨-, -, -, -, -, -, -, -, g9, g10⟩ := H
  refine xloop_W (I := fun s => 0 ≤ s.2.1 ∧ s.2.1 ≤ 7 + h 14 2 ∧ s.1 = min v0 (mnf (vl (sp h (pA h) (pB h)) (tA h) (tB h) (fun x y => h 99 (13 * x + y)) i j) s.2.1.toNat) ∧ off [] [83, 84] h s.2.2) (fun s => (7 + h 14 2 - s.2.1).toNat) ?_ ⟨by dsimp only; omega, by dsimp only; omega, by dsimp only; show v0 = min v0 1000000; omega, off_rf⟩
  rintro ⟨v, c, g⟩ hI
  dsimp only at hI ⊢
  obtain ⟨c0, c1, ev, og⟩ := hI
  obtain ⟨P', S', A', B', e1, e2, e3, e4, e5, e6, e7, e8⟩ := ms_fr (off_w og (by decide) (by decide)) hP hS hA hB
  have e16' : g 81 16 = h 14 2 := by rw [og.2 16 (by decide), e16]
  unfold f_Md_sums_s45
  rw [e16', w32_id (z := 7 + h 14 2) (by omega) (by omega)]
  by_cases q : c < 7 + h 14 2
  · left
    have st := m_try P' S' A' B' (c := c) (i := i) (j := j) c0 (by rw [e8]; exact q) i0 (by rw [e1]; exact i1) j0 (by rw [e2]; exact j1)
    rw [e3, e4, e5, e6, e7] at st
    obtain ⟨a1, a2, a3, a4, a5⟩ := g9 c c0 (by omega)
    have far := mnf_far (f := vl (sp h (pA h) (pB h)) (tA h) (tB h) (fun x y => h 99 (13 * x + y)) i j) (n := c.toNat)
    have nx : mnf (vl (sp h (pA h) (pB h)) (tA h) (tB h) (fun x y => h 99 (13 * x + y)) i j) (c + 1).toNat = min (mnf (vl (sp h (pA h) (pB h)) (tA h) (tB h) (fun x y => h 99 (13 * x + y)) i j) c.toNat) (vl (sp h (pA h) (pB h)) (tA h) (tB h) (fun x y => h 99 (13 * x + y)) i j c) := by
      have : (c + 1).toNat = c.toNat + 1 := by omega
      rw [this]
      show min _ (vl _ _ _ _ i j ((c.toNat : Nat) : Int)) = _
      rw [show ((c.toNat : Nat) : Int) = c from by omega]
    rw [if_pos q, min_s, xc1_some, w32_id (z := c - 7) (by omega) (by omega), st, xc2_some, hT_83, hT_84, hT_row (by decide)]
    have og' : off [] [83, 84] h (hT g (tA h c) (tB h c)) := off_w (off_tr og hT_off) (by decide) (by decide)
    unfold f_Md_sums_114
    rw [w32_id (z := c + 1) (by omega) (by omega)]
    by_cases z : sp h (pA h) (pB h) c i j = -1
    · have ez : vl (sp h (pA h) (pB h)) (tA h) (tB h) (fun x y => h 99 (13 * x + y)) i j c = 1000000 := by unfold vl; rw [if_pos z]
      rw [ez] at nx
      rw [z, fr_n, if_neg (by omega), xlet_eq]
      refine ⟨(v, c + 1, hT g (tA h c) (tB h c)), rfl, ⟨by dsimp only; omega, by dsimp only; omega, ?_, og'⟩, by dsimp only; omega⟩
      dsimp only
      rw [nx]
      omega
    · obtain ⟨k1, k2, k3, k4⟩ := g10 c i j c0 (by omega) i0 i1 j0 j1 z
      have ez : vl (sp h (pA h) (pB h)) (tA h) (tB h) (fun x y => h 99 (13 * x + y)) i j c = sp h (pA h) (pB h) c i j + h 99 (13 * (i + tA h c) + (j + tB h c)) := by unfold vl; rw [if_neg z]
      have e : 13 * (i + tA h c) + (j + tB h c) = 13 * (i + tA h c) + j + tB h c := by omega
      have bd := hT' (i + tA h c) (j + tB h c) (by omega) k3 (by omega) k4 (by omega)
      rw [e] at bd ez
      rw [ez] at nx
      have e99 : g 99 = h 99 := og.1 99 (by decide) (by decide)
      rw [fr_p k1, if_pos (by omega), w32_id (z := i + tA h c) (by omega) (by omega), w32_id (z := 13 * (i + tA h c)) (by omega) (by omega), w32_id (z := 13 * (i + tA h c) + j) (by omega) (by omega), w32_id (z := 13 * (i + tA h c) + j + tB h c) (by omega) (by omega), xgd_pos (by omega) (by omega), e99, w32_id (z := sp h (pA h) (pB h) c i j + h 99 (13 * (i + tA h c) + j + tB h c)) (by omega) (by omega), min_s, xc1_some, xlet_eq]
      refine ⟨(min v (sp h (pA h) (pB h) c i j + h 99 (13 * (i + tA h c) + j + tB h c)), c + 1, hT g (tA h c) (tB h c)), rfl, ⟨by dsimp only; omega, by dsimp only; omega, ?_, og'⟩, by dsimp only; omega⟩
      dsimp only
      rw [nx]
      omega
  · right
    refine ⟨(v, g), by rw [if_neg q], ?_, og⟩
    dsimp only
    rw [ev]
    have : c = 7 + h 14 2 := by omega
    rw [this]
theorem vl_end {sp : Int → Int → Int → Int} {ta tb : Int → Int} {K : Nat} {la lb : Int} (H : SPok sp ta tb K la lb) {T : Int → Int → Int} : min 0 (mnf (vl sp ta tb T la lb) K) = 0 := by
  obtain ⟨b1, -, b3, -, -, -, -, -, g9, g10⟩ := H
  have := mnf_ge (f := vl sp ta tb T la lb) (m := 0) (by omega) (n := K) (fun c c0 c1 => by
    obtain ⟨a1, a2, a3, a4, a5⟩ := g9 c c0 c1
    unfold vl
    by_cases q : sp c la lb = -1
    · rw [if_pos q]; omega
    · have := g10 c la lb c0 c1 b1 (by omega) b3 (by omega) q
      omega)
  omega
theorem m_sums {h : xH} (hP : Pr h) (hS : So h) (hA : MA h) (hB : MB h) : ∃ h', f_Md_sums h = some h' ∧ off [99] [83, 84] h h' ∧ ∀ i j, 0 ≤ i → i ≤ h 81 22 → 0 ≤ j → j ≤ h 81 23 → h' 99 (13 * i + j) = Dm h i j := by
  have H := ms_ok hP hS hA hB
  have A1 := hA.1
  have A2 := hA.2.1
  have B1 := hB.1
  have B2 := hB.2.1
  unfold f_Md_sums f_Md_sums_5
  rw [xlet_eq]
  obtain ⟨b, e, hb⟩ := xloop_W (step := fun s : Int × xH => f_Md_sums_s5 s.1 s.2) (I := fun s => -1 ≤ s.1 ∧ s.1 ≤ h 81 22 ∧ off [99] [83, 84] h s.2 ∧ ∀ i j, s.1 < i → i ≤ h 81 22 → 0 ≤ j → j ≤ h 81 23 → s.2 99 (13 * i + j) = Dm h i j) (fun s => (s.1 + 1).toNat)
    (post := fun b => off [99] [83, 84] h b ∧ ∀ i j, 0 ≤ i → i ≤ h 81 22 → 0 ≤ j → j ≤ h 81 23 → b 99 (13 * i + j) = Dm h i j) (s := (h 81 22, h)) (by
      rintro ⟨i, g⟩ hI
      dsimp only at hI ⊢
      obtain ⟨i0, i1, hg, hT⟩ := hI
      have g23 := hg.2 23 (by decide)
      unfold f_Md_sums_s5
      by_cases q : i < 0
      · right
        exact ⟨g, by rw [if_pos q], hg, fun x y x0 x1 y0 y1 => hT x y (by omega) x1 y0 y1⟩
      · left
        rw [if_neg q, xlet_eq]
        unfold f_Md_sums_14
        obtain ⟨b, e, hb⟩ := xloop_W (step := fun s : Int × xH => f_Md_sums_s14 i s.1 s.2) (I := fun s => -1 ≤ s.1 ∧ s.1 ≤ h 81 23 ∧ off [99] [83, 84] h s.2 ∧ (∀ x y, i < x → x ≤ h 81 22 → 0 ≤ y → y ≤ h 81 23 → s.2 99 (13 * x + y) = Dm h x y) ∧ ∀ y, s.1 < y → y ≤ h 81 23 → s.2 99 (13 * i + y) = Dm h i y) (fun s => (s.1 + 1).toNat)
          (post := fun b => off [99] [83, 84] h b ∧ ∀ x y, i ≤ x → x ≤ h 81 22 → 0 ≤ y → y ≤ h 81 23 → b 99 (13 * x + y) = Dm h x y) (s := (g 81 23, g)) (by
            rintro ⟨j, g⟩ hI
            dsimp only at hI ⊢
            obtain ⟨j0, j1, hg, hT, hU⟩ := hI
            unfold f_Md_sums_s14
            by_cases r : j < 0
            · right
              refine ⟨g, by rw [if_pos r], hg, fun x y x0 x1 y0 y1 => ?_⟩
              by_cases z : x = i
              · rw [z]; exact hU y (by omega) y1
              · exact hT x y (by omega) x1 y0 y1
            · left
              obtain ⟨P', S', A', B', e1, e2, e3, e4, e5, e6, e7, e8⟩ := ms_fr hg hP hS hA hB
              have hv : ∀ x y, i ≤ x → x ≤ h 81 22 → j ≤ y → y ≤ h 81 23 → i + j < x + y → g 99 (13 * x + y) = Dm h x y := fun x y a b c d f => by
                by_cases z : x = i
                · rw [z]; exact hU y (by omega) d
                · exact hT x y (by omega) b (by omega) d
              have hv' : ∀ x y, i ≤ x → x ≤ g 81 22 → j ≤ y → y ≤ g 81 23 → i + j < x + y → 0 ≤ g 99 (13 * x + y) ∧ g 99 (13 * x + y) ≤ 1000000 := fun x y a b c d f => by
                rw [e1] at b; rw [e2] at d
                rw [hv x y a b c d f]
                have := DS_b H (i := x) (j := y) (by omega) b (by omega) d
                change 0 ≤ DS _ _ _ _ _ _ x y ∧ DS _ _ _ _ _ _ x y ≤ _
                omega
              have eq := DS_eq H (T := fun x y => g 99 (13 * x + y)) (i := i) (j := j) (by omega) i1 (by omega) j1 hv
              have fin : ∀ v0, v0 ≤ 1000000 → (i = h 81 22 ∧ j = h 81 23 ∧ v0 = 0 ∨ ¬ (i = h 81 22 ∧ j = h 81 23) ∧ v0 = 1000000) → ∃ g', f_Md_sums_41 i j v0 g = some (Sum.inl (j - 1, g')) ∧ off [99] [83, 84] h g' ∧ g' 99 = xup g 99 (13 * i + j) (Dm h i j) 99 := by
                intro v0 v1 v2
                obtain ⟨b, k1, k2, k3⟩ := m_cell P' S' A' B' (i := i) (j := j) (v0 := v0) (by omega) (by omega) (by omega) (by omega) v1 hv'
                rw [e3, e4, e5, e6, e7, e8] at k2
                have vv : b.1 = Dm h i j := by
                  rw [k2]
                  show _ = DS _ _ _ _ _ _ i j
                  rw [← eq]
                  unfold rhs
                  rcases v2 with ⟨rfl, rfl, rfl⟩ | ⟨w, rfl⟩
                  · rw [if_pos ⟨rfl, rfl⟩]
                    exact vl_end H
                  · rw [if_neg w]
                    have := mnf_far (f := vl (sp h (pA h) (pB h)) (tA h) (tB h) (fun x y => g 99 (13 * x + y)) i j) (n := (7 + h 14 2).toNat)
                    omega
                refine ⟨xup b.2 99 (13 * i + j) (Dm h i j), ?_, ?_, ?_⟩
                · unfold f_Md_sums_41 f_Md_sums_45 f_Md_sums_120
                  rw [k1, xc1_some, w32_id (z := 13 * i) (by omega) (by omega), w32_id (z := 13 * i + j) (by omega) (by omega), xgd_pos (by omega) (by omega), xlet_eq, xlet_eq, w32_id (by omega) (by omega), vv]
                  rfl
                · exact off_w (off_tr (off_tr hg k3) (off_up (by decide))) (by decide) (by decide)
                · funext y
                  simp only [xup]
                  rw [k3.1 99 (by decide) (by decide)]
              have cases : ∃ g', (if i = g 81 22 then (if j = g 81 23 then f_Md_sums_41 i j 0 g else f_Md_sums_38 i j g) else f_Md_sums_38 i j g) = some (Sum.inl (j - 1, g')) ∧ off [99] [83, 84] h g' ∧ g' 99 = xup g 99 (13 * i + j) (Dm h i j) 99 := by
                rw [e1, e2]
                unfold f_Md_sums_38
                by_cases w1 : i = h 81 22
                · by_cases w2 : j = h 81 23
                  · rw [if_pos w1, if_pos w2]; exact fin 0 (by omega) (Or.inl ⟨w1, w2, rfl⟩)
                  · rw [if_pos w1, if_neg w2]; exact fin _ (by omega) (Or.inr ⟨fun z => w2 z.2, rfl⟩)
                · rw [if_neg w1]; exact fin _ (by omega) (Or.inr ⟨fun z => w1 z.1, rfl⟩)
              obtain ⟨g', f1, f2, f3⟩ := cases
              refine ⟨(j - 1, g'), by rw [if_neg r, f1], ⟨by dsimp only; omega, by dsimp only; omega, f2, fun x y a b c d => ?_, fun y a b => ?_⟩, by dsimp only; omega⟩
              · dsimp only
                rw [f3, xup_ne_j (by omega)]
                exact hT x y a b c d
              · dsimp only at a ⊢
                rw [f3]
                by_cases z : y = j
                · rw [z, xup_same]
                · rw [xup_ne_j (by omega)]
                  exact hU y (by omega) b) ⟨by dsimp only; omega, by dsimp only; omega, hg, hT, fun y a b => by dsimp only at a; omega⟩
        rw [e, xc1_some]
        unfold f_Md_sums_138
        refine ⟨(i - 1, b), by rw [xlet_eq, w32_id (by omega) (by omega)]; rfl, ⟨by dsimp only; omega, by dsimp only; omega, hb.1, fun x y a b c d => hb.2 x y (by dsimp only at a; omega) b c d⟩, by dsimp only; omega⟩) ⟨by dsimp only; omega, by dsimp only; omega, off_rf, fun i j a b => by dsimp only at a; omega⟩
  rw [e, xc1_some]
  exact ⟨b, rfl, hb⟩
/-- both tables over the same rows -/
theorem Dc_Dm {h : xH} {t u : Int} (e1 : h t 1 = h 81 22) (e2 : h u 1 = h 81 23) (e3 : tp h t = pA h) (e4 : tp h u = pB h) : Dc h t u = Dm h := by
  unfold Dc Dm
  rw [e1, e2, e3, e4]
