/-! THE MODEL'S WALK: the states of one depth -/
theorem mr_fr {h g : xH} (og : off [116] [83, 84] h g) (hP : Pr h) (hS : So h) (hA : MA h) (hB : MB h) : Pr g ∧ So g ∧ MA g ∧ MB g ∧ g 81 22 = h 81 22 ∧ g 81 23 = h 81 23 ∧ pA g = pA h ∧ pB g = pB h ∧ sp g = sp h ∧ tA g = tA h ∧ tB g = tB h ∧ g 14 = h 14 := by
  have e : ∀ x, 10 ≤ x → x ≤ 20 → g x = h x := fun x a b => og.1 x (by omega) (fun z => by simp at z; omega)
  have e22 := og.2 22 (by decide)
  have e23 := og.2 23 (by decide)
  have e97 := og.1 97 (by decide) (by decide)
  have e98 := og.1 98 (by decide) (by decide)
  refine ⟨Pr_off og (by decide) hP, So_off og (by decide) hS, ?_, ?_, e22, e23, ?_, ?_, sp_cg e, tA_cg e, tB_cg e, e 14 (by decide) (by decide)⟩
  · unfold MA; rw [e22, e97]; exact hA
  · unfold MB; rw [e23, e98]; exact hB
  · unfold pA; rw [e22, e97]
  · unfold pB; rw [e23, e98]
noncomputable def Fm (h : xH) : Int → Int → Int := FS (sp h (pA h) (pB h)) (tA h) (tB h) (7 + h 14 2).toNat
theorem m_stateRow7 {h : xH} (hP : Pr h) (hS : So h) (hA : MA h) (hB : MB h) {d : Int} (hd : h 81 22 = d) (d0 : 0 ≤ d) (d1 : d ≤ 12)
    (hF : ∀ x y, 0 ≤ x → x < d → 0 ≤ y → y ≤ h 81 23 → h 116 (13 * x + y) = Fm h x y) : ∃ h', f_Md_stateRow_7 d 0 h = some h' ∧ off [116] [83, 84] h h' ∧ (∀ k, (∀ y, 0 ≤ y → y ≤ h 81 23 → k ≠ 13 * d + y) → h' 116 k = h 116 k) ∧ ∀ y, 0 ≤ y → y ≤ h 81 23 → h' 116 (13 * d + y) = Fm h d y := by
  have H := ms_ok hP hS hA hB
  rw [hd] at H
  have B1 := hB.1
  have B2 := hB.2.1
  unfold f_Md_stateRow_7
  obtain ⟨b, e, hb⟩ := xloop_W (step := fun s : Int × xH => f_Md_stateRow_s7 d s.1 s.2) (I := fun s => 0 ≤ s.1 ∧ s.1 ≤ h 81 23 + 1 ∧ off [116] [83, 84] h s.2 ∧ (∀ k, (∀ y, 0 ≤ y → y ≤ h 81 23 → k ≠ 13 * d + y) → s.2 116 k = h 116 k) ∧ ∀ y, 0 ≤ y → y < s.1 → s.2 116 (13 * d + y) = Fm h d y) (fun s => (h 81 23 + 1 - s.1).toNat)
    (post := fun b => off [116] [83, 84] h b ∧ (∀ k, (∀ y, 0 ≤ y → y ≤ h 81 23 → k ≠ 13 * d + y) → b 116 k = h 116 k) ∧ ∀ y, 0 ≤ y → y ≤ h 81 23 → b 116 (13 * d + y) = Fm h d y) (s := (0, h)) (by
      rintro ⟨j, g⟩ hI
      dsimp only at hI ⊢
      obtain ⟨j0, j1, hg, hk, hm⟩ := hI
      obtain ⟨P', S', A', B', e1, e2, e3, e4, e5, e6, e7, e8⟩ := mr_fr hg hP hS hA hB
      unfold f_Md_stateRow_s7
      rw [e2]
      by_cases q : h 81 23 < j
      · right
        exact ⟨g, by rw [if_pos q], hg, hk, fun y a b => hm y a (by omega)⟩
      · left
        have hv : ∀ x y, 0 ≤ x → x ≤ d → 0 ≤ y → y ≤ j → x + y < d + j → g 116 (13 * x + y) = Fm h x y := fun x y a b c f w => by
          by_cases z : x = d
          · rw [z]; exact hm y c (by omega)
          · rw [hk _ (fun z z0 z1 => by omega)]; exact hF x y a (by omega) c (by omega)
        have eq := FS_eq H (T := fun x y => g 116 (13 * x + y)) d0 (Int.le_refl _) j0 (by omega) hv
        have hb : ∀ x y, 0 ≤ x → x ≤ d → 0 ≤ y → y ≤ j → x + y < d + j → 0 ≤ g 116 (13 * x + y) ∧ g 116 (13 * x + y) ≤ 1000000 := fun x y a b c f w => by
          rw [hv x y a b c f w]
          have := FS_b H (i := x) (j := y) a b c (by omega)
          change 0 ≤ FS _ _ _ _ x y ∧ FS _ _ _ _ x y ≤ _
          omega
        have fin : ∀ v0, v0 ≤ 1000000 → v0 = (if d = 0 ∧ j = 0 then 0 else 1000000) → ∃ g', f_Md_stateRow_30 d j v0 g = some (Sum.inl (j + 1, g')) ∧ off [116] [83, 84] h g' ∧ g' 116 = xup g 116 (13 * d + j) (Fm h d j) 116 := by
          intro v0 v1 v2
          obtain ⟨b, k1, k2, k3⟩ := m_cellF P' S' A' B' (j := j) (v0 := v0) (by rw [e1]; exact hd) d0 d1 j0 (by omega) v1 hb
          rw [e3, e4, e5, e6, e7, e8] at k2
          have vv : b.1 = Fm h d j := by
            rw [k2, v2]
            exact eq
          refine ⟨xup b.2 116 (13 * d + j) (Fm h d j), ?_, off_w (off_tr (off_tr hg k3) (off_up (by decide))) (by decide) (by decide), ?_⟩
          · unfold f_Md_stateRow_30 f_Md_stateRow_34 f_Md_stateRow_246
            rw [k1, xc1_some, w32_id (z := 13 * d) (by omega) (by omega), w32_id (z := 13 * d + j) (by omega) (by omega), xgd_pos (by omega) (by omega), xlet_eq, xlet_eq, w32_id (by omega) (by omega), vv]
          · funext y
            simp only [xup]
            rw [k3.1 116 (by decide) (by decide)]
        have cases : ∃ g', (if d = 0 then (if j = 0 then f_Md_stateRow_30 d j 0 g else f_Md_stateRow_27 d j g) else f_Md_stateRow_27 d j g) = some (Sum.inl (j + 1, g')) ∧ off [116] [83, 84] h g' ∧ g' 116 = xup g 116 (13 * d + j) (Fm h d j) 116 := by
          unfold f_Md_stateRow_27
          by_cases w1 : d = 0
          · by_cases w2 : j = 0
            · rw [if_pos w1, if_pos w2]; exact fin 0 (by omega) (by rw [if_pos ⟨w1, w2⟩])
            · rw [if_pos w1, if_neg w2]; exact fin _ (by omega) (by rw [if_neg (fun z => w2 z.2)])
          · rw [if_neg w1]; exact fin _ (by omega) (by rw [if_neg (fun z => w1 z.1)])
        obtain ⟨g', f1, f2, f3⟩ := cases
        refine ⟨(j + 1, g'), by rw [if_neg q, f1], ⟨by dsimp only; omega, by dsimp only; omega, f2, fun k hk' => ?_, fun y a b => ?_⟩, by dsimp only; omega⟩
        · dsimp only
          rw [f3, xup_ne_j (hk' j j0 (by omega))]
          exact hk k hk'
        · dsimp only at b ⊢
          rw [f3]
          by_cases z : y = j
          · rw [z, xup_same]
          · rw [xup_ne_j (by omega)]
            exact hm y a (by omega)) ⟨by dsimp only; omega, by dsimp only; omega, off_rf, fun _ _ => rfl, fun y a b => by dsimp only at b; omega⟩
  rw [e, xc1_some]
  exact ⟨b, rfl, hb⟩
