/-! THE MODEL'S WALK: one state -/
theorem m_cellF {h : xH} (hP : Pr h) (hS : So h) (hA : MA h) (hB : MB h) {d j v0 : Int} (hd : h 81 22 = d) (d0 : 0 ≤ d) (d1 : d ≤ 12) (j0 : 0 ≤ j) (j1 : j ≤ h 81 23) (hv : v0 ≤ 1000000)
    (hT' : ∀ x y, 0 ≤ x → x ≤ d → 0 ≤ y → y ≤ j → x + y < d + j → 0 ≤ h 116 (13 * x + y) ∧ h 116 (13 * x + y) ≤ 1000000) : ∃ b, xloop (fun s : Int × Int × xH => f_Md_stateRow_s34 d j s.1 s.2.1 s.2.2) (v0, 0, h) = some b ∧ b.1 = min v0 (mnf (vlF (sp h (pA h) (pB h)) (tA h) (tB h) (fun x y => h 116 (13 * x + y)) d j) (7 + h 14 2).toNat) ∧ off [] [83, 84] h b.2 := by
  have H := ms_ok hP hS hA hB
  have b20 : h 14 2 ≤ 20 := hS.1.2.2.2.2.1
  have bn : 0 ≤ h 14 2 := hS.1.2.2.2.1
  have e16 := hS.2.2.2.1
  have B2 := hB.2.1
  rw [hd] at H
  obtain ⟨-, -, -, -, -, -, -, -, g9, g10⟩ := H
  refine xloop_W (I := fun s => 0 ≤ s.2.1 ∧ s.2.1 ≤ 7 + h 14 2 ∧ s.1 = min v0 (mnf (vlF (sp h (pA h) (pB h)) (tA h) (tB h) (fun x y => h 116 (13 * x + y)) d j) s.2.1.toNat) ∧ off [] [83, 84] h s.2.2) (fun s => (7 + h 14 2 - s.2.1).toNat) ?_ ⟨by dsimp only; omega, by dsimp only; omega, by dsimp only; show v0 = min v0 1000000; omega, off_rf⟩
  rintro ⟨v, c, g⟩ hI
  dsimp only at hI ⊢
  obtain ⟨c0, c1, ev, og⟩ := hI
  obtain ⟨P', S', A', B', e1, e2, e3, e4, e5, e6, e7, e8⟩ := ms_fr (off_w og (by decide) (by decide)) hP hS hA hB
  by_cases q : c < 7 + h 14 2
  · left
    rw [m_takes S' c0 (by rw [e8]; exact q), e6, e7]
    obtain ⟨a1, a2, a3, a4, a5⟩ := g9 c c0 (by omega)
    have far := mnf_far (f := vlF (sp h (pA h) (pB h)) (tA h) (tB h) (fun x y => h 116 (13 * x + y)) d j) (n := c.toNat)
    have nx : mnf (vlF (sp h (pA h) (pB h)) (tA h) (tB h) (fun x y => h 116 (13 * x + y)) d j) (c + 1).toNat = min (mnf (vlF (sp h (pA h) (pB h)) (tA h) (tB h) (fun x y => h 116 (13 * x + y)) d j) c.toNat) (vlF (sp h (pA h) (pB h)) (tA h) (tB h) (fun x y => h 116 (13 * x + y)) d j c) := by
      have : (c + 1).toNat = c.toNat + 1 := by omega
      rw [this]
      show min _ (vlF _ _ _ _ d j ((c.toNat : Nat) : Int)) = _
      rw [show ((c.toNat : Nat) : Int) = c from by omega]
    have e240 : ∀ (v : Int) (g : xH), f_Md_stateRow_240 d j v c g = some (Sum.inl (v, c + 1, g)) := fun v g => by
      unfold f_Md_stateRow_240
      rw [w32_id (by omega) (by omega), xlet_eq]
    -- kept as it was
    have same : vlF (sp h (pA h) (pB h)) (tA h) (tB h) (fun x y => h 116 (13 * x + y)) d j c ≥ 1000000 → ∀ g', off [] [83, 84] h g' → ∃ s' : Int × Int × xH, some (Sum.inl (v, c + 1, g')) = some (Sum.inl s' : (Int × Int × xH) ⊕ (Int × xH)) ∧ (0 ≤ s'.2.1 ∧ s'.2.1 ≤ 7 + h 14 2 ∧ s'.1 = min v0 (mnf (vlF (sp h (pA h) (pB h)) (tA h) (tB h) (fun x y => h 116 (13 * x + y)) d j) s'.2.1.toNat) ∧ off [] [83, 84] h s'.2.2) ∧ (7 + h 14 2 - s'.2.1).toNat < (7 + h 14 2 - c).toNat := fun w g' og' => ⟨(v, c + 1, g'), rfl, ⟨by dsimp only; omega, by dsimp only; omega, by dsimp only; rw [nx]; omega, og'⟩, by dsimp only; omega⟩
    unfold f_Md_stateRow_152
    rw [w32_id (z := d - tA h c) (by omega) (by omega), w32_id (z := j - tB h c) (by omega) (by omega), e240]
    by_cases z1 : d - tA h c < 0
    · rw [if_pos z1]
      exact same (by unfold vlF; rw [if_pos (Or.inl z1)]; omega) g og
    rw [if_neg z1]
    by_cases z2 : j - tB h c < 0
    · rw [if_pos z2]
      exact same (by unfold vlF; rw [if_pos (Or.inr z2)]; omega) g og
    have ee : 13 * (d - tA h c) + j - tB h c = 13 * (d - tA h c) + (j - tB h c) := by omega
    have bd := hT' (d - tA h c) (j - tB h c) (by omega) (by omega) (by omega) (by omega) (by omega)
    rw [if_neg z2, w32_id (z := 13 * (d - tA h c)) (by omega) (by omega), w32_id (z := 13 * (d - tA h c) + j) (by omega) (by omega), w32_id (z := 13 * (d - tA h c) + j - tB h c) (by omega) (by omega), ee, xgd_pos (by omega) (by omega), xlet_eq, og.1 116 (by decide) (by decide)]
    have evl : vlF (sp h (pA h) (pB h)) (tA h) (tB h) (fun x y => h 116 (13 * x + y)) d j c = if sp h (pA h) (pB h) c (d - tA h c) (j - tB h c) = -1 then 1000000 else sp h (pA h) (pB h) c (d - tA h c) (j - tB h c) + h 116 (13 * (d - tA h c) + (j - tB h c)) := by
      unfold vlF
      rw [if_neg (by omega)]
    have bs : sp h (pA h) (pB h) c (d - tA h c) (j - tB h c) ≠ -1 → 0 ≤ sp h (pA h) (pB h) c (d - tA h c) (j - tB h c) ∧ sp h (pA h) (pB h) c (d - tA h c) (j - tB h c) ≤ 9999 := fun w => by
      have := g10 c _ _ c0 (by omega) (by omega) (by omega) (by omega) (by omega) w
      omega
    by_cases z3 : h 116 (13 * (d - tA h c) + (j - tB h c)) < 1000000
    · have st := m_try P' S' A' B' (c := c) (i := d - tA h c) (j := j - tB h c) c0 (by rw [e8]; exact q) (by omega) (by omega) (by omega) (by omega)
      rw [e3, e4, e5, e6, e7] at st
      have og' : off [] [83, 84] h (hT g (tA h c) (tB h c)) := off_w (off_tr og hT_off) (by decide) (by decide)
      rw [if_pos z3, w32_id (z := c - 7) (by omega) (by omega), st, xc2_some, e240]
      by_cases z : sp h (pA h) (pB h) c (d - tA h c) (j - tB h c) = -1
      · rw [if_pos z] at evl
        rw [z, fr_n, if_neg (by omega)]
        exact same (by omega) _ og'
      · rw [if_neg z] at evl
        have := bs z
        rw [fr_p this.1, if_pos (by omega), w32_id (by omega) (by omega), min_s, xc1_some, e240]
        refine ⟨(min v (sp h (pA h) (pB h) c (d - tA h c) (j - tB h c) + h 116 (13 * (d - tA h c) + (j - tB h c))), c + 1, hT g (tA h c) (tB h c)), rfl, ⟨by dsimp only; omega, by dsimp only; omega, ?_, og'⟩, by dsimp only; omega⟩
        dsimp only
        rw [nx, evl]
        omega
    · rw [if_neg z3]
      refine same ?_ g og
      rw [evl]
      split
      · omega
      · next z => have := bs z; omega
  · right
    unfold f_Md_stateRow_s34
    refine ⟨(v, g), ?_, ?_, og⟩
    · rw [og.2 16 (by decide), e16, w32_id (by omega) (by omega), if_neg q]
    · dsimp only
      rw [ev, show c = 7 + h 14 2 by omega]
