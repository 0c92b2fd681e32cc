/-! THE CLASS'S WALK: letters put in, along one depth -/
theorem mnf_3 {f : Int → Int} : ∀ {n : Nat}, mnf f n = min (mnf (fun c => if c = 3 then 1000000 else f c) n) (if 3 < n then f 3 else 1000000)
  | 0 => by show (1000000 : Int) = min 1000000 _; rw [if_neg (by omega)]; omega
  | n + 1 => by
    have ih := mnf_3 (f := f) (n := n)
    have far := mnf_far (f := fun c => if c = 3 then 1000000 else f c) (n := n)
    show min (mnf f n) (f n) = min (min (mnf (fun c => if c = 3 then 1000000 else f c) n) (if (n : Int) = 3 then 1000000 else f n)) _
    by_cases z : n = 3
    · subst z
      rw [if_neg (by omega)] at ih
      rw [if_pos (by decide : ((3 : Nat) : Int) = 3), if_pos (by omega), ih]
      show min (min _ _) (f 3) = _
      omega
    · rw [if_neg (by omega : ¬ (n : Int) = 3)]
      by_cases y : 3 < n
      · rw [if_pos y] at ih
        rw [if_pos (by omega), ih]
        omega
      · rw [if_neg y] at ih
        rw [if_neg (by omega), ih]
        omega
theorem s_put3 {h : xH} {d u : Int} (hP : Pr h) (hS : So h) (ht : TQ 55 h) (hu : TQ u h) (n3 : u ≠ 57) (n4 : u + 1 ≠ 57) (d0 : 0 ≤ d) (d1 : d ≤ h 55 1)
    (hT : ∀ y, 0 ≤ y → y ≤ h u 1 → 0 ≤ h 57 (d * 13 + y) ∧ h 57 (d * 13 + y) ≤ 1000000) : ∃ h', f_Walk_reach 3 d u h = some h' ∧ (∀ x, x ≠ 57 → h' x = h x) ∧ (∀ k, (∀ y, 0 ≤ y → y ≤ h u 1 → k ≠ d * 13 + y) → h' 57 k = h 57 k) ∧ h' 57 (d * 13 + 0) = h 57 (d * 13 + 0) ∧ (∀ y, 0 ≤ y → y < h u 1 → h' 57 (d * 13 + (y + 1)) = min (h 57 (d * 13 + (y + 1))) (sp h (tp h 55) (tp h u) 3 d y + h' 57 (d * 13 + y))) ∧ ∀ y, 0 ≤ y → y ≤ h u 1 → 0 ≤ h' 57 (d * 13 + y) ∧ h' 57 (d * 13 + y) ≤ 1000000 := by
  have H := cs_ok hP hS ht hu
  have t2 := ht.2.1
  have u1 := hu.1
  have u2 := hu.2.1
  have bn : 0 ≤ h 14 2 := hS.1.2.2.2.1
  obtain ⟨-, -, -, -, -, -, -, g8, g9, g10⟩ := H
  obtain ⟨tA0, tA1, tA2, tA3, tA4, tA5, tA6⟩ := tA_k (h := h)
  obtain ⟨tB0, tB1, tB2, tB3, tB4, tB5, tB6⟩ := tB_k (h := h)
  unfold f_Walk_reach f_Slips_mayStand f_Slips_mayStand_22 f_Walk_reach_48
  rw [s_meantTaken hS (by omega) (by omega), xc1_some, tA3, w32_id (z := d - 0) (by omega) (by omega), xlet_eq, if_neg (by omega), if_pos (by omega), xc1_some, if_neg (by omega), s_typedTaken hS (by omega) (by omega), xc1_some, tB3, Int.sub_zero]
  obtain ⟨b', e, hb⟩ := xloop_W (step := fun s : Int × xH => f_Walk_reach_s48 3 d u d 1 s.1 s.2) (I := fun s => 0 ≤ s.1 ∧ s.1 ≤ h u 1 ∧ (∀ x, x ≠ 57 → s.2 x = h x) ∧ (∀ k, (∀ y, 0 ≤ y → y ≤ h u 1 → k ≠ d * 13 + y) → s.2 57 k = h 57 k) ∧ s.2 57 (d * 13 + 0) = h 57 (d * 13 + 0) ∧ (∀ y, 0 ≤ y → y < s.1 → s.2 57 (d * 13 + (y + 1)) = min (h 57 (d * 13 + (y + 1))) (sp h (tp h 55) (tp h u) 3 d y + s.2 57 (d * 13 + y))) ∧ (∀ y, s.1 < y → y ≤ h u 1 → s.2 57 (d * 13 + y) = h 57 (d * 13 + y)) ∧ ∀ y, 0 ≤ y → y ≤ h u 1 → 0 ≤ s.2 57 (d * 13 + y) ∧ s.2 57 (d * 13 + y) ≤ 1000000) (fun s => (h u 1 + 1 - s.1).toNat)
    (post := fun h' => (∀ x, x ≠ 57 → h' x = h x) ∧ (∀ k, (∀ y, 0 ≤ y → y ≤ h u 1 → k ≠ d * 13 + y) → h' 57 k = h 57 k) ∧ h' 57 (d * 13 + 0) = h 57 (d * 13 + 0) ∧ (∀ y, 0 ≤ y → y < h u 1 → h' 57 (d * 13 + (y + 1)) = min (h 57 (d * 13 + (y + 1))) (sp h (tp h 55) (tp h u) 3 d y + h' 57 (d * 13 + y))) ∧ ∀ y, 0 ≤ y → y ≤ h u 1 → 0 ≤ h' 57 (d * 13 + y) ∧ h' 57 (d * 13 + y) ≤ 1000000) (s := (0, h)) (by
      rintro ⟨j, g⟩ hI
      dsimp only at hI ⊢
      obtain ⟨j0, j1, hg, hk, h0, hm, hr, hb⟩ := hI
      have og : off [57] [] h g := ⟨fun x h0 hn => hg x (fun z => hn (by simp [z])), fun x _ => by rw [hg 81 (by decide)]⟩
      have ce : ∀ x, 10 ≤ x → x ≤ 20 → g x = h x := fun x a b => hg x (by omega)
      have S1 : So g := So_off og (by decide) hS
      have T1 : TQ 55 g := by unfold TQ; rw [hg 55 (by decide), hg (55 + 1) (by decide)]; exact ht
      have U1 : TQ u g := by unfold TQ; rw [hg u n3, hg (u + 1) n4]; exact hu
      have r1 := sp_cg ce
      have r2 : tp g 55 = tp h 55 := by unfold tp; rw [hg 55 (by decide), hg (55 + 1) (by decide)]
      have r3 : tp g u = tp h u := by unfold tp; rw [hg u n3, hg (u + 1) n4]
      unfold f_Walk_reach_s48
      rw [hg u n3, w32_id (z := j + 1) (by omega) (by omega)]
      by_cases q3 : h u 1 < j + 1
      · right
        exact ⟨g, by rw [if_pos q3], hg, hk, h0, fun y y0 y1 => hm y y0 (by omega), hb⟩
      · left
        have pa := s_priceAt (c := 3) (i := d) (j := j) S1 T1 U1 (by omega) (by rw [ce 14 (by decide) (by decide)]; omega) d0 (by omega) j0 (by omega)
        rw [r1, r2, r3] at pa
        have ne := g8 d j d0 d1 j0 (by omega)
        have bd := g10 3 d j (by omega) (by omega) d0 d1 j0 (by omega) ne
        have gj := hr (j + 1) (by omega) (by omega)
        have b1 := hb j j0 j1
        have b2 := hb (j + 1) (by omega) (by omega)
        have nxt : ∀ g' : xH, (∀ x, x ≠ 57 → g' x = h x) → (∀ k, k ≠ d * 13 + (j + 1) → g' 57 k = g 57 k) → g' 57 (d * 13 + (j + 1)) = min (h 57 (d * 13 + (j + 1))) (sp h (tp h 55) (tp h u) 3 d j + g 57 (d * 13 + j)) → (0 ≤ j + 1 ∧ j + 1 ≤ h u 1 ∧ (∀ x, x ≠ 57 → g' x = h x) ∧ (∀ k, (∀ y, 0 ≤ y → y ≤ h u 1 → k ≠ d * 13 + y) → g' 57 k = h 57 k) ∧ g' 57 (d * 13 + 0) = h 57 (d * 13 + 0) ∧ (∀ y, 0 ≤ y → y < j + 1 → g' 57 (d * 13 + (y + 1)) = min (h 57 (d * 13 + (y + 1))) (sp h (tp h 55) (tp h u) 3 d y + g' 57 (d * 13 + y))) ∧ (∀ y, j + 1 < y → y ≤ h u 1 → g' 57 (d * 13 + y) = h 57 (d * 13 + y)) ∧ ∀ y, 0 ≤ y → y ≤ h u 1 → 0 ≤ g' 57 (d * 13 + y) ∧ g' 57 (d * 13 + y) ≤ 1000000) := by
          intro g' w1 w2 w3
          refine ⟨by omega, by omega, w1, fun k hk' => ?_, ?_, fun y y0 y1 => ?_, fun y y0 y1 => ?_, fun y y0 y1 => ?_⟩
          · rw [w2 k (hk' _ (by omega) (by omega))]; exact hk k hk'
          · rw [w2 _ (by omega)]; exact h0
          · by_cases z : y = j
            · rw [z, w3, w2 _ (by omega)]
            · rw [w2 _ (by omega), w2 _ (by omega)]; exact hm y y0 (by omega)
          · rw [w2 _ (by omega)]; exact hr y (by omega) y1
          · by_cases z : y = j + 1
            · rw [z, w3]; omega
            · rw [w2 _ (by omega)]; exact hb y y0 y1
        have e174 : ∀ g' : xH, f_Walk_reach_174 3 d u d 1 j g' = some (Sum.inl (j + 1, g')) := fun g' => by
          unfold f_Walk_reach_174
          rw [xlet_eq, w32_id (by omega) (by omega)]
        rw [if_neg q3, w32_id (z := d * 13) (by omega) (by omega), w32_id (z := d * 13 + j) (by omega) (by omega), xlet_eq, w32_id (z := d * 13 + j + 1) (by omega) (by omega), xlet_eq, pa, xc1_some, e174]
        have ea : d * 13 + j + 1 = d * 13 + (j + 1) := by omega
        rw [if_neg ne, if_neg (by omega), if_pos (by omega), if_neg (by omega), if_pos (by omega), xgd_pos (by omega) (by omega), xgd_pos (by omega) (by omega), w32_id (by omega) (by omega), ea]
        by_cases q5 : g 57 (d * 13 + j) + sp h (tp h 55) (tp h u) 3 d j < g 57 (d * 13 + (j + 1))
        · refine ⟨(j + 1, xup g 57 (d * 13 + (j + 1)) (g 57 (d * 13 + j) + sp h (tp h 55) (tp h u) 3 d j)), ?_, nxt _ (fun x hx => by dsimp only; rw [xup_row hx]; exact hg x hx) (fun k hk' => xup_ne_j hk') (by dsimp only; rw [xup_same]; omega), by dsimp only; omega⟩
          rw [if_pos q5, xgd_pos (by omega) (by omega), xgd_pos (by omega) (by omega), xlet_eq, e174]
        · exact ⟨(j + 1, g), by rw [if_neg q5], nxt g hg (fun _ _ => rfl) (by rw [gj] at q5 ⊢; omega), by dsimp only; omega⟩) ⟨by dsimp only; omega, by dsimp only; omega, fun _ _ => rfl, fun _ _ => rfl, rfl, fun y y0 y1 => by dsimp only at y1; omega, fun y y0 y1 => rfl, hT⟩
  rw [e, xc1_some]
  exact ⟨b', rfl, hb⟩
