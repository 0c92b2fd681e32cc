/-! THE CLASS'S WALK: one code reaches the states of one depth -/
theorem s_mayStand {h : xH} {t c i : Int} (hS : So h) (ht : TQ t h) (c0 : 0 ≤ c) (c1 : c < 7 + h 14 2) (i0 : 0 ≤ i) (i1 : i ≤ 12) : ∃ b, f_Slips_mayStand c t i h = some b ∧ (b = 1 ∨ b = 0 ∧ ∀ q j, sp h (tp h t) q c i j = -1) := by
  have b20 : h 14 2 ≤ 20 := hS.1.2.2.2.2.1
  unfold f_Slips_mayStand f_Slips_mayStand_22
  by_cases z : c < 7
  · exact ⟨1, by rw [if_pos z], Or.inl rfl⟩
  · rw [if_neg z, w32_id (by omega) (by omega)]
    obtain ⟨b1, e1, r1⟩ := s_Rows_standsIn (p := i) hS.1 (r := c - 7) (by omega) (by omega) ht.2.1 i1
    rw [stIn_stq hS.1 (by omega) (by omega) ht i0] at r1
    rw [e1, xc1_some]
    rcases r1 with ⟨rfl, r1⟩ | ⟨rfl, r1⟩
    · exact ⟨1, by rw [if_neg (by omega)], Or.inl rfl⟩
    · refine ⟨0, by rw [if_pos rfl], Or.inr ⟨rfl, fun q j => ?_⟩⟩
      unfold sp
      rw [if_neg (by omega), if_neg (by omega), if_neg (by omega), if_neg (by omega), if_neg (by omega), if_neg (by omega), if_neg (by omega), sv_neg (fun w => r1 w.1)]
theorem s_reach {h : xH} {c d u : Int} (hP : Pr h) (hS : So h) (ht : TQ 55 h) (hu : TQ u h) (n3 : u ≠ 57) (n4 : u + 1 ≠ 57) (c0 : 0 ≤ c) (c1 : c < 7 + h 14 2) (c3 : 1 ≤ tA h c) (d0 : 0 ≤ d) (d1 : d ≤ h 55 1)
    (hT : ∀ x y, 0 ≤ x → x ≤ h 55 1 → 0 ≤ y → y ≤ h u 1 → x ≤ d → 0 ≤ h 57 (x * 13 + y) ∧ h 57 (x * 13 + y) ≤ 1000000) : ∃ h', f_Walk_reach c d u h = some h' ∧ (∀ x, x ≠ 57 → h' x = h x) ∧ (∀ k, (∀ y, 0 ≤ y → y ≤ h u 1 → k ≠ d * 13 + y) → h' 57 k = h 57 k) ∧ ∀ y, 0 ≤ y → y ≤ h u 1 → h' 57 (d * 13 + y) = min (h 57 (d * 13 + y)) (vlF (sp h (tp h 55) (tp h u)) (tA h) (tB h) (fun x y => h 57 (x * 13 + y)) d y c) := by
  have H := cs_ok hP hS ht hu
  have t2 := ht.2.1
  have u1 := hu.1
  have u2 := hu.2.1
  have b20 : h 14 2 ≤ 20 := hS.1.2.2.2.2.1
  obtain ⟨-, -, -, -, -, -, -, -, g9, g10⟩ := H
  obtain ⟨a1, a2, a3, a4, a5⟩ := g9 c c0 (by omega)
  have none : (∀ y, 0 ≤ y → y ≤ h u 1 → vlF (sp h (tp h 55) (tp h u)) (tA h) (tB h) (fun x y => h 57 (x * 13 + y)) d y c = 1000000) → ∃ h', some h = some h' ∧ (∀ x, x ≠ 57 → h' x = h x) ∧ (∀ k, (∀ y, 0 ≤ y → y ≤ h u 1 → k ≠ d * 13 + y) → h' 57 k = h 57 k) ∧ ∀ y, 0 ≤ y → y ≤ h u 1 → h' 57 (d * 13 + y) = min (h 57 (d * 13 + y)) (vlF (sp h (tp h 55) (tp h u)) (tA h) (tB h) (fun x y => h 57 (x * 13 + y)) d y c) := fun w => ⟨h, rfl, fun _ _ => rfl, fun _ _ => rfl, fun y y0 y1 => by
    rw [w y y0 y1]
    have := hT d y d0 d1 y0 y1 (Int.le_refl _)
    omega⟩
  unfold f_Walk_reach
  rw [s_meantTaken hS c0 c1, xc1_some, w32_id (z := d - tA h c) (by omega) (by omega), xlet_eq]
  by_cases q1 : d - tA h c < 0
  · rw [if_pos q1]
    exact none (fun y y0 y1 => by unfold vlF; rw [if_pos (Or.inl q1)])
  rw [if_neg q1]
  obtain ⟨b, e1, e2⟩ := s_mayStand (i := d - tA h c) hS ht c0 c1 (by omega) (by omega)
  rw [e1, xc1_some]
  by_cases q2 : b = 0
  · rw [if_pos q2]
    rcases e2 with e2 | ⟨-, e2⟩
    · omega
    · exact none (fun y y0 y1 => by
        unfold vlF
        split
        · rfl
        · rw [if_pos (e2 _ _)])
  rw [if_neg q2, s_typedTaken hS c0 c1, xc1_some]
  unfold f_Walk_reach_48
  have fr : ∀ g : xH, (∀ x, x ≠ 57 → g x = h x) → So g ∧ TQ 55 g ∧ TQ u g ∧ sp g = sp h ∧ tp g 55 = tp h 55 ∧ tp g u = tp h u ∧ g 14 = h 14 ∧ g u = h u := by
    intro g hg
    have og : off [57] [] h g := ⟨fun x h0 hn => hg x (fun z => hn (by simp [z])), fun x _ => by rw [hg 81 (by decide)]⟩
    have e : ∀ x, 10 ≤ x → x ≤ 20 → g x = h x := fun x a b => hg x (by omega)
    refine ⟨So_off og (by decide) hS, ?_, ?_, sp_cg e, ?_, ?_, e 14 (by decide) (by decide), hg u n3⟩
    · unfold TQ; rw [hg 55 (by decide), hg (55 + 1) (by decide)]; exact ht
    · unfold TQ; rw [hg u n3, hg (u + 1) n4]; exact hu
    · unfold tp; rw [hg 55 (by decide), hg (55 + 1) (by decide)]
    · unfold tp; rw [hg u n3, hg (u + 1) n4]
  obtain ⟨b', e, hb⟩ := xloop_W (step := fun s : Int × xH => f_Walk_reach_s48 c d u (d - tA h c) (tB h c) s.1 s.2) (I := fun s => 0 ≤ s.1 ∧ s.1 + tB h c ≤ h u 1 + 1 + tB h c ∧ (∀ x, x ≠ 57 → s.2 x = h x) ∧ (∀ k, (∀ y, 0 ≤ y → y ≤ h u 1 → k ≠ d * 13 + y) → s.2 57 k = h 57 k) ∧ (∀ y, 0 ≤ y → y ≤ h u 1 → y < s.1 + tB h c → s.2 57 (d * 13 + y) = min (h 57 (d * 13 + y)) (vlF (sp h (tp h 55) (tp h u)) (tA h) (tB h) (fun x y => h 57 (x * 13 + y)) d y c)) ∧ ∀ y, s.1 + tB h c ≤ y → y ≤ h u 1 → s.2 57 (d * 13 + y) = h 57 (d * 13 + y)) (fun s => (h u 1 + 1 - s.1).toNat)
    (post := fun h' => (∀ x, x ≠ 57 → h' x = h x) ∧ (∀ k, (∀ y, 0 ≤ y → y ≤ h u 1 → k ≠ d * 13 + y) → h' 57 k = h 57 k) ∧ ∀ y, 0 ≤ y → y ≤ h u 1 → h' 57 (d * 13 + y) = min (h 57 (d * 13 + y)) (vlF (sp h (tp h 55) (tp h u)) (tA h) (tB h) (fun x y => h 57 (x * 13 + y)) d y c)) (s := (0, h)) (by
      rintro ⟨j, g⟩ hI
      dsimp only at hI ⊢
      obtain ⟨j0, j1, hg, hk, hm, hr⟩ := hI
      obtain ⟨S1, T1, U1, r1, r2, r3, r4, r5⟩ := fr g hg
      unfold f_Walk_reach_s48
      rw [r5, w32_id (z := j + tB h c) (by omega) (by omega)]
      by_cases q3 : h u 1 < j + tB h c
      · right
        exact ⟨g, by rw [if_pos q3], hg, hk, fun y y0 y1 => hm y y0 y1 (by omega)⟩
      · left
        have pa := s_priceAt (c := c) (i := d - tA h c) (j := j) S1 T1 U1 c0 (by rw [r4]; exact c1) (by omega) (by omega) j0 (by omega)
        rw [r1, r2, r3] at pa
        have ev : vlF (sp h (tp h 55) (tp h u)) (tA h) (tB h) (fun x y => h 57 (x * 13 + y)) d (j + tB h c) c = if sp h (tp h 55) (tp h u) c (d - tA h c) j = -1 then 1000000 else sp h (tp h 55) (tp h u) c (d - tA h c) j + h 57 ((d - tA h c) * 13 + j) := by
          unfold vlF
          rw [if_neg (by omega), show j + tB h c - tB h c = j by omega]
        have dj' := hT d (j + tB h c) d0 d1 (by omega) (by omega) (Int.le_refl _)
        have ej := hT (d - tA h c) j (by omega) (by omega) j0 (by omega) (by omega)
        have gj := hr (j + tB h c) (Int.le_refl _) (by omega)
        have ge : g 57 ((d - tA h c) * 13 + j) = h 57 ((d - tA h c) * 13 + j) := hk _ (fun y y0 y1 => by omega)
        -- the next place, whatever was kept
        have nxt : ∀ g' : xH, (∀ x, x ≠ 57 → g' x = h x) → (∀ k, k ≠ d * 13 + (j + tB h c) → g' 57 k = g 57 k) → g' 57 (d * 13 + (j + tB h c)) = min (h 57 (d * 13 + (j + tB h c))) (vlF (sp h (tp h 55) (tp h u)) (tA h) (tB h) (fun x y => h 57 (x * 13 + y)) d (j + tB h c) c) → (0 ≤ j + 1 ∧ j + 1 + tB h c ≤ h u 1 + 1 + tB h c ∧ (∀ x, x ≠ 57 → g' x = h x) ∧ (∀ k, (∀ y, 0 ≤ y → y ≤ h u 1 → k ≠ d * 13 + y) → g' 57 k = h 57 k) ∧ (∀ y, 0 ≤ y → y ≤ h u 1 → y < j + 1 + tB h c → g' 57 (d * 13 + y) = min (h 57 (d * 13 + y)) (vlF (sp h (tp h 55) (tp h u)) (tA h) (tB h) (fun x y => h 57 (x * 13 + y)) d y c)) ∧ ∀ y, j + 1 + tB h c ≤ y → y ≤ h u 1 → g' 57 (d * 13 + y) = h 57 (d * 13 + y)) := by
          intro g' w1 w2 w3
          refine ⟨by omega, by omega, w1, fun k hk' => ?_, fun y y0 y1 y2 => ?_, fun y y0 y1 => ?_⟩
          · rw [w2 k (hk' _ (by omega) (by omega))]; exact hk k hk'
          · by_cases z : y = j + tB h c
            · rw [z]; exact w3
            · rw [w2 _ (by omega)]; exact hm y y0 y1 (by omega)
          · rw [w2 _ (by omega)]; exact hr y (by omega) y1
        have bd : sp h (tp h 55) (tp h u) c (d - tA h c) j ≠ -1 → 0 ≤ sp h (tp h 55) (tp h u) c (d - tA h c) j ∧ sp h (tp h 55) (tp h u) c (d - tA h c) j ≤ 9999 := fun z => by
          have := g10 c (d - tA h c) j c0 (by omega) (by omega) (by omega) j0 (by omega) z
          omega
        have e174 : ∀ g' : xH, f_Walk_reach_174 c d u (d - tA h c) (tB h c) j g' = some (Sum.inl (j + 1, g')) := fun g' => by
          unfold f_Walk_reach_174
          rw [xlet_eq, w32_id (by omega) (by omega)]
        rw [if_neg q3, w32_id (z := (d - tA h c) * 13) (by omega) (by omega), w32_id (z := (d - tA h c) * 13 + j) (by omega) (by omega), xlet_eq, w32_id (z := d * 13) (by omega) (by omega), w32_id (z := d * 13 + j) (by omega) (by omega), w32_id (z := d * 13 + j + tB h c) (by omega) (by omega), xlet_eq, pa, xc1_some, e174]
        by_cases q4 : sp h (tp h 55) (tp h u) c (d - tA h c) j = -1
        · rw [if_pos q4] at ev
          refine ⟨(j + 1, g), by rw [if_pos q4], nxt g hg (fun _ _ => rfl) (by rw [gj, ev]; omega), by dsimp only; omega⟩
        · rw [if_neg q4] at ev
          have := bd q4
          have ea : d * 13 + j + tB h c = d * 13 + (j + tB h c) := by omega
          rw [if_neg q4, if_neg (by omega), if_pos (by omega), if_neg (by omega), if_pos (by omega), xgd_pos (by omega) (by omega), xgd_pos (by omega) (by omega), ge, w32_id (by omega) (by omega), ea, gj]
          by_cases q5 : h 57 ((d - tA h c) * 13 + j) + sp h (tp h 55) (tp h u) c (d - tA h c) j < h 57 (d * 13 + (j + tB h c))
          · refine ⟨(j + 1, xup g 57 (d * 13 + (j + tB h c)) (h 57 ((d - tA h c) * 13 + j) + sp h (tp h 55) (tp h u) c (d - tA h c) j)), ?_, nxt _ (fun x hx => by dsimp only; rw [xup_row hx]; exact hg x hx) (fun k hk' => xup_ne_j hk') (by dsimp only; rw [xup_same, ev]; omega), by dsimp only; omega⟩
            rw [if_pos q5, xgd_pos (by omega) (by omega), xgd_pos (by omega) (by omega), xlet_eq, e174]
          · exact ⟨(j + 1, g), by rw [if_neg q5], nxt g hg (fun _ _ => rfl) (by rw [gj, ev]; omega), by dsimp only; omega⟩) ⟨by dsimp only; omega, by dsimp only; omega, fun _ _ => rfl, fun _ _ => rfl, fun y y0 y1 y2 => by
            dsimp only at y2 ⊢
            have : vlF (sp h (tp h 55) (tp h u)) (tA h) (tB h) (fun x y => h 57 (x * 13 + y)) d y c = 1000000 := by unfold vlF; rw [if_pos (Or.inr (by omega))]
            rw [this]
            have := hT d y d0 d1 y0 y1 (Int.le_refl _)
            omega, fun y y0 y1 => rfl⟩
  rw [e, xc1_some]
  exact ⟨b', rfl, hb⟩
