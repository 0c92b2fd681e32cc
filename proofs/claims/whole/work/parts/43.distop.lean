/-! DISTANCE -/
theorem m_takeA {h : xH} {l n : Int} (l0 : 0 ≤ l) (l1 : l < 12) (hn : h 83 l = n) (n0 : 0 ≤ n) (n1 : n ≤ 12) : f_Md_takeA l h = some (hLay 97 0 n (fun k => h 84 (12 * l + k)) (xup h 81 22 n)) := by
  unfold f_Md_takeA f_Md_takeA_12
  rw [xgd_pos l0 l1, hn, xlet_eq]
  have key := xloop_T (step := fun s : Int × xH => f_Md_takeA_s12 l s.1 s.2) (fun k => ((k : Int), hLay 97 0 k (fun k => h 84 (12 * l + k)) (xup h 81 22 n))) n.toNat (s0 := (0, xup h 81 22 n)) (b := hLay 97 0 n.toNat (fun k => h 84 (12 * l + k)) (xup h 81 22 n)) (by rw [show ((0 : Nat) : Int) = 0 from rfl, hLay_0])
    (fun k hk => by
      dsimp only [f_Md_takeA_s12]
      rw [hLay_row (o' := 81) (by decide), xup_same, if_pos (by omega), w32_id (z := 12 * l) (by omega) (by omega), w32_id (z := 12 * l + (k : Int)) (by omega) (by omega), xgd_pos (by omega) (by omega), xgd_pos (by omega) (by omega), hLay_row (o' := 84) (by decide), xup_row (o' := 84) (by decide), xlet_eq, xlet_eq, w32_id (by omega) (by omega)]
      have := hLay_succ (o := 97) (p := 0) (n := k) (f := fun k => h 84 (12 * l + k)) (h := xup h 81 22 n) (by omega)
      rw [Int.zero_add] at this
      rw [this]
      rfl)
    (by
      dsimp only [f_Md_takeA_s12]
      rw [hLay_row (o' := 81) (by decide), xup_same, if_neg (by omega)])
  rw [key, xc1_some]
  unfold f_Md_takeA_43
  rw [show ((n.toNat : Nat) : Int) = n by omega]
theorem m_takeB {h : xH} {l n : Int} (l0 : 0 ≤ l) (l1 : l < 12) (hn : h 83 l = n) (n0 : 0 ≤ n) (n1 : n ≤ 12) : f_Md_takeB l h = some (hLay 98 0 n (fun k => h 84 (12 * l + k)) (xup h 81 23 n)) := by
  unfold f_Md_takeB f_Md_takeB_12
  rw [xgd_pos l0 l1, hn, xlet_eq]
  have key := xloop_T (step := fun s : Int × xH => f_Md_takeB_s12 l s.1 s.2) (fun k => ((k : Int), hLay 98 0 k (fun k => h 84 (12 * l + k)) (xup h 81 23 n))) n.toNat (s0 := (0, xup h 81 23 n)) (b := hLay 98 0 n.toNat (fun k => h 84 (12 * l + k)) (xup h 81 23 n)) (by rw [show ((0 : Nat) : Int) = 0 from rfl, hLay_0])
    (fun k hk => by
      dsimp only [f_Md_takeB_s12]
      rw [hLay_row (o' := 81) (by decide), xup_same, if_pos (by omega), w32_id (z := 12 * l) (by omega) (by omega), w32_id (z := 12 * l + (k : Int)) (by omega) (by omega), xgd_pos (by omega) (by omega), xgd_pos (by omega) (by omega), hLay_row (o' := 84) (by decide), xup_row (o' := 84) (by decide), xlet_eq, xlet_eq, w32_id (by omega) (by omega)]
      have := hLay_succ (o := 98) (p := 0) (n := k) (f := fun k => h 84 (12 * l + k)) (h := xup h 81 23 n) (by omega)
      rw [Int.zero_add] at this
      rw [this]
      rfl)
    (by
      dsimp only [f_Md_takeB_s12]
      rw [hLay_row (o' := 81) (by decide), xup_same, if_neg (by omega)])
  rw [key, xc1_some]
  unfold f_Md_takeB_43
  rw [show ((n.toNat : Nat) : Int) = n by omega]
theorem wP_in {sp : Int → Int → Int → Int} {ta tb : Int → Int} {K : Nat} {la lb : Int} (H : SPok sp ta tb K la lb) : ∀ {k : Nat}, (∀ m, m < k → ¬ wE sp ta tb K la lb m) → 0 ≤ (wP sp ta tb K la lb k).1 ∧ (wP sp ta tb K la lb k).1 ≤ la ∧ 0 ≤ (wP sp ta tb K la lb k).2 ∧ (wP sp ta tb K la lb k).2 ≤ lb
  | 0, _ => ⟨Int.le_refl _, H.1, Int.le_refl _, H.2.2.1⟩
  | k + 1, h => by
    obtain ⟨a, b, c, d⟩ := wP_in H (k := k) (fun m hm => h m (by omega))
    have := fc_to H a b c d (fc_is H a b c d (fun z => h k (by omega) z))
    show 0 ≤ (wP sp ta tb K la lb k).1 + ta _ ∧ (wP sp ta tb K la lb k).1 + ta _ ≤ la ∧ 0 ≤ (wP sp ta tb K la lb k).2 + tb _ ∧ (wP sp ta tb K la lb k).2 + tb _ ≤ lb
    omega
theorem m_copies {h : xH} {n : Int} (hn : h 81 27 = n) (n0 : 0 ≤ n) (n1 : n ≤ 24) : ∃ h', f_Md_distance_40 0 h = some (h 99 0, h') ∧ off [105, 106, 107, 108, 109] [] h h' ∧ ∀ k, 0 ≤ k → k < n → h' 105 k = h 100 k ∧ h' 106 k = h 101 k ∧ h' 107 k = h 102 k ∧ h' 108 k = h 103 k ∧ h' 109 k = h 104 k := by
  unfold f_Md_distance_40
  obtain ⟨b, e, b1, b2⟩ := xloop_W (step := fun s : Int × xH => f_Md_distance_s40 s.1 s.2) (I := fun s => 0 ≤ s.1 ∧ s.1 ≤ n ∧ off [105, 106, 107, 108, 109] [] h s.2 ∧ ∀ k, 0 ≤ k → k < s.1 → s.2 105 k = h 100 k ∧ s.2 106 k = h 101 k ∧ s.2 107 k = h 102 k ∧ s.2 108 k = h 103 k ∧ s.2 109 k = h 104 k) (fun s => (n - s.1).toNat)
    (post := fun b => off [105, 106, 107, 108, 109] [] h b ∧ ∀ k, 0 ≤ k → k < n → b 105 k = h 100 k ∧ b 106 k = h 101 k ∧ b 107 k = h 102 k ∧ b 108 k = h 103 k ∧ b 109 k = h 104 k) (s := (0, h)) (by
      rintro ⟨i, g⟩ hI
      dsimp only at hI ⊢
      obtain ⟨i0, i1, hg, hx⟩ := hI
      unfold f_Md_distance_s40
      rw [hg.2 27 (by decide), hn]
      by_cases q : i < n
      · left
        refine ⟨(i + 1, xup (xup (xup (xup (xup g 105 i (h 100 i)) 106 i (h 101 i)) 107 i (h 102 i)) 108 i (h 103 i)) 109 i (h 104 i)), ?_, ⟨by dsimp only; omega, by dsimp only; omega, off_w (off_tr hg (off_tr (off_tr (off_tr (off_tr (off_up (by decide)) (off_up (by decide))) (off_up (by decide))) (off_up (by decide))) (off_up (by decide)))) (by decide) (by decide), fun k k0 k1 => ?_⟩, by dsimp only; omega⟩
        · have e0 := hg.1 100 (by decide) (by decide)
          have e1 := hg.1 101 (by decide) (by decide)
          have e2 := hg.1 102 (by decide) (by decide)
          have e3 := hg.1 103 (by decide) (by decide)
          have e4 := hg.1 104 (by decide) (by decide)
          rw [if_pos q]
          simp (disch := omega) only [xgd_pos, xlet_eq, xup_row, e0, e1, e2, e3, e4, w32_id]
        · dsimp only at k1 ⊢
          by_cases z : k = i
          · subst z
            simp (disch := decide) only [xup_row, xup_same]
            exact ⟨trivial, trivial, trivial, trivial, trivial⟩
          · have := hx k k0 (by omega)
            simp (disch := omega) only [xup_row, xup_ne_j]
            exact this
      · right
        exact ⟨g, by rw [if_neg q], hg, fun k k0 k1 => hx k k0 (by omega)⟩) ⟨by dsimp only; omega, by dsimp only; omega, off_rf, fun k a b => by dsimp only at b; omega⟩
  rw [e, xc1_some]
  unfold f_Md_distance_114
  rw [xgd_pos (by omega) (by omega), b1.1 99 (by decide) (by decide)]
  exact ⟨b, rfl, b1, b2⟩
theorem op_distance : Op2 f_WM_distance f_Md_distance := by
  refine op2_of (fun _ _ => loc_Md_distance) (fun h hI => ?_)
  have hP := hI.2.2.2.1
  have hS := hI.2.2.2.2.1
  rcases rd2 (lo := 12) (by decide) hI.1 with ⟨n, f, m, g, h1, n1, n2, hfb, m1, m2, hgb, e1, o1, z1, hTa, a21, pa, -, hTb, a23, pb, -, hx⟩ | ⟨h1, e1, o1, z1, hx⟩
  · obtain ⟨h2, g1, g2, g3, g4, g5, g6⟩ := hx h rfl rfl
    have o2 := mfr_off g2
    -- the class
    have P1 : Pr h1 := Pr_off o1 (by decide) hP
    have S1 : So h1 := So_off o1 (by decide) hS
    have c1 : ∀ x, 10 ≤ x → x ≤ 20 → h1 x = h x := fun x a b => o1.1 x (by omega) (fun z => by simp at z; omega)
    obtain ⟨h3, k1, k2, k3⟩ := s_measure (o := 28) (Or.inl rfl) P1 S1 (TQ_of hTa) (TQ_of hTb) (by decide) (by decide) (by decide) (by decide)
    have o3 : off [29] [] h1 h3 := ⟨fun x h0 hn => k2 x (fun z => hn (by simp [z])), fun x _ => by rw [k2 81 (by decide)]⟩
    have P3 : Pr h3 := Pr_off o3 (by decide) P1
    have S3 : So h3 := So_off o3 (by decide) S1
    have t3 : ∀ x, x ≠ 29 → h3 x = h1 x := fun x hx => k2 x hx
    have T3 : TQ 21 h3 := by unfold TQ; rw [t3 21 (by decide), t3 (21 + 1) (by decide)]; exact TQ_of hTa
    have U3 : TQ 23 h3 := by unfold TQ; rw [t3 23 (by decide), t3 (23 + 1) (by decide)]; exact TQ_of hTb
    have c3 : ∀ x, 10 ≤ x → x ≤ 20 → h3 x = h x := fun x a b => by rw [t3 x (by omega), c1 x a b]
    have p3 : tp h3 21 = pad n f := by unfold tp at pa ⊢; rw [t3 21 (by decide), t3 (21 + 1) (by decide)]; exact pa
    have q3 : tp h3 23 = pad m g := by unfold tp at pb ⊢; rw [t3 23 (by decide), t3 (23 + 1) (by decide)]; exact pb
    have n3 : h3 21 1 = n := by rw [t3 21 (by decide)]; exact a21
    have m3 : h3 23 1 = m := by rw [t3 23 (by decide)]; exact a23
    have D1 : Dc h1 21 23 = DS (sp h (pad n f) (pad m g)) (tA h) (tB h) (7 + h 14 2).toNat n m := by unfold Dc; rw [sp_cg c1, tA_cg c1, tB_cg c1, c1 14 (by decide) (by decide), a21, a23, pa, pb]
    have D3 : Dc h3 21 23 = DS (sp h (pad n f) (pad m g)) (tA h) (tB h) (7 + h 14 2).toNat n m := by unfold Dc; rw [sp_cg c3, tA_cg c3, tB_cg c3, c3 14 (by decide) (by decide), n3, m3, p3, q3]
    obtain ⟨h4, w, l1, l2, l3, l4, l5, l6, l7⟩ := s_trace (o := 28) (Or.inl rfl) P3 S3 T3 U3 (by decide) (by decide) (fun x y a b c d => by rw [D3, ← D1]; exact k3 x y a (by rw [a21, ← n3]; exact b) c (by rw [a23, ← m3]; exact d))
    rw [sp_cg c3, tA_cg c3, tB_cg c3, c3 14 (by decide) (by decide), n3, m3, p3, q3] at l5 l6 l7
    simp only [Int.reduceAdd] at l2 l7
    have o4 : off [28, 30, 31, 32, 33] [] h3 h4 := ⟨fun x h0 hn => l2 x (fun z => hn (by simp [z])) (fun z => hn (by simp [z])) (fun z => hn (by simp [z])) (fun z => hn (by simp [z])) (fun z => hn (by simp [z])), fun x _ => by rw [l2 81 (by decide) (by decide) (by decide) (by decide) (by decide)]⟩
    have oc := off_tr o1 (off_tr o3 o4)
    -- the model
    have tk1 := m_takeA (h := h2) (l := 0) (by decide) (by decide) g3 (by omega) n2
    generalize hy3 : hLay 97 0 n (fun k => h2 84 (12 * 0 + k)) (xup h2 81 22 n) = y3 at tk1
    have oy3 : off [97] [22] h2 y3 := by rw [← hy3]; exact off_w (off_tr off_um (off_lay (by decide))) (by decide) (by decide)
    have tk2 := m_takeB (h := y3) (l := 1) (by decide) (by decide) (by rw [oy3.1 83 (by decide) (by decide)]; exact g5) (by omega) m2
    generalize hy4 : hLay 98 0 m (fun k => y3 84 (12 * 1 + k)) (xup y3 81 23 m) = y4 at tk2
    have oy4 : off [98] [23] y3 y4 := by rw [← hy4]; exact off_w (off_tr off_um (off_lay (by decide))) (by decide) (by decide)
    have b22 : y4 81 22 = n := by
      rw [oy4.2 22 (by decide), ← hy3, hLay_row (by decide), xup_same]
    have b23 : y4 81 23 = m := by
      rw [← hy4, hLay_row (by decide), xup_same]
    have b97 : ∀ k, 0 ≤ k → k < n → y4 97 k = f k := fun k k0 kn => by
      rw [oy4.1 97 (by decide) (by decide), ← hy3, hLay_in k0 (by omega), show 12 * 0 + (k - 0) = k by omega]
      exact g4 k k0 kn
    have b98 : ∀ k, 0 ≤ k → k < m → y4 98 k = g k := fun k k0 kn => by
      rw [← hy4, hLay_in k0 (by omega), oy3.1 84 (by decide) (by decide), show 12 * 1 + (k - 0) = 12 + k by omega]
      exact g6 k k0 kn
    have om4 := off_tr o2 (off_tr oy3 oy4)
    have P4 : Pr y4 := Pr_off om4 (by decide) hP
    have S4 : So y4 := So_off om4 (by decide) hS
    have c4 : ∀ x, 10 ≤ x → x ≤ 20 → y4 x = h x := fun x a b => om4.1 x (by omega) (fun z => by simp at z; omega)
    have A4 : MA y4 := ⟨by omega, by omega, fun k k0 kn => by rw [b22] at kn; rw [b97 k k0 kn]; exact hfb k k0 kn⟩
    have B4 : MB y4 := ⟨by omega, by omega, fun k k0 kn => by rw [b23] at kn; rw [b98 k k0 kn]; exact hgb k k0 kn⟩
    have p4 : pA y4 = pad n f := pad_ext b22 b97
    have q4 : pB y4 = pad m g := pad_ext b23 b98
    have D4 : Dm y4 = DS (sp h (pad n f) (pad m g)) (tA h) (tB h) (7 + h 14 2).toNat n m := by unfold Dm; rw [sp_cg c4, tA_cg c4, tB_cg c4, c4 14 (by decide) (by decide), b22, b23, p4, q4]
    obtain ⟨y5, s1, s2, s3⟩ := m_sums P4 S4 A4 B4
    obtain ⟨P5, S5, A5, B5, d1, d2, d3, d4, d5, d6, d7, d8⟩ := ms_fr s2 P4 S4 A4 B4
    have D5 : Dm y5 = Dm y4 := by unfold Dm; rw [d1, d2, d3, d4, d5, d6, d7, d8]
    obtain ⟨y6, w', v1, v2, v3, v4, v5, v6, r, v7, v8⟩ := m_ways P5 S5 A5 B5 (fun x y a b c d => by rw [D5]; exact s3 x y a (by omega) c (by omega))
    rw [d1, d2, d3, d4, d5, d6, d7, d8, sp_cg c4, tA_cg c4, tB_cg c4, c4 14 (by decide) (by decide), b22, b23, p4, q4] at v5 v6 v7
    have ww : w' = w := wE_uniq v5 v6 l5 l6
    subst ww
    obtain ⟨y8, x1, x2, x3⟩ := m_copies (h := xup y6 81 33 w') (n := w') (by rw [xup_ne_j (by decide)]; exact v3) (by omega) (by omega)
    have oM := off_tr om4 (off_tr s2 (off_tr v2 (off_tr (off_um (j := 33) (v := (w' : Int))) x2)))
    have Hs : SPok (sp h (pad n f) (pad m g)) (tA h) (tB h) (7 + h 14 2).toNat n m := sp_ok hP hS (by omega) n2 (by omega) m2 hfb hgb
    refine ⟨Dc h1 21 23 0 0, h4, y8, ?_, off_hi oc (by decide) rfl, ?_, ?_⟩
    · unfold f_WM_distance
      rw [e1, xc2_some, if_neg (by omega), k1, xc2_some, l1, xc1_some]
    · unfold f_Md_distance
      rw [g1, xc2_some, if_neg (by omega), tk1, xc1_some, tk2, xc1_some, s1, xc1_some, v1, xc1_some, v3, xlet_eq, x1, xup_row (by decide), v2.1 99 (by decide) (by decide), D1, ← D4]
      have := s3 0 0 (by omega) (by omega) (by omega) (by omega)
      rw [show (13 * 0 + 0 : Int) = 0 from rfl] at this
      rw [this]
    · have hT : Tp (mx h4 y8) := Tp_empty (by rw [mx_lo (by decide), o4.1 2 (by decide) (by decide), o3.1 2 (by decide) (by decide)]; exact z1) (by rw [mx_hi (by decide), x2.2 1 (by decide), xup_ne_j (by decide), v2.2 1 (by decide), s2.2 1 (by decide), oy4.2 1 (by decide), oy3.2 1 (by decide)]; exact g2.2.2)
      have hW : Wy (mx h4 y8) := by
        right
        rw [mx_lo (o := 28) (by decide), mx_lo (o := 30) (by decide), mx_lo (o := 31) (by decide), mx_lo (o := 32) (by decide), mx_lo (o := 33) (by decide), mx_hi (o := 81) (by decide), mx_hi (o := 105) (by decide), mx_hi (o := 106) (by decide), mx_hi (o := 107) (by decide), mx_hi (o := 108) (by decide), mx_hi (o := 109) (by decide), l3]
        refine ⟨by omega, by omega, ?_, fun i i0 i1 => ?_⟩
        · rw [x2.2 33 (by decide), xup_same]
        · obtain ⟨k, rfl⟩ : ∃ k : Nat, i = k := ⟨i.toNat, by omega⟩
          have hk : k < w' := by omega
          obtain ⟨u1, u2, u3, u4⟩ := l7 k hk
          obtain ⟨r1, r2, r3, r4⟩ := v7 k hk
          obtain ⟨r5, r6⟩ := v8 k hk
          obtain ⟨y1, y2, y3, y4', y5'⟩ := x3 k i0 (by omega)
          have er : r k = h4 30 k := by rw [r1, u1]
          obtain ⟨i1', i2', i3', i4'⟩ := wP_in Hs (k := k) (fun m hm => l5 m (by omega))
          have F := fc_is Hs i1' i2' i3' i4' (fun z => l5 k hk z)
          have b20 : h 14 2 ≤ 20 := hS.1.2.2.2.2.1
          have F0 := F.1
          have F1 := F.2.1
          rw [← u1] at F0 F1
          refine ⟨F0, by omega, ?_, ?_, ?_, ?_, ?_⟩
          · rw [y1, xup_row (by decide), r5, er]
          · rw [y2, xup_row (by decide), r2, u2]
          · rw [y3, xup_row (by decide), r3, u3]
          · rw [y4', xup_row (by decide), r4, u4]
          · rw [y5', xup_row (by decide), r6, er]
      exact inv_mk (off_mx oc oM) hI
  · obtain ⟨h2, g1, g2⟩ := hx h rfl rfl
    refine ⟨-2, h1, h2, ?_, off_hi o1 (by decide) rfl, ?_, ?_⟩
    · unfold f_WM_distance
      rw [e1, xc2_some, if_pos rfl]
    · unfold f_Md_distance
      rw [g1, xc2_some, if_pos rfl]
    · have hT := Tp_empty (h := mx h1 h2) (by rw [mx_lo (by decide)]; exact z1) (by rw [mx_hi (by decide)]; exact g2.2.2)
      exact inv_mk (off_mx o1 (mfr_off g2)) hI
