/-! WORDS are added and dropped -/
theorem isN_cg' {h h' : xH} {q : Int → Int} {w : Int} (e5 : h' 5 = h 5) (e6 : h' 6 = h 6) (e7 : h' 7 = h 7) (hi : isN h q w) : isN h' q w := isN_cg (h := h') (h' := h) e5.symm e6.symm e7.symm hi
theorem plc_cg {h h' : xH} {q : Int → Int} {p : Int} (e5 : h' 5 = h 5) (e6 : h' 6 = h 6) (e7 : h' 7 = h 7) (hi : plc h q p) : plc h' q p := by
  have er : ∀ v, rp h' 5 v = rp h 5 v := fun v => rp_congr e6 e7
  unfold plc
  simp only [er, e5]
  exact hi
/-- the model's word is moved -/
theorem s_Md_moveWord {a b : Int} {h : xH} (ha : 0 ≤ a ∧ a < 200) (hb : 0 ≤ b ∧ b < 200) (hab : a ≠ b) : ∃ h', f_Md_moveWord a b h = some h' ∧ off [85, 86, 87] [] h h' ∧ h' 85 b = h 85 a ∧ (∀ j, j ≠ b → h' 85 j = h 85 j) ∧ h' 87 b = h 87 a ∧ (∀ j, j ≠ b → h' 87 j = h 87 j) ∧ (∀ i, 0 ≤ i → i < 12 → h' 86 (12 * b + i) = h 86 (12 * a + i)) ∧ ∀ c, (c < 12 * b ∨ 12 * b + 12 ≤ c) → h' 86 c = h 86 c := by
  have hs := xloop_T (step := fun s : Int × xH => f_Md_moveWord_s26 a b s.1 s.2) (fun k => ((k : Int), hLay 86 (12 * b) k (fun k => h 86 (12 * a + k)) (xup (xup h 85 b (h 85 a)) 87 b (h 87 a)))) 12 (s0 := (0, xup (xup h 85 b (h 85 a)) 87 b (h 87 a))) (b := hLay 86 (12 * b) 12 (fun k => h 86 (12 * a + k)) (xup (xup h 85 b (h 85 a)) 87 b (h 87 a))) (by rw [show ((0 : Nat) : Int) = 0 by rfl, hLay_0]) ?_ ?_
  · refine ⟨hLay 86 (12 * b) 12 (fun k => h 86 (12 * a + k)) (xup (xup h 85 b (h 85 a)) 87 b (h 87 a)), by simp (disch := omega) only [f_Md_moveWord, f_Md_moveWord_26, f_Md_moveWord_60, hs, ↓if_pos, ↓if_neg, ↓xgd_pos, ↓xgb_pos, ↓xgc_pos, ↓xlet_eq, xc1_some, xc2_some, w32_id, xup_same, xup_row, xup_ne_j, xsw_l, xsw_r], off_w (off_tr (off_tr (off_up (by decide)) (off_up (by decide))) (off_lay (by decide))) (by decide) (by decide), ?_, fun j hj => ?_, ?_, fun j hj => ?_, fun i i1 i2 => ?_, fun c hc => ?_⟩
    · simp (disch := omega) only [hLay_row, ↓if_pos, ↓if_neg, ↓xgd_pos, ↓xgb_pos, ↓xgc_pos, ↓xlet_eq, xc1_some, xc2_some, w32_id, xup_same, xup_row, xup_ne_j, xsw_l, xsw_r]
    · simp (disch := omega) only [hLay_row, ↓if_pos, ↓if_neg, ↓xgd_pos, ↓xgb_pos, ↓xgc_pos, ↓xlet_eq, xc1_some, xc2_some, w32_id, xup_same, xup_row, xup_ne_j, xsw_l, xsw_r]
    · simp (disch := omega) only [hLay_row, ↓if_pos, ↓if_neg, ↓xgd_pos, ↓xgb_pos, ↓xgc_pos, ↓xlet_eq, xc1_some, xc2_some, w32_id, xup_same, xup_row, xup_ne_j, xsw_l, xsw_r]
    · simp (disch := omega) only [hLay_row, ↓if_pos, ↓if_neg, ↓xgd_pos, ↓xgb_pos, ↓xgc_pos, ↓xlet_eq, xc1_some, xc2_some, w32_id, xup_same, xup_row, xup_ne_j, xsw_l, xsw_r]
    · rw [hLay_in (by omega) (by omega), show 12 * b + i - 12 * b = i by omega]
    · rw [hLay_out hc]
      simp (disch := omega) only [↓if_pos, ↓if_neg, ↓xgd_pos, ↓xgb_pos, ↓xgc_pos, ↓xlet_eq, xc1_some, xc2_some, w32_id, xup_same, xup_row, xup_ne_j, xsw_l, xsw_r]
  · intro k hk
    dsimp only [f_Md_moveWord_s26]
    have e : hLay 86 (12 * b) (k : Int) (fun k => h 86 (12 * a + k)) (xup (xup h 85 b (h 85 a)) 87 b (h 87 a)) 86 (12 * a + (k : Int)) = (fun k => h 86 (12 * a + k)) (k : Int) := by
      rw [hLay_out (by omega)]
      simp (disch := omega) only [↓if_pos, ↓if_neg, ↓xgd_pos, ↓xgb_pos, ↓xgc_pos, ↓xlet_eq, xc1_some, xc2_some, w32_id, xup_same, xup_row, xup_ne_j, xsw_l, xsw_r]
    rw [if_pos (by omega), w32_id (z := 12 * a) (by omega) (by omega), w32_id (z := 12 * a + (k : Int)) (by omega) (by omega), w32_id (z := 12 * b) (by omega) (by omega), w32_id (z := 12 * b + (k : Int)) (by omega) (by omega), xgd_pos (by omega) (by omega), xgd_pos (by omega) (by omega), xlet_eq, e, hLay_succ (f := fun k => h 86 (12 * a + k)) (by omega), w32_id (by omega) (by omega), xlet_eq]
    congr 3
  · rfl
/-- the model's words move up, one place, from a place on -/
theorem s_shiftUp {c p n : Int} {h : xH} (hp : 0 ≤ p ∧ p ≤ n) (hn : n < 200) : ∃ h', xloop (fun s : Int × xH => f_Md_add_s126 c p s.1 s.2) (n, h) = some h' ∧ off [85, 86, 87] [] h h' ∧ (∀ j, 0 ≤ j → j < p → h' 85 j = h 85 j ∧ h' 87 j = h 87 j ∧ ∀ i, 0 ≤ i → i < 12 → h' 86 (12 * j + i) = h 86 (12 * j + i)) ∧ ∀ j, p < j → j ≤ n → h' 85 j = h 85 (j - 1) ∧ h' 87 j = h 87 (j - 1) ∧ ∀ i, 0 ≤ i → i < 12 → h' 86 (12 * j + i) = h 86 (12 * (j - 1) + i) := by
  have key := xloop_W (step := fun s : Int × xH => f_Md_add_s126 c p s.1 s.2) (I := fun s => p ≤ s.1 ∧ s.1 ≤ n ∧ off [85, 86, 87] [] h s.2 ∧ (∀ j, 0 ≤ j → j ≤ s.1 → s.2 85 j = h 85 j ∧ s.2 87 j = h 87 j ∧ ∀ i, 0 ≤ i → i < 12 → s.2 86 (12 * j + i) = h 86 (12 * j + i)) ∧ ∀ j, s.1 < j → j ≤ n → s.2 85 j = h 85 (j - 1) ∧ s.2 87 j = h 87 (j - 1) ∧ ∀ i, 0 ≤ i → i < 12 → s.2 86 (12 * j + i) = h 86 (12 * (j - 1) + i)) (fun s => (s.1 - p).toNat)
    (post := fun h' => off [85, 86, 87] [] h h' ∧ (∀ j, 0 ≤ j → j ≤ p → h' 85 j = h 85 j ∧ h' 87 j = h 87 j ∧ ∀ i, 0 ≤ i → i < 12 → h' 86 (12 * j + i) = h 86 (12 * j + i)) ∧ ∀ j, p < j → j ≤ n → h' 85 j = h 85 (j - 1) ∧ h' 87 j = h 87 (j - 1) ∧ ∀ i, 0 ≤ i → i < 12 → h' 86 (12 * j + i) = h 86 (12 * (j - 1) + i)) (s := (n, h)) ?_ ⟨hp.2, Int.le_refl _, off_rf, fun j _ _ => ⟨rfl, rfl, fun _ _ _ => rfl⟩, fun j b1 b2 => by dsimp only at b1; omega⟩
  · obtain ⟨h', e, a1, a2, a3⟩ := key
    exact ⟨h', e, a1, fun j b1 b2 => a2 j b1 (by omega), a3⟩
  · rintro ⟨k, hh⟩ hI
    dsimp only [f_Md_add_s126] at hI ⊢
    obtain ⟨i1, i2, i3, i4, i5⟩ := hI
    by_cases q : p < k
    · left
      obtain ⟨h', e1, o1, m1, m2, m3, m4, m5, m6⟩ := s_Md_moveWord (a := k - 1) (b := k) (h := hh) ⟨by omega, by omega⟩ ⟨by omega, by omega⟩ (by omega)
      refine ⟨(k + -1, h'), by simp (disch := omega) only [e1, ↓if_pos, ↓if_neg, ↓xgd_pos, ↓xgb_pos, ↓xgc_pos, ↓xlet_eq, xc1_some, xc2_some, w32_id, xup_same, xup_row, xup_ne_j, xsw_l, xsw_r], ⟨by dsimp only; omega, by dsimp only; omega, off_w (off_tr i3 o1) (by decide) (by decide), fun j b1 b2 => ?_, fun j b1 b2 => ?_⟩, by dsimp only; omega⟩
      · dsimp only at b2 ⊢
        obtain ⟨c1, c2, c3⟩ := i4 j b1 (by omega)
        exact ⟨by rw [m2 j (by omega), c1], by rw [m4 j (by omega), c2], fun i d1 d2 => by rw [m6 _ (by omega), c3 i d1 d2]⟩
      · dsimp only at b1 ⊢
        by_cases hj : j = k
        · subst hj
          obtain ⟨c1, c2, c3⟩ := i4 (j - 1) (by omega) (by omega)
          exact ⟨by rw [m1, c1], by rw [m3, c2], fun i d1 d2 => by rw [m5 i d1 d2, c3 i d1 d2]⟩
        · obtain ⟨c1, c2, c3⟩ := i5 j (by omega) b2
          exact ⟨by rw [m2 j (by omega), c1], by rw [m4 j (by omega), c2], fun i d1 d2 => by rw [m6 _ (by omega), c3 i d1 d2]⟩
    · right
      have : k = p := by omega
      subst this
      exact ⟨hh, by rw [if_neg q], i3, i4, i5⟩
/-- the model's words move down, one place, from a place on -/
theorem s_shiftDown {c p n : Int} {h : xH} (hp : 0 ≤ p ∧ p < n) (hn : n ≤ 200) (hN : h 81 5 = n) : ∃ h', xloop (fun s : Int × xH => f_Md_drop_s42 c s.1 s.2) (p, h) = some h' ∧ off [85, 86, 87] [] h h' ∧ (∀ j, 0 ≤ j → j < p → h' 85 j = h 85 j ∧ h' 87 j = h 87 j ∧ ∀ i, 0 ≤ i → i < 12 → h' 86 (12 * j + i) = h 86 (12 * j + i)) ∧ ∀ j, p ≤ j → j < n - 1 → h' 85 j = h 85 (j + 1) ∧ h' 87 j = h 87 (j + 1) ∧ ∀ i, 0 ≤ i → i < 12 → h' 86 (12 * j + i) = h 86 (12 * (j + 1) + i) := by
  have key := xloop_W (step := fun s : Int × xH => f_Md_drop_s42 c s.1 s.2) (I := fun s => p ≤ s.1 ∧ s.1 ≤ n - 1 ∧ off [85, 86, 87] [] h s.2 ∧ (∀ j, 0 ≤ j → j < p → s.2 85 j = h 85 j ∧ s.2 87 j = h 87 j ∧ ∀ i, 0 ≤ i → i < 12 → s.2 86 (12 * j + i) = h 86 (12 * j + i)) ∧ (∀ j, p ≤ j → j < s.1 → s.2 85 j = h 85 (j + 1) ∧ s.2 87 j = h 87 (j + 1) ∧ ∀ i, 0 ≤ i → i < 12 → s.2 86 (12 * j + i) = h 86 (12 * (j + 1) + i)) ∧ ∀ j, s.1 ≤ j → s.2 85 j = h 85 j ∧ s.2 87 j = h 87 j ∧ ∀ i, 0 ≤ i → i < 12 → s.2 86 (12 * j + i) = h 86 (12 * j + i)) (fun s => (n - s.1).toNat)
    (post := fun h' => off [85, 86, 87] [] h h' ∧ (∀ j, 0 ≤ j → j < p → h' 85 j = h 85 j ∧ h' 87 j = h 87 j ∧ ∀ i, 0 ≤ i → i < 12 → h' 86 (12 * j + i) = h 86 (12 * j + i)) ∧ ∀ j, p ≤ j → j < n - 1 → h' 85 j = h 85 (j + 1) ∧ h' 87 j = h 87 (j + 1) ∧ ∀ i, 0 ≤ i → i < 12 → h' 86 (12 * j + i) = h 86 (12 * (j + 1) + i)) (s := (p, h)) ?_ ⟨Int.le_refl _, by dsimp only; omega, off_rf, fun j _ _ => ⟨rfl, rfl, fun _ _ _ => rfl⟩, fun j b1 b2 => by dsimp only at b2; omega, fun j _ => ⟨rfl, rfl, fun _ _ _ => rfl⟩⟩
  · obtain ⟨h', e, a1, a2, a3⟩ := key
    exact ⟨h', e, a1, a2, a3⟩
  · rintro ⟨k, hh⟩ hI
    dsimp only [f_Md_drop_s42] at hI ⊢
    obtain ⟨i1, i2, i3, i4, i5, i6⟩ := hI
    have eN : hh 81 5 = n := by rw [i3.2 5 (by decide), hN]
    by_cases q : k < n - 1
    · left
      obtain ⟨h', e1, o1, m1, m2, m3, m4, m5, m6⟩ := s_Md_moveWord (a := k + 1) (b := k) (h := hh) ⟨by omega, by omega⟩ ⟨by omega, by omega⟩ (by omega)
      refine ⟨(k + 1, h'), by simp (disch := omega) only [eN, e1, ↓if_pos, ↓if_neg, ↓xgd_pos, ↓xgb_pos, ↓xgc_pos, ↓xlet_eq, xc1_some, xc2_some, w32_id, xup_same, xup_row, xup_ne_j, xsw_l, xsw_r], ⟨by dsimp only; omega, by dsimp only; omega, off_w (off_tr i3 o1) (by decide) (by decide), fun j b1 b2 => ?_, fun j b1 b2 => ?_, fun j b1 => ?_⟩, by dsimp only; omega⟩
      · dsimp only
        obtain ⟨c1, c2, c3⟩ := i4 j b1 b2
        exact ⟨by rw [m2 j (by omega), c1], by rw [m4 j (by omega), c2], fun i d1 d2 => by rw [m6 _ (by omega), c3 i d1 d2]⟩
      · dsimp only at b2 ⊢
        by_cases hj : j = k
        · subst hj
          obtain ⟨c1, c2, c3⟩ := i6 (j + 1) (by omega)
          exact ⟨by rw [m1, c1], by rw [m3, c2], fun i d1 d2 => by rw [m5 i d1 d2, c3 i d1 d2]⟩
        · obtain ⟨c1, c2, c3⟩ := i5 j b1 (by omega)
          exact ⟨by rw [m2 j (by omega), c1], by rw [m4 j (by omega), c2], fun i d1 d2 => by rw [m6 _ (by omega), c3 i d1 d2]⟩
      · dsimp only at b1 ⊢
        obtain ⟨c1, c2, c3⟩ := i6 j (by omega)
        exact ⟨by rw [m2 j (by omega), c1], by rw [m4 j (by omega), c2], fun i d1 d2 => by rw [m6 _ (by omega), c3 i d1 d2]⟩
    · right
      have : k = n - 1 := by omega
      subst this
      exact ⟨hh, by simp (disch := omega) only [eN, ↓if_pos, ↓if_neg, ↓xgd_pos, ↓xgb_pos, ↓xgc_pos, ↓xlet_eq, xc1_some, xc2_some, w32_id, xup_same, xup_row, xup_ne_j, xsw_l, xsw_r], i3, i4, i5⟩
