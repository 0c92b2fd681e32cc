/-! PUT: the model's -/
section
variable {h y : xH} {t n : Int}
/-- the model lays cells one by one -/
theorem m_layC {S : Int → Int × xH → Option ((Int × xH) ⊕ xH)} {sz : Int} {f : Int → Int} (t0 : 0 ≤ t) (t1 : t < 8) (s0 : 0 ≤ sz) (s1 : sz ≤ 26) (hs : ∀ k : Int, 0 ≤ k → k < sz → S t (k, hLay 144 (26 * t) k f y) = some (Sum.inl (k + 1, xup (hLay 144 (26 * t) k f y) 144 (26 * t + k) (f k)))) (he : S t (sz, hLay 144 (26 * t) sz f y) = some (Sum.inr (hLay 144 (26 * t) sz f y))) : xloop (S t) (0, y) = some (hLay 144 (26 * t) sz f y) := by
  refine xloop_T (fun k => ((k : Int), hLay 144 (26 * t) k f y)) sz.toNat (by rw [show ((0 : Nat) : Int) = 0 from rfl, hLay_0]) (fun k hk => ?_) ?_
  · rw [hs k (by omega) (by omega), hLay_succ (by omega)]
    rfl
  · rw [show ((sz.toNat : Nat) : Int) = sz by omega]
    exact he
theorem m_layLetters (W : Wd0 h) (t0 : 0 ≤ t) (t1 : t < 8) (n0 : 0 ≤ n) (n1 : n < h 5 2) (e : y 85 = h 85 ∧ y 86 = h 86) : f_Md_put_139 n (26 * t) 0 y = some (1, xup (hLay 144 (26 * t) (h 7 n) (rp h 5 n) y) 81 82 0) := by
  have N200 := Wd_n W
  obtain ⟨l1, l2, l3⟩ := Wd_len W n0 n1
  obtain ⟨e85, e86⟩ := W.2.2.1 n n0 n1
  unfold f_Md_put_139 f_Md_put_178 f_Md_put_361
  have key := m_layC (S := fun t s => f_Md_put_s139 n (26 * t) s.1 s.2) (y := y) (sz := h 7 n) (f := rp h 5 n) t0 t1 (by omega) (by omega) (fun k k0 k1 => by
    dsimp only [f_Md_put_s139]
    have ek : h 86 (12 * n + k) = rp h 5 n k := by
      rw [e86 k k0 k1]
      unfold rp
      rw [show (5 + 2 : Int) = 7 from rfl, show (5 + 1 : Int) = 6 from rfl, pad_in k0 k1]
    rw [xgd_pos n0 (by omega), hLay_row (o' := 85) (by decide), e.1, e85, if_pos k1, w32_id (z := 12 * n) (by omega) (by omega), w32_id (z := 12 * n + k) (by omega) (by omega), xgd_pos (by omega) (by omega), w32_id (z := 26 * t + k) (by omega) (by omega), xgd_pos (by omega) (by omega), hLay_row (o' := 86) (by decide), e.2, ek, xlet_eq, w32_id (by omega) (by omega), xlet_eq]) (by
    dsimp only [f_Md_put_s139]
    rw [xgd_pos n0 (by omega), hLay_row (o' := 85) (by decide), e.1, e85, if_neg (by omega)])
  rw [key, xc1_some, Md_don, xc2_some]
theorem m_layState (hM : Me h) (t0 : 0 ≤ t) (t1 : t < 8) (n0 : 0 ≤ n) (n1 : n < h 49 5) (e : y 115 = h 115 ∧ y 81 47 = h 81 47) : f_Md_put_196 n (26 * t) 0 y = some (1, xup (hLay 144 (26 * t) (h 49 7) (fun k => h 54 (n * 13 + k)) y) 81 82 0) := by
  obtain ⟨m1, m2, m3, m4, m5, m6⟩ := hM
  obtain ⟨m7, m8, m9⟩ := m5 (by omega)
  have mm := (m6 n n0 n1).2.2.2.2.2
  unfold f_Md_put_196 f_Md_put_233 f_Md_put_361
  have key := m_layC (S := fun t s => f_Md_put_s196 n (26 * t) s.1 s.2) (y := y) (sz := h 49 7) (f := fun k => h 54 (n * 13 + k)) t0 t1 (by omega) (by omega) (fun k k0 k1 => by
    dsimp only [f_Md_put_s196]
    rw [hLay_row (o' := 81) (by decide), e.2, if_neg (by omega), w32_id (z := 13 * n) (by omega) (by omega), w32_id (z := 13 * n + k) (by omega) (by omega), xgd_pos (by omega) (by omega), w32_id (z := 26 * t + k) (by omega) (by omega), xgd_pos (by omega) (by omega), hLay_row (o' := 115) (by decide), e.1, mm k k0 k1, xlet_eq, w32_id (by omega) (by omega), xlet_eq]) (by
    dsimp only [f_Md_put_s196]
    rw [hLay_row (o' := 81) (by decide), e.2, if_pos (by omega)])
  rw [key, xc1_some, Md_don, xc2_some]
theorem m_layPrices (hP : Pr h) (t0 : 0 ≤ t) (t1 : t < 8) (e : y 88 = h 88) : f_Md_put_247 (26 * t) 0 y = some (1, xup (hLay 144 (26 * t) 6 (fun k => h 10 (k + 1)) y) 81 82 0) := by
  unfold f_Md_put_247 f_Md_put_279 f_Md_put_361
  have key := m_layC (S := fun t s => f_Md_put_s247 (26 * t) s.1 s.2) (y := y) (sz := 6) (f := fun k => h 10 (k + 1)) t0 t1 (by omega) (by omega) (fun k k0 k1 => by
    dsimp only [f_Md_put_s247]
    rw [if_pos k1, w32_id (z := k + 1) (by omega) (by omega), xgd_pos (by omega) (by omega), w32_id (z := 26 * t + k) (by omega) (by omega), xgd_pos (by omega) (by omega), hLay_row (o' := 88) (by decide), e, (hP.1 (k + 1) (by omega) (by omega)).1, xlet_eq, xlet_eq]) (by
    dsimp only [f_Md_put_s247]
    rw [if_neg (by decide)])
  rw [key, xc1_some, Md_don, xc2_some]
theorem m_layTruths (W : Wd0 h) (t0 : 0 ≤ t) (t1 : t < 8) (n0 : 0 ≤ n) (n1 : n < h 5 2) (e : y 85 = h 85 ∧ y 86 = h 86) : ∃ g, f_Md_put_293 n (26 * t) 0 y = some (1, xup g 81 82 0) ∧ off [144] [] y g ∧ (∀ k, 0 ≤ k → k < 26 → g 144 (26 * t + k) = tru h n k) ∧ ∀ j, (j < 26 * t ∨ 26 * t + 26 ≤ j) → g 144 j = y 144 j := by
  have N200 := Wd_n W
  obtain ⟨l1, l2, l3⟩ := Wd_len W n0 n1
  obtain ⟨e85, e86⟩ := W.2.2.1 n n0 n1
  have ek : ∀ k, 0 ≤ k → k < h 7 n → h 86 (12 * n + k) = rp h 5 n k := fun k k0 k1 => by
    rw [e86 k k0 k1]
    unfold rp
    rw [show (5 + 2 : Int) = 7 from rfl, show (5 + 1 : Int) = 6 from rfl, pad_in k0 k1]
  have lr : ∀ k, 0 ≤ k → k < h 7 n → 0 ≤ rp h 5 n k ∧ rp h 5 n k ≤ 25 := fun k k0 k1 => LR_in (LR_w W n0 n1) k0 k1
  unfold f_Md_put_293 f_Md_put_317 f_Md_put_320 f_Md_put_358 f_Md_put_361
  have key := m_layC (S := fun t s => f_Md_put_s293 n (26 * t) s.1 s.2) (y := y) (sz := 26) (f := fun _ => 0) t0 t1 (by omega) (by omega) (fun k k0 k1 => by
    dsimp only [f_Md_put_s293]
    rw [if_pos k1, w32_id (z := 26 * t + k) (by omega) (by omega), xgd_pos (by omega) (by omega), xlet_eq, w32_id (by omega) (by omega), xlet_eq]) (by
    dsimp only [f_Md_put_s293]
    rw [if_neg (by decide)])
  rw [key, xc1_some]
  generalize hz : hLay 144 (26 * t) 26 (fun _ => 0) y = z
  have oz : off [144] [] y z := by rw [← hz]; exact off_lay (by decide)
  obtain ⟨g, e1, g1, g2, g3⟩ := xloop_W (step := fun s : Int × xH => f_Md_put_s320 n (26 * t) s.1 s.2) (I := fun s => 0 ≤ s.1 ∧ s.1 ≤ h 7 n ∧ off [144] [] y s.2 ∧ (∀ k, 0 ≤ k → k < 26 → (s.2 144 (26 * t + k) = 1 ∧ (∃ j, 0 ≤ j ∧ j < s.1 ∧ rp h 5 n j = k) ∨ s.2 144 (26 * t + k) = 0 ∧ ∀ j, 0 ≤ j → j < s.1 → rp h 5 n j ≠ k)) ∧ ∀ j, (j < 26 * t ∨ 26 * t + 26 ≤ j) → s.2 144 j = y 144 j) (fun s => (h 7 n - s.1).toNat)
    (post := fun g => off [144] [] y g ∧ (∀ k, 0 ≤ k → k < 26 → g 144 (26 * t + k) = tru h n k) ∧ ∀ j, (j < 26 * t ∨ 26 * t + 26 ≤ j) → g 144 j = y 144 j) (s := (0, z)) (by
      rintro ⟨j, g⟩ hI
      dsimp only at hI ⊢
      obtain ⟨j0, j1, go, gk, gj⟩ := hI
      unfold f_Md_put_s320
      rw [xgd_pos n0 (by omega), go.1 85 (by decide) (by decide), e.1, e85]
      by_cases q : j < h 7 n
      · left
        have lj := lr j j0 q
        rw [if_pos q, w32_id (z := 12 * n) (by omega) (by omega), w32_id (z := 12 * n + j) (by omega) (by omega), xgd_pos (by omega) (by omega), go.1 86 (by decide) (by decide), e.2, ek j j0 q, w32_id (z := 26 * t + rp h 5 n j) (by omega) (by omega), xgd_pos (by omega) (by omega), xlet_eq, w32_id (by omega) (by omega), xlet_eq]
        refine ⟨_, rfl, ⟨by dsimp only; omega, by dsimp only; omega, off_w (off_tr go (off_up (by decide))) (by decide) (by decide), fun k k0 k1 => ?_, fun i hi => ?_⟩, by dsimp only; omega⟩
        · dsimp only
          by_cases x : k = rp h 5 n j
          · rw [x, xup_same]
            exact Or.inl ⟨rfl, j, j0, by omega, rfl⟩
          · rw [xup_ne_j (by omega)]
            rcases gk k k0 k1 with ⟨a1, i, i0, i1, i2⟩ | ⟨a1, a2⟩
            · exact Or.inl ⟨a1, i, i0, by omega, i2⟩
            · refine Or.inr ⟨a1, fun i i0 i1 => ?_⟩
              by_cases w : i = j
              · rw [w]; exact fun z => x z.symm
              · exact a2 i i0 (by omega)
        · dsimp only
          rw [xup_ne_j (by omega)]
          exact gj i hi
      · right
        refine ⟨g, by rw [if_neg q], go, fun k k0 k1 => ?_, gj⟩
        unfold tru
        rcases gk k k0 k1 with ⟨a1, i, i0, i1, i2⟩ | ⟨a1, a2⟩
        · rw [if_pos ⟨i, i0, by omega, i2⟩, a1]
        · rw [if_neg (fun x => by obtain ⟨i, i0, i1, i2⟩ := x; exact a2 i i0 (by omega) i2), a1]) ⟨Int.le_refl _, by dsimp only; omega, off_w oz (by decide) (by decide), fun k k0 k1 => Or.inr ⟨by dsimp only; rw [← hz, hLay_in (by omega) (by omega)], fun j j0 j1 => by dsimp only at j1; omega⟩, fun j hj => by dsimp only; rw [← hz, hLay_out (by omega)]⟩
  rw [e1, xc1_some, Md_don, xc2_some]
  exact ⟨g, rfl, g1, g2, g3⟩
end
theorem m_putT {h : xH} {t w n : Int} (W : Wd0 h) (hP : Pr h) (hM : Me h) : (0 ≤ t ∧ t < 8 ∧ thg h w n → ∃ g, f_Md_put t w n h = some (1, xup g 81 82 0) ∧ off [142, 143, 144] [] h g ∧ g 142 t = w ∧ (∀ j, j ≠ t → g 142 j = h 142 j ∧ g 143 j = h 143 j) ∧ (w ≠ 0 → g 143 t = SZ h w n ∧ ∀ k, 0 ≤ k → k < SZ h w n → g 144 (26 * t + k) = FV h w n k) ∧ ∀ j, (j < 26 * t ∨ 26 * t + 26 ≤ j) → g 144 j = h 144 j) ∧ (¬ (0 ≤ t ∧ t < 8 ∧ thg h w n) → f_Md_put t w n h = some (-1, xup h 81 82 1)) := by
  have N200 := Wd_n W
  have h39 := hM.1
  have m3 := hM.2.2.1
  have m4 := hM.2.2.2.1
  have m5 := hM.2.2.2.2.1
  have ref : f_Md_put_74 h = some (-1, xup h 81 82 1) := by
    unfold f_Md_put_74
    rw [Md_ref, xc2_some]
  have r57 : f_Md_put_57 t w n 0 h = some (-1, xup h 81 82 1) := by
    unfold f_Md_put_57
    rw [ref]
    by_cases a : 0 ≤ t ∧ t ≤ 7
    · rw [in_1 a.1 a.2, xc1_some, if_neg (by decide), if_pos rfl]
    · rw [in_0 (by omega), xc1_some, if_pos rfl]
  have r57' : ¬ (0 ≤ t ∧ t < 8) → f_Md_put_57 t w n 1 h = some (-1, xup h 81 82 1) := fun a => by
    unfold f_Md_put_57
    rw [ref, in_0 (by omega), xc1_some, if_pos rfl]
  have disp : f_Md_put t w n h = f_Md_put_57 t w n (@ite _ (thg h w n) (Classical.propDecidable _) 1 0) h := by
    have e33 : w ≠ 0 → w ≠ 3 → w ≠ 1 ∧ w ≠ 4 ∨ ¬ (0 ≤ n ∧ n < h 5 2) → f_Md_put_33 t w n h = f_Md_put_57 t w n (@ite _ (thg h w n) (Classical.propDecidable _) 1 0) h := fun x0 x3 x14 => by
      unfold f_Md_put_33 f_Md_put_52 f_Md_put_56
      by_cases a2 : w = 2
      · rw [if_pos a2, h39, w32_id (by omega) (by omega)]
        by_cases d : 0 ≤ n ∧ n < h 49 5
        · rw [in_1 (by omega) (by omega), xc1_some, if_neg (by decide), if_pos (show thg h w n from Or.inr (Or.inr (Or.inr ⟨a2, d⟩)))]
        · rw [in_0 (by omega), xc1_some, if_pos rfl, if_neg]
          unfold thg
          omega
      · rw [if_neg a2, if_neg]
        unfold thg
        omega
    have e19 : w = 1 ∨ w = 4 → f_Md_put_19 t w n h = f_Md_put_57 t w n (@ite _ (thg h w n) (Classical.propDecidable _) 1 0) h := fun x => by
      unfold f_Md_put_19
      rw [W.2.1, w32_id (by omega) (by omega)]
      by_cases d : 0 ≤ n ∧ n < h 5 2
      · rw [in_1 (by omega) (by omega), xc1_some, if_neg (by decide), if_pos (show thg h w n from Or.inr (Or.inr (Or.inl ⟨x, d⟩)))]
        rfl
      · rw [in_0 (by omega), xc1_some, if_pos rfl]
        exact e33 (by omega) (by omega) (Or.inr d)
    unfold f_Md_put
    by_cases a0 : w = 0
    · rw [if_pos a0, if_pos (show thg h w n from Or.inl a0)]; rfl
    · rw [if_neg a0]
      by_cases a3 : w = 3
      · rw [if_pos a3, if_pos (show thg h w n from Or.inr (Or.inl a3))]; rfl
      · rw [if_neg a3]
        by_cases a1 : w = 1
        · rw [if_pos a1]; exact e19 (Or.inl a1)
        · rw [if_neg a1]
          by_cases a4 : w = 4
          · rw [if_pos a4]; exact e19 (Or.inr a4)
          · rw [if_neg a4]
            exact e33 a0 a3 (Or.inl ⟨a1, a4⟩)
  constructor
  · rintro ⟨t0, t1, ht⟩
    rw [disp, if_pos ht]
    unfold thg at ht
    unfold f_Md_put_57
    rw [in_1 (by omega) (by omega), xc1_some, if_neg (by decide), if_neg (by decide), xgd_pos t0 t1, xlet_eq, w32_id (z := 26 * t) (by omega) (by omega), xlet_eq]
    generalize hy : xup h 142 t w = y
    have oy : off [142] [] h y := by rw [← hy]; exact off_up (by decide)
    have y142 : y 142 t = w := by rw [← hy, xup_same]
    have y142' : ∀ j, j ≠ t → y 142 j = h 142 j := fun j hj => by rw [← hy, xup_ne_j hj]
    -- what the laid cells come to
    have fin : ∀ (sz : Int) (f : Int → Int), sz = SZ h w n → (∀ k, FV h w n k = f k) → ∃ g, (some (1, xup (hLay 144 (26 * t) sz f (xup y 143 t sz)) 81 82 0) : Option (Int × xH)) = some (1, xup g 81 82 0) ∧ off [142, 143, 144] [] h g ∧ g 142 t = w ∧ (∀ j, j ≠ t → g 142 j = h 142 j ∧ g 143 j = h 143 j) ∧ (w ≠ 0 → g 143 t = SZ h w n ∧ ∀ k, 0 ≤ k → k < SZ h w n → g 144 (26 * t + k) = FV h w n k) ∧ ∀ j, (j < 26 * t ∨ 26 * t + 26 ≤ j) → sz ≤ 26 → g 144 j = h 144 j := by
      intro sz f hsz hf
      refine ⟨_, rfl, off_w (off_tr oy (off_tr (off_up (by decide)) (off_lay (by decide)))) (by decide) (by decide), ?_, fun j hj => ⟨?_, ?_⟩, fun _ => ⟨?_, fun k k0 k1 => ?_⟩, fun j hj hs => ?_⟩
      · rw [hLay_row (by decide), xup_row (by decide)]; exact y142
      · rw [hLay_row (by decide), xup_row (by decide)]; exact y142' j hj
      · rw [hLay_row (by decide), xup_ne_j hj, oy.1 143 (by decide) (by decide)]
      · rw [hLay_row (by decide), xup_same]; exact hsz
      · rw [← hsz] at k1
        rw [hLay_in (by omega) (by omega), hf, show 26 * t + k - 26 * t = k by omega]
      · rw [hLay_out (by omega), xup_row (by decide), oy.1 144 (by decide) (by decide)]
    by_cases a1 : w = 1
    · subst a1
      obtain ⟨l1, l2, l3⟩ := Wd_len W (show 0 ≤ n by omega) (by omega)
      have e85 := (W.2.2.1 n (by omega) (by omega)).1
      have ml := m_layLetters (n := n) (h := h) (y := xup y 143 t (h 7 n)) W t0 t1 (by omega) (by omega) ⟨by rw [xup_row (by decide), oy.1 85 (by decide) (by decide)], by rw [xup_row (by decide), oy.1 86 (by decide) (by decide)]⟩
      rw [if_pos rfl, xgd_pos (by omega) (by omega), xgd_pos t0 t1, xlet_eq, oy.1 85 (by decide) (by decide), e85, ml]
      obtain ⟨g, g1, g2, g3, g4, g5, g6⟩ := fin (h 7 n) (rp h 5 n) (by unfold SZ; rw [if_pos rfl]) (fun k => by unfold FV; rw [if_pos rfl])
      exact ⟨g, g1, g2, g3, g4, g5, fun j hj => g6 j hj (by omega)⟩
    · rw [if_neg a1]
      by_cases a2 : w = 2
      · subst a2
        obtain ⟨m7, m8, m9⟩ := m5 (by omega)
        have ml := m_layState (n := n) (h := h) (y := xup y 143 t (h 49 7)) hM t0 t1 (by omega) (by omega) ⟨by rw [xup_row (by decide), oy.1 115 (by decide) (by decide)], by rw [xup_row (by decide), oy.2 47 (by decide)]⟩
        rw [if_pos rfl, xgd_pos t0 t1, oy.2 47 (by decide), w32_id (by omega) (by omega), ← m7, xlet_eq, ml]
        obtain ⟨g, g1, g2, g3, g4, g5, g6⟩ := fin (h 49 7) (fun k => h 54 (n * 13 + k)) (by unfold SZ; rw [if_neg (by decide), if_pos rfl]) (fun k => by unfold FV; rw [if_neg (by decide), if_pos rfl])
        exact ⟨g, g1, g2, g3, g4, g5, fun j hj => g6 j hj (by omega)⟩
      · rw [if_neg a2]
        by_cases a3 : w = 3
        · subst a3
          have ml := m_layPrices (h := h) (y := xup y 143 t 6) hP t0 t1 (by rw [xup_row (by decide), oy.1 88 (by decide) (by decide)])
          rw [if_pos rfl, xgd_pos t0 t1, xlet_eq, ml]
          obtain ⟨g, g1, g2, g3, g4, g5, g6⟩ := fin 6 (fun k => h 10 (k + 1)) (by unfold SZ; rw [if_neg (by decide), if_neg (by decide), if_pos rfl]) (fun k => by unfold FV; rw [if_neg (by decide), if_neg (by decide), if_pos rfl])
          exact ⟨g, g1, g2, g3, g4, g5, fun j hj => g6 j hj (by omega)⟩
        · rw [if_neg a3]
          by_cases a4 : w = 4
          · subst a4
            obtain ⟨g, g1, g2, g3, g4⟩ := m_layTruths (n := n) (h := h) (y := xup y 143 t 26) W t0 t1 (by omega) (by omega) ⟨by rw [xup_row (by decide), oy.1 85 (by decide) (by decide)], by rw [xup_row (by decide), oy.1 86 (by decide) (by decide)]⟩
            rw [if_pos rfl, xgd_pos t0 t1, xlet_eq, g1]
            refine ⟨g, rfl, off_w (off_tr oy (off_tr (off_up (by decide)) g2)) (by decide) (by decide), ?_, fun j hj => ⟨?_, ?_⟩, fun _ => ⟨?_, fun k k0 k1 => ?_⟩, fun j hj => ?_⟩
            · rw [g2.1 142 (by decide) (by decide), xup_row (by decide)]; exact y142
            · rw [g2.1 142 (by decide) (by decide), xup_row (by decide)]; exact y142' j hj
            · rw [g2.1 143 (by decide) (by decide), xup_ne_j hj, oy.1 143 (by decide) (by decide)]
            · rw [g2.1 143 (by decide) (by decide), xup_same]
              unfold SZ; rw [if_neg (by decide), if_neg (by decide), if_neg (by decide), if_pos rfl]
            · have : k < 26 := by
                unfold SZ at k1
                rw [if_neg (by decide), if_neg (by decide), if_neg (by decide), if_pos rfl] at k1
                exact k1
              rw [g3 k k0 this]
              unfold FV; rw [if_neg (by decide), if_neg (by decide), if_neg (by decide)]
            · rw [g4 j hj, xup_row (by decide), oy.1 144 (by decide) (by decide)]
          · rw [if_neg a4]
            unfold f_Md_put_361
            rw [Md_don, xc2_some]
            refine ⟨y, rfl, off_w oy (by decide) (by decide), y142, fun j hj => ⟨y142' j hj, by rw [oy.1 143 (by decide) (by decide)]⟩, fun z => by omega, fun j _ => by rw [oy.1 144 (by decide) (by decide)]⟩
  · intro hn
    rw [disp]
    by_cases a : thg h w n
    · rw [if_pos a]
      exact r57' (fun z => hn ⟨z.1, z.2, a⟩)
    · rw [if_neg a]
      exact r57
theorem op_put (t w n : Int) : Op2 (f_WM_put t w n) (f_Md_put t w n) := by
  refine op2_of (fun _ _ => loc_Md_put) (fun h hI => ?_)
  have W := hI.2.1.1
  have hP := hI.2.2.2.1
  have hM := hI.2.2.2.2.2.2.2.1
  obtain ⟨y1, y2⟩ := hI.2.2.2.2.2.2.2.2.2.2
  have N200 := Wd_n W
  obtain ⟨s1, s2⟩ := s_put (h := h) (t := t) (w := w) (n := n) W ⟨hM.2.2.1, hM.2.2.2.1, fun z => ⟨(hM.2.2.2.2.1 z).2.1, (hM.2.2.2.2.1 z).2.2⟩⟩
  obtain ⟨m1, m2⟩ := m_putT (h := h) (t := t) (w := w) (n := n) W hP hM
  by_cases q : 0 ≤ t ∧ t < 8 ∧ thg h w n
  · obtain ⟨g, g1, g2, g3, g4, g5, g6⟩ := m1 q
    obtain ⟨t0, t1, ht⟩ := q
    have wb : 0 ≤ w ∧ w ≤ 4 := by
      unfold thg at ht
      omega
    refine ⟨1, _, _, s1 ⟨t0, t1, ht⟩, ?_, g1, ?_⟩
    · intro o ho
      rw [xup_row (by omega), LY_row (by omega) (by omega), xup_row (by omega)]
    · generalize hc : xup (LY t (SZ h w n) (FV h w n) (xup h 78 t w)) 77 3 0 = C
      have oC : off [77, 78, 79, 80] [] h C := by
        rw [← hc]
        unfold LY
        exact off_w (off_tr (off_up (by decide)) (off_tr (off_lay (by decide)) (off_tr (off_up (by decide)) (off_up (by decide))))) (by decide) (by decide)
      have szb : w ≠ 0 → 0 ≤ SZ h w n ∧ SZ h w n ≤ 26 := fun hw => by
        unfold thg at ht
        unfold SZ
        by_cases a1 : w = 1
        · have := Wd_len W (show 0 ≤ n by omega) (by omega)
          rw [if_pos a1]; omega
        · rw [if_neg a1]
          by_cases a2 : w = 2
          · have := hM.2.2.2.2.1 (by omega)
            rw [if_pos a2]; omega
          · rw [if_neg a2]
            split
            · omega
            · split <;> omega
      have szb' : 0 ≤ SZ h w n ∧ SZ h w n ≤ 26 := by
        by_cases hw : w = 0
        · rw [hw]; unfold SZ; rw [if_neg (by decide), if_neg (by decide), if_neg (by decide), if_neg (by decide)]; omega
        · exact szb hw
      have hTy : Ty (mx C (xup g 81 82 0)) := by
        unfold Ty
        rw [mx_hi (o := 81) (by decide), mx_lo (o := 77) (by decide), mx_lo (o := 78) (by decide), mx_lo (o := 79) (by decide), mx_lo (o := 80) (by decide), mx_hi (o := 142) (by decide), mx_hi (o := 143) (by decide), mx_hi (o := 144) (by decide), xup_same, xup_row (o' := 142) (by decide), xup_row (o' := 143) (by decide), xup_row (o' := 144) (by decide)]
        have c77 : C 77 3 = 0 := by rw [← hc, xup_same]
        have c78 : ∀ j, C 78 j = if j = t then w else h 78 j := fun j => by
          rw [← hc, xup_row (by decide), LY_row (by decide) (by decide)]
          by_cases x : j = t
          · rw [if_pos x, x, xup_same]
          · rw [if_neg x, xup_ne_j x]
        have c79 : ∀ j, C 79 j = if j = t then SZ h w n else h 79 j := fun j => by
          rw [← hc, xup_row (by decide)]
          unfold LY
          by_cases x : j = t
          · rw [if_pos x, x, xup_same]
          · rw [if_neg x, xup_ne_j x, hLay_row (by decide), xup_row (by decide)]
        have c80i : ∀ k, 0 ≤ k → k < SZ h w n → C 80 (t * 26 + k) = FV h w n k := fun k k0 k1 => by
          rw [← hc, xup_row (by decide)]
          unfold LY
          rw [xup_row (by decide), hLay_in (by omega) (by omega), show t * 26 + k - t * 26 = k by omega]
        have c80o : ∀ j, (j < t * 26 ∨ t * 26 + 26 ≤ j) → C 80 j = h 80 j := fun j hj => by
          rw [← hc, xup_row (by decide)]
          unfold LY
          rw [xup_row (by decide), hLay_out (by omega), xup_row (by decide)]
        refine ⟨c77.symm, fun t' x0 x1 => ?_⟩
        rw [c78, c79]
        by_cases x : t' = t
        · subst x
          rw [if_pos rfl, if_pos rfl]
          refine ⟨g3, wb.1, wb.2, fun hw => ?_⟩
          obtain ⟨u1, u2⟩ := g5 hw
          exact ⟨u1, szb'.1, szb'.2, fun k k0 k1 => by rw [u2 k k0 k1, c80i k k0 k1]⟩
        · rw [if_neg x, if_neg x]
          obtain ⟨u1, u2⟩ := g4 t' x
          obtain ⟨v1, v2, v3, v4⟩ := y2 t' x0 x1
          refine ⟨by rw [u1]; exact v1, v2, v3, fun hw => ?_⟩
          obtain ⟨w1, w2, w3, w4⟩ := v4 hw
          exact ⟨by rw [u2]; exact w1, w2, w3, fun k k0 k1 => by rw [g6 _ (by omega), c80o _ (by omega)]; exact w4 k k0 k1⟩
      exact inv_mk (off_mx oC (off_tr g2 (off_um (j := 82) (v := 0)))) hI
  · refine ⟨-1, _, _, s2 q, fun o ho => xup_row (by omega), m2 q, ?_⟩
    have ho : off [77] [82] h (mx (xup h 77 3 1) (xup h 81 82 1)) := off_mx (off_up (by decide)) off_um
    have hT : Ty (mx (xup h 77 3 1) (xup h 81 82 1)) := by
      unfold Ty
      rw [mx_hi (o := 81) (by decide), mx_lo (o := 77) (by decide), mx_lo (o := 78) (by decide), mx_lo (o := 79) (by decide), mx_lo (o := 80) (by decide), mx_hi (o := 142) (by decide), mx_hi (o := 143) (by decide), mx_hi (o := 144) (by decide), xup_same, xup_same, xup_row (o' := 78) (by decide), xup_row (o' := 79) (by decide), xup_row (o' := 80) (by decide), xup_row (o' := 142) (by decide), xup_row (o' := 143) (by decide), xup_row (o' := 144) (by decide)]
      exact ⟨rfl, y2⟩
    exact inv_mk ho hI
