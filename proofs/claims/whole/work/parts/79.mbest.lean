/-! MENDING: the model's least sums -/
def UBST (n : Int) (P : Int → Int → Int) (u : Int → Int) (r0 : Int) : Prop := u n = 0 ∧ ∀ r, r0 ≤ r → 0 ≤ r → r < n → (∃ k, 0 ≤ k ∧ k < 5 ∧ P k r ≠ -1 ∧ u r = P k r + u (r + tk k)) ∧ (∀ k, 0 ≤ k → k < 5 → P k r ≠ -1 → u r ≤ P k r + u (r + tk k)) ∧ 0 ≤ u r ∧ u r ≤ 100000 * (n - r)
theorem UBST_b {n : Int} {P : Int → Int → Int} {u : Int → Int} {r0 : Int} (h : UBST n P u r0) {j : Int} (j0 : r0 ≤ j) (j1 : 0 ≤ j) (j2 : j ≤ n) : 0 ≤ u j ∧ u j ≤ 100000 * (n - j) := by
  by_cases z : j = n
  · rw [z, h.1]; omega
  · have := h.2 j j0 j1 (by omega)
    omega
theorem best_eq {n : Int} {P : Int → Int → Int} {s kd u : Int → Int} (hp : PK n P) (hs : BST n P s kd 0) (hu : UBST n P u 0) : ∀ (m : Nat) (r : Int), 0 ≤ r → r ≤ n → (n - r).toNat ≤ m → u r = s r := by
  intro m
  induction m with
  | zero =>
    intro r r0 r1 hm
    have : r = n := by omega
    rw [this, hs.1, hu.1]
  | succ m ih =>
    intro r r0 r1 hm
    by_cases z : r = n
    · rw [z, hs.1, hu.1]
    · obtain ⟨b1, b2, b3, b4, b5, -⟩ := hs.2 r r0 r0 (by omega)
      obtain ⟨⟨k, k0, k1, k2, k3⟩, u2, -⟩ := hu.2 r r0 r0 (by omega)
      have t1 := tk_b (k := k)
      have t2 := tk_b (k := kd r)
      have e1 := ih (r + tk k) (by omega) (PK_tk hp (by omega) k2) (by omega)
      have e2 := ih (r + tk (kd r)) (by omega) (PK_tk hp (by omega) b3) (by omega)
      have a1 := b5 k k0 k1 k2
      have a2 := u2 (kd r) b1 b2 b3
      omega
section
variable {c m : xH} {b : Int}
theorem m_best {y : xH} (hT : TX c m) (b0 : 0 ≤ b) (b1 : b ≤ 99999) (oy : off [97, 98, 99, 116, 124, 125, 126, 140, 141] [22, 23, 57, 83, 84] m y) (hM : ∀ r, 0 ≤ r → r < c 25 2 → M140 c y b r) : ∃ y', xloop (fun s : Int × xH => f_Md_mend_s123 b s.1 s.2) (c 25 2 - 1, xup y 139 (c 25 2) 0) = some y' ∧ off [139, 145] [] y y' ∧ UBST (c 25 2) (MP c b) (y' 139) 0 := by
  obtain ⟨hR, hx, h2, hP, hS, hW, ⟨hWt, hPc, hSc, hWc, hWtc⟩, e20, hn⟩ := id hT
  have n12 := hR.2.2.2.2.1
  have n0 := hR.2.2.2.1
  have hp := PK_MP (b := b) hT b0 b1
  obtain ⟨p1, p2, p3, p4, p5⟩ := id hp
  generalize hn' : c 25 2 = n at *
  obtain ⟨y', e, a1, a2⟩ := xloop_W (step := fun s : Int × xH => f_Md_mend_s123 b s.1 s.2) (I := fun s => -1 ≤ s.1 ∧ s.1 < n ∧ off [139, 145] [] y s.2 ∧ UBST n (MP c b) (s.2 139) (s.1 + 1)) (fun s => (s.1 + 1).toNat)
    (post := fun y' => off [139, 145] [] y y' ∧ UBST n (MP c b) (y' 139) 0) (s := (n - 1, xup y 139 n 0)) (by
      rintro ⟨r, z⟩ hI
      dsimp only at hI ⊢
      obtain ⟨r0, r1, zo, zb⟩ := hI
      unfold f_Md_mend_s123
      by_cases q : r < 0
      · right
        exact ⟨z, by rw [if_pos q], zo, by rw [show r + 1 = 0 by omega] at zb; exact zb⟩
      · left
        rw [if_neg q, xgd_pos (by omega) (by omega), xlet_eq]
        generalize hz1 : xup z 139 r 100000000 = z1
        have o1 : off [139] [] z z1 := by rw [← hz1]; exact off_up (by decide)
        have e1 : z1 139 r = 100000000 := by rw [← hz1, xup_same]
        have n1 : ∀ j, j ≠ r → z1 139 j = z 139 j := fun j hj => by rw [← hz1, xup_ne_j hj]
        unfold f_Md_mend_139
        obtain ⟨w, ew, w1, w2, w3, w4⟩ := xloop_W (step := fun s : Int × xH => f_Md_mend_s139 b r s.1 s.2) (I := fun s => 0 ≤ s.1 ∧ s.1 ≤ 5 ∧ off [139, 145] [] z1 s.2 ∧ (∀ j, j ≠ r → s.2 139 j = z 139 j) ∧ (s.2 139 r = 100000000 ∧ (∀ i, 0 ≤ i → i < s.1 → MP c b i r = -1) ∨ ∃ i, 0 ≤ i ∧ i < s.1 ∧ MP c b i r ≠ -1 ∧ s.2 139 r = MP c b i r + z 139 (r + tk i)) ∧ ∀ i, 0 ≤ i → i < s.1 → MP c b i r ≠ -1 → s.2 139 r ≤ MP c b i r + z 139 (r + tk i)) (fun s => (5 - s.1).toNat)
          (post := fun w => off [139, 145] [] z1 w ∧ (∀ j, j ≠ r → w 139 j = z 139 j) ∧ (∃ i, 0 ≤ i ∧ i < 5 ∧ MP c b i r ≠ -1 ∧ w 139 r = MP c b i r + z 139 (r + tk i)) ∧ ∀ i, 0 ≤ i → i < 5 → MP c b i r ≠ -1 → w 139 r ≤ MP c b i r + z 139 (r + tk i)) (s := (0, z1)) (by
            rintro ⟨k, w⟩ hI
            dsimp only at hI ⊢
            obtain ⟨k0, k1, wo, wn, we, wl⟩ := hI
            unfold f_Md_mend_s139
            by_cases q5 : k < 5
            · left
              have ow : off [97, 98, 99, 116, 124, 125, 126, 134, 135, 136, 137, 138, 139, 140, 141, 145] [22, 23, 57, 69, 70, 83, 84] m w := off_w (off_tr oy (off_tr zo (off_tr o1 wo))) (by decide) (by decide)
              have hMw : M140 c w b r := by
                have := hM r (by omega) r1
                have e140 : w 140 = y 140 := by rw [wo.1 140 (by decide) (by decide), o1.1 140 (by decide) (by decide), zo.1 140 (by decide) (by decide)]
                have e141 : w 141 = y 141 := by rw [wo.1 141 (by decide) (by decide), o1.1 141 (by decide) (by decide), zo.1 141 (by decide) (by decide)]
                unfold M140 at this ⊢
                rw [e140, e141]
                exact this
              obtain ⟨w', u1, u2⟩ := m_partAt (b := b) hT ow k0 q5 (by omega) (by rw [hn']; exact r1) hMw b0 b1
              have e199 : ∀ v, f_Md_mend_199 b r k v = some (Sum.inl (k + 1, v)) := fun v => by
                unfold f_Md_mend_199
                rw [w32_id (by omega) (by omega), xlet_eq]
              have w139 : w' 139 = w 139 := u2.1 139 (by decide) (by decide)
              rw [if_pos q5, u1, xc2_some]
              by_cases a : MP c b k r = -1
              · rw [a, fr_n, if_neg (by decide), e199]
                refine ⟨_, rfl, ⟨by dsimp only; omega, by dsimp only; omega, off_w (off_tr wo u2) (by decide) (by decide), fun j hj => ?_, ?_, fun i i0 i1 i2 => ?_⟩, by dsimp only; omega⟩
                · dsimp only; rw [w139]; exact wn j hj
                · dsimp only
                  rw [w139]
                  rcases we with ⟨x1, x2⟩ | ⟨i, x1, x2, x3⟩
                  · refine Or.inl ⟨x1, fun i i0 i1 => ?_⟩
                    by_cases x : i = k
                    · rw [x]; exact a
                    · exact x2 i i0 (by omega)
                  · exact Or.inr ⟨i, x1, by omega, x3⟩
                · dsimp only at i1 ⊢
                  rw [w139]
                  by_cases x : i = k
                  · rw [x] at i2; exact absurd a i2
                  · exact wl i i0 (by omega) i2
              · have t := tk_b (k := k)
                have pk := PK_tk hp r1 a
                have pb := p5 k r k0 q5 (by omega) r1 a
                have sb := UBST_b zb (j := r + tk k) (by omega) (by omega) pk
                have en : w' 139 (r + tk k) = z 139 (r + tk k) := by rw [w139]; exact wn _ (by omega)
                have tail : ∀ s6, s6 = tk k → f_Md_mend_192 b r k r (w' 139 r) (MP c b k r) r s6 w' = some (Sum.inl (k + 1, xup w' 139 r (min (w' 139 r) (MP c b k r + z 139 (r + tk k))))) := fun s6 hs => by
                  subst hs
                  unfold f_Md_mend_192
                  rw [w32_id (z := r + tk k) (by omega) (by omega), xgd_pos (by omega) (by omega), en, w32_id (by omega) (by omega), min_s, xc1_some, xgd_pos (by omega) (by omega), xlet_eq, e199]
                have both : (if k = 2 then (f_Md_mend_192 b r k r (w' 139 r) (MP c b k r) r 2 w') else (f_Md_mend_192 b r k r (w' 139 r) (MP c b k r) r 1 w')) = some (Sum.inl (k + 1, xup w' 139 r (min (w' 139 r) (MP c b k r + z 139 (r + tk k))))) := by
                  by_cases x : k = 2
                  · rw [if_pos x]; exact tail 2 (by unfold tk; rw [if_pos x])
                  · rw [if_neg x]; exact tail 1 (by unfold tk; rw [if_neg x])
                rw [fr_p (by omega), if_pos (by omega), xgd_pos (by omega) (by omega), both]
                refine ⟨_, rfl, ⟨by dsimp only; omega, by dsimp only; omega, off_w (off_tr wo (off_tr u2 (off_up (by decide)))) (by decide) (by decide), fun j hj => ?_, ?_, fun i i0 i1 i2 => ?_⟩, by dsimp only; omega⟩
                · dsimp only; rw [xup_ne_j hj, w139]; exact wn j hj
                · dsimp only
                  rw [xup_same, w139]
                  right
                  rcases we with ⟨x1, x2⟩ | ⟨i, x1, x2, x3, x4⟩
                  · exact ⟨k, k0, by omega, a, by omega⟩
                  · by_cases x : w 139 r ≤ MP c b k r + z 139 (r + tk k)
                    · exact ⟨i, x1, by omega, x3, by omega⟩
                    · exact ⟨k, k0, by omega, a, by omega⟩
                · dsimp only at i1 ⊢
                  rw [xup_same, w139]
                  by_cases x : i = k
                  · rw [x]; omega
                  · have := wl i i0 (by omega) i2; omega
            · right
              refine ⟨w, by rw [if_neg q5], wo, wn, ?_, fun i i0 i1 i2 => wl i i0 (by omega) i2⟩
              rcases we with ⟨x1, x2⟩ | ⟨i, x1, x2, x3⟩
              · obtain ⟨i, i0, i1, i2⟩ := p3 r (by omega) r1
                exact absurd (x2 i i0 (by omega)) i2
              · exact ⟨i, x1, by omega, x3⟩) ⟨Int.le_refl _, by dsimp only; omega, off_rf, n1, Or.inl ⟨e1, fun i i0 i1 => by dsimp only at i1; omega⟩, fun i i0 i1 => by dsimp only at i1; omega⟩
        rw [ew, xc1_some]
        unfold f_Md_mend_205
        rw [show r + -1 = r - 1 by omega, w32_id (by omega) (by omega), xlet_eq]
        refine ⟨_, rfl, ⟨by dsimp only; omega, by dsimp only; omega, off_w (off_tr zo (off_tr o1 w1)) (by decide) (by decide), ?_⟩, by dsimp only; omega⟩
        dsimp only
        refine ⟨by rw [w2 n (by omega)]; exact zb.1, fun r' x0 x1 x2 => ?_⟩
        by_cases x : r' = r
        · subst x
          obtain ⟨i, i0, i1, i2, i3⟩ := w3
          have ti := tk_b (k := i)
          have pk := PK_tk hp r1 i2
          have pb := p5 i r' i0 i1 (by omega) r1 i2
          have sb := UBST_b zb (j := r' + tk i) (by omega) (by omega) pk
          refine ⟨⟨i, i0, i1, i2, by rw [i3, w2 _ (by omega)]⟩, fun i' a0 a1 a2 => ?_, by omega, by omega⟩
          have ti' := tk_b (k := i')
          rw [w2 (r' + tk i') (by omega)]
          exact w4 i' a0 a1 a2
        · obtain ⟨⟨i, i0, i1, i2, i3⟩, u2, u3, u4⟩ := zb.2 r' (by omega) x1 x2
          have ti := tk_b (k := i)
          rw [w2 r' x]
          refine ⟨⟨i, i0, i1, i2, by rw [i3, w2 _ (by omega)]⟩, fun i' a0 a1 a2 => ?_, u3, u4⟩
          have ti' := tk_b (k := i')
          rw [w2 (r' + tk i') (by omega)]
          exact u2 i' a0 a1 a2) ⟨by dsimp only; omega, by dsimp only; omega, off_w (off_up (by decide)) (by decide) (by decide), by dsimp only; exact xup_same, fun r x0 x1 x2 => by dsimp only at x0; omega⟩
  exact ⟨y', e, a1, a2⟩
end
