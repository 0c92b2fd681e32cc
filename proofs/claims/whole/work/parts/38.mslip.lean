/-! SLIPS: the model's -/
def MA (h : xH) : Prop := 0 ≤ h 81 22 ∧ h 81 22 ≤ 12 ∧ ∀ k, 0 ≤ k → k < h 81 22 → 0 ≤ h 97 k ∧ h 97 k ≤ 25
def MB (h : xH) : Prop := 0 ≤ h 81 23 ∧ h 81 23 ≤ 12 ∧ ∀ k, 0 ≤ k → k < h 81 23 → 0 ≤ h 98 k ∧ h 98 k ≤ 25
def pA (h : xH) : Int → Int := pad (h 81 22) (h 97)
def pB (h : xH) : Int → Int := pad (h 81 23) (h 98)
def fr (v : Int) : Int := if v = -1 then 1000000 else v
theorem fr_n : fr (-1) = 1000000 := if_pos rfl
theorem fr_p {v : Int} (hv : 0 ≤ v) : fr v = v := if_neg (by omega)
def hT (h : xH) (a b : Int) : xH := xup (xup h 81 83 a) 81 84 b
section
variable {h : xH} {a b a' b' o j : Int}
theorem hT_row (ho : o ≠ 81) : hT h a b o = h o := by unfold hT; rw [xup_row ho, xup_row ho]
theorem hT_j (h1 : j ≠ 83) (h2 : j ≠ 84) : hT h a b 81 j = h 81 j := by unfold hT; rw [xup_ne_j h2, xup_ne_j h1]
theorem hT_83 : hT h a b 81 83 = a := by unfold hT; rw [xup_ne_j (by decide), xup_same]
theorem hT_84 : hT h a b 81 84 = b := by unfold hT; rw [xup_same]
theorem hT_a : xup (hT h a b) 81 83 a' = hT h a' b := by
  funext o j
  simp only [hT, xup]
  by_cases z : o = 81 ∧ j = 83
  · obtain ⟨rfl, rfl⟩ := z
    simp
  · by_cases w : o = 81 ∧ j = 84
    · obtain ⟨rfl, rfl⟩ := w
      simp
    · rw [if_neg z, if_neg w, if_neg z, if_neg w, if_neg z]
theorem hT_b : xup (hT h a b) 81 84 b' = hT h a b' := by
  funext o j
  simp only [hT, xup]
  by_cases w : o = 81 ∧ j = 84
  · rw [if_pos w, if_pos w]
  · rw [if_neg w, if_neg w, if_neg w]
theorem hT_hT : hT (hT h a b) a' b' = hT h a' b' := by
  show xup (xup (hT h a b) 81 83 a') 81 84 b' = _
  rw [hT_a, hT_b]
theorem hT_off : off [] [83, 84] h (hT h a b) := ⟨fun o h0 _ => hT_row h0, fun j hn => hT_j (fun z => hn (by simp [z])) (fun z => hn (by simp [z]))⟩
end
section
variable {h : xH} {a b : Int}
theorem m_swap (hP : Pr h) {x y : Int} (x0 : 0 ≤ x) (x1 : x ≤ 25) (y0 : 0 ≤ y) (y1 : y ≤ 25) : f_Md_swapPrice x y (hT h a b) = some (byL h 11 (x * 26 + y) (h 10 1)) := by
  obtain ⟨p1, p2, p3, p4, p5, p6⟩ := hP
  obtain ⟨e, -⟩ := p4 (x * 26 + y) (by omega) (by omega)
  obtain ⟨e', -⟩ := p1 1 (by omega) (by omega)
  have c : 26 * x + y = x * 26 + y := by omega
  unfold f_Md_swapPrice byL
  rw [w32_id (z := 26 * x) (by omega) (by omega), w32_id (by omega) (by omega), xgd_pos (by omega) (by omega), hT_row (by decide), hT_row (by decide), c, e, e', xgd_pos (by omega) (by omega), xgd_pos (by omega) (by omega)]
  split <;> rfl
theorem m_left (hP : Pr h) {x : Int} (x0 : 0 ≤ x) (x1 : x ≤ 25) : f_Md_leftPrice x (hT h a b) = some (byL h 12 x (h 10 2)) := by
  obtain ⟨p1, p2, p3, p4, p5, p6⟩ := hP
  obtain ⟨e, -⟩ := p5 x (by omega) (by omega)
  obtain ⟨e', -⟩ := p1 2 (by omega) (by omega)
  unfold f_Md_leftPrice byL
  rw [xgd_pos (by omega) (by omega), hT_row (by decide), hT_row (by decide), e, e', xgd_pos (by omega) (by omega), xgd_pos (by omega) (by omega)]
  split <;> rfl
theorem m_put (hP : Pr h) {x : Int} (x0 : 0 ≤ x) (x1 : x ≤ 25) : f_Md_putPrice x (hT h a b) = some (byL h 13 x (h 10 3)) := by
  obtain ⟨p1, p2, p3, p4, p5, p6⟩ := hP
  obtain ⟨e, -⟩ := p6 x (by omega) (by omega)
  obtain ⟨e', -⟩ := p1 3 (by omega) (by omega)
  unfold f_Md_putPrice byL
  rw [xgd_pos (by omega) (by omega), hT_row (by decide), hT_row (by decide), e, e', xgd_pos (by omega) (by omega), xgd_pos (by omega) (by omega)]
  split <;> rfl
theorem byL_b (hP : Pr h) : (∀ x y, 0 ≤ x → x ≤ 25 → 0 ≤ y → y ≤ 25 → 1 ≤ byL h 11 (x * 26 + y) (h 10 1) ∧ byL h 11 (x * 26 + y) (h 10 1) ≤ 9999) ∧ (∀ x, 0 ≤ x → x ≤ 25 → 1 ≤ byL h 12 x (h 10 2) ∧ byL h 12 x (h 10 2) ≤ 9999) ∧ ∀ x, 0 ≤ x → x ≤ 25 → 1 ≤ byL h 13 x (h 10 3) ∧ byL h 13 x (h 10 3) ≤ 9999 := by
  obtain ⟨p1, p2, p3, p4, p5, p6⟩ := hP
  refine ⟨fun x y x0 x1 y0 y1 => ?_, fun x x0 x1 => ?_, fun x x0 x1 => ?_⟩
  · have := p4 (x * 26 + y) (by omega) (by omega)
    have := p1 1 (by omega) (by omega)
    unfold byL
    split <;> omega
  · have := p5 x (by omega) (by omega)
    have := p1 2 (by omega) (by omega)
    unfold byL
    split <;> omega
  · have := p6 x (by omega) (by omega)
    have := p1 3 (by omega) (by omega)
    unfold byL
    split <;> omega
theorem m_hasSound (hS : So h) (hA : MA h) (hB : MB h) {s i j : Int} (s0 : 0 ≤ s) (s1 : s < h 14 2) (i0 : 0 ≤ i) (i1 : i ≤ 12) (j0 : 0 ≤ j) (j1 : j ≤ 12) : ∃ r, f_Md_hasSound s i j (hT h a b) = some r ∧ (r = 1 ∧ stq h 14 s (pA h) i ∧ stq h 17 s (pB h) j ∨ r = 0 ∧ ¬ (stq h 14 s (pA h) i ∧ stq h 17 s (pB h) j)) := by
  obtain ⟨S1, S2, S3, S4, S5⟩ := hS
  obtain ⟨t1, t2, t3, t4, t5, t6, t7, t8, t9⟩ := S5 s s0 s1
  obtain ⟨u1, u2, u3⟩ := S1.2.2.2.2.2 s s0 s1
  obtain ⟨v1, v2, v3⟩ := S2.2.2.2.2.2 s s0 (by omega)
  simp only [Int.reduceAdd] at u1 u2 u3 v1 v2 v3
  have b20 : h 14 2 ≤ 20 := S1.2.2.2.2.1
  have hA2 := hA.2.1
  have hB2 := hB.2.1
  have out1 : h 81 22 < i + h 16 s → ¬ stq h 14 s (pA h) i := fun z w => by
    have c := w (h 16 s - 1) (by omega) (by show h 16 s - 1 < h 16 s; omega)
    unfold pA at c
    rw [pad_out (by omega)] at c
    have := (u3 (h 16 s - 1) (by omega) (by omega)).1
    simp only [Int.reduceAdd] at c
    omega
  have out2 : h 81 23 < j + h 19 s → ¬ stq h 17 s (pB h) j := fun z w => by
    have c := w (h 19 s - 1) (by omega) (by show h 19 s - 1 < h 19 s; omega)
    unfold pB at c
    rw [pad_out (by omega)] at c
    have := (v3 (h 19 s - 1) (by omega) (by omega)).1
    simp only [Int.reduceAdd] at c
    omega
  unfold f_Md_hasSound
  rw [xgd_pos (by omega) (by omega), hT_row (o := 92) (by decide), hT_row (o := 94) (by decide), hT_j (j := 22) (by decide) (by decide), hT_j (j := 23) (by decide) (by decide), t3, t4, w32_id (z := i + h 16 s) (by omega) (by omega), w32_id (z := j + h 19 s) (by omega) (by omega)]
  by_cases q1 : h 81 22 < i + h 16 s
  · exact ⟨0, by rw [if_pos q1], Or.inr ⟨rfl, fun z => out1 q1 z.1⟩⟩
  rw [if_neg q1, xgd_pos (by omega) (by omega)]
  by_cases q2 : h 81 23 < j + h 19 s
  · exact ⟨0, by rw [if_pos q2], Or.inr ⟨rfl, fun z => out2 q2 z.2⟩⟩
  rw [if_neg q2]
  unfold f_Md_hasSound_35
  obtain ⟨b1, e1, r1⟩ := xloop_W (step := fun x : Int => f_Md_hasSound_s35 s i j x (hT h a b)) (I := fun k => 0 ≤ k ∧ k ≤ h 16 s ∧ ∀ x, 0 ≤ x → x < k → pA h (i + x) = h 15 (s * 12 + x)) (fun k => (12 - k).toNat)
    (post := fun b => b = Sum.inl () ∧ stq h 14 s (pA h) i ∨ b = Sum.inr 0 ∧ ¬ stq h 14 s (pA h) i) (s := 0) (by
      intro k ⟨k0, k1, k2⟩
      dsimp only [f_Md_hasSound_s35]
      rw [xgd_pos (by omega) (by omega), hT_row (o := 92) (by decide), hT_row (o := 97) (by decide), hT_row (o := 93) (by decide), t3]
      by_cases hk : k < h 16 s
      · rw [if_pos hk, w32_id (z := i + k) (by omega) (by omega), w32_id (z := 3 * s) (by omega) (by omega), w32_id (z := 3 * s + k) (by omega) (by omega), xgd_pos (by omega) (by omega), xgd_pos (by omega) (by omega), t8 k k0 hk]
        have ex : pA h (i + k) = h 97 (i + k) := by unfold pA; rw [pad_in (by omega) (by omega)]
        by_cases e : h 97 (i + k) = h 15 (s * 12 + k)
        · left
          refine ⟨k + 1, by rw [if_pos e, w32_id (by omega) (by omega), xlet_eq], ⟨by omega, by omega, fun x a b => ?_⟩, by omega⟩
          by_cases hj : x = k
          · rw [hj, ex]; exact e
          · exact k2 x a (by omega)
        · right
          exact ⟨Sum.inr 0, by rw [if_neg e], Or.inr ⟨rfl, fun z => e (by rw [← ex]; exact z k k0 hk)⟩⟩
      · right
        exact ⟨Sum.inl (), by rw [if_neg hk], Or.inl ⟨rfl, fun x a b => k2 x a (by have : x < h 16 s := b; omega)⟩⟩) ⟨by omega, by omega, fun j a b => by omega⟩
  rw [e1, xc1_some]
  rcases r1 with ⟨rfl, r1⟩ | ⟨rfl, r1⟩
  · rw [xsw_l]
    unfold f_Md_hasSound_77 f_Md_hasSound_80
    obtain ⟨b2, e2, r2⟩ := xloop_W (step := fun x : Int => f_Md_hasSound_s80 s j x (hT h a b)) (I := fun k => 0 ≤ k ∧ k ≤ h 19 s ∧ ∀ x, 0 ≤ x → x < k → pB h (j + x) = h 18 (s * 12 + x)) (fun k => (12 - k).toNat)
      (post := fun b => b = Sum.inl () ∧ stq h 17 s (pB h) j ∨ b = Sum.inr 0 ∧ ¬ stq h 17 s (pB h) j) (s := 0) (by
        intro k ⟨k0, k1, k2⟩
        dsimp only [f_Md_hasSound_s80]
        rw [xgd_pos (by omega) (by omega), hT_row (o := 94) (by decide), hT_row (o := 98) (by decide), hT_row (o := 95) (by decide), t4]
        by_cases hk : k < h 19 s
        · rw [if_pos hk, w32_id (z := j + k) (by omega) (by omega), w32_id (z := 3 * s) (by omega) (by omega), w32_id (z := 3 * s + k) (by omega) (by omega), xgd_pos (by omega) (by omega), xgd_pos (by omega) (by omega), t9 k k0 hk]
          have ex : pB h (j + k) = h 98 (j + k) := by unfold pB; rw [pad_in (by omega) (by omega)]
          by_cases e : h 98 (j + k) = h 18 (s * 12 + k)
          · left
            refine ⟨k + 1, by rw [if_pos e, w32_id (by omega) (by omega), xlet_eq], ⟨by omega, by omega, fun x a b => ?_⟩, by omega⟩
            by_cases hj : x = k
            · rw [hj, ex]; exact e
            · exact k2 x a (by omega)
          · right
            exact ⟨Sum.inr 0, by rw [if_neg e], Or.inr ⟨rfl, fun z => e (by rw [← ex]; exact z k k0 hk)⟩⟩
        · right
          exact ⟨Sum.inl (), by rw [if_neg hk], Or.inl ⟨rfl, fun x a b => k2 x a (by have : x < h 19 s := b; omega)⟩⟩) ⟨by omega, by omega, fun j a b => by omega⟩
    rw [e2, xc1_some]
    rcases r2 with ⟨rfl, r2⟩ | ⟨rfl, r2⟩
    · exact ⟨1, by rw [xsw_l]; rfl, Or.inl ⟨rfl, r1, r2⟩⟩
    · exact ⟨0, by rw [xsw_r], Or.inr ⟨rfl, fun z => r2 z.2⟩⟩
  · exact ⟨0, by rw [xsw_r], Or.inr ⟨rfl, fun z => r1 z.1⟩⟩
theorem sp_b (hP : Pr h) (hS : So h) {p q : Int → Int} (lp : ltr p) (lq : ltr q) {c i j : Int} (c0 : 0 ≤ c) (c1 : c < 7 + h 14 2) : sp h p q c i j = -1 ∨ 0 ≤ sp h p q c i j ∧ sp h p q c i j ≤ 9999 := by
  have x := lp i
  have y := lq j
  obtain ⟨L1, L2, L3⟩ := byL_b hP
  have p1 := hP.1
  unfold sp
  by_cases q0 : c = 0
  · rw [if_pos q0]; split
    · omega
    · split <;> omega
  rw [if_neg q0]
  by_cases q1 : c = 1
  · rw [if_pos q1]; split
    · omega
    · have := L1 (p i) (q j) (by omega) (by omega) (by omega) (by omega); omega
  rw [if_neg q1]
  by_cases q2 : c = 2
  · rw [if_pos q2]; split
    · omega
    · have := L2 (p i) (by omega) (by omega); omega
  rw [if_neg q2]
  by_cases q3 : c = 3
  · rw [if_pos q3]; split
    · omega
    · have := L3 (q j) (by omega) (by omega); omega
  rw [if_neg q3]
  by_cases q4 : c = 4
  · rw [if_pos q4]; split
    · omega
    · have := p1 4 (by omega) (by omega); omega
  rw [if_neg q4]
  by_cases q5 : c = 5
  · rw [if_pos q5]; split
    · omega
    · have := p1 5 (by omega) (by omega); omega
  rw [if_neg q5]
  by_cases q6 : c = 6
  · rw [if_pos q6]; split
    · omega
    · have := p1 6 (by omega) (by omega); omega
  rw [if_neg q6]
  by_cases z : stq h 14 (c - 7) p i ∧ stq h 17 (c - 7) q j
  · rw [sv_pos z]
    have := (hS.2.2.2.2 (c - 7) (by omega) (by omega)).2.2.2.2.2
    omega
  · rw [sv_neg z]; exact Or.inl rfl
theorem m_slip (hP : Pr h) (hS : So h) (hA : MA h) (hB : MB h) {k s c i j : Int} (hc : (0 ≤ k ∧ k < 7 ∧ c = k) ∨ (k = 7 ∧ c = s + 7 ∧ 0 ≤ s ∧ s < h 14 2)) (i0 : 0 ≤ i) (i1 : i ≤ h 81 22) (j0 : 0 ≤ j) (j1 : j ≤ h 81 23) : f_Md_slip k s i j h = some (fr (sp h (pA h) (pB h) c i j), hT h (tA h c) (tB h c)) := by
  have hA2 := hA.2.1
  have hB2 := hB.2.1
  have b20 : h 14 2 ≤ 20 := hS.1.2.2.2.2.1
  have lA : ltr (pA h) := pad_ltr hA.2.2
  have lB : ltr (pB h) := pad_ltr hB.2.2
  obtain ⟨L1, L2, L3⟩ := byL_b hP
  obtain ⟨tA0, tA1, tA2, tA3, tA4, tA5, tA6⟩ := tA_k (h := h)
  obtain ⟨tB0, tB1, tB2, tB3, tB4, tB5, tB6⟩ := tB_k (h := h)
  have p1 := hP.1
  have key : ∀ l5 s0 : Int, (l5 = 1 ∧ i < h 81 22 ∨ l5 = 0 ∧ h 81 22 ≤ i) → (s0 = 1 ∧ j < h 81 23 ∨ s0 = 0 ∧ h 81 23 ≤ j) → f_Md_slip_39 k s i j l5 s0 (hT h 1 1) = some (fr (sp h (pA h) (pB h) c i j), hT h (tA h c) (tB h c)) := by
    intro l5 s0 hl hs
    have hx : l5 = 1 ∧ i < h 81 22 ∧ pA h i = h 97 i ∧ 0 ≤ h 97 i ∧ h 97 i ≤ 25 ∨ l5 = 0 ∧ h 81 22 ≤ i ∧ pA h i = -1 := by
      rcases hl with ⟨a, b⟩ | ⟨a, b⟩
      · exact Or.inl ⟨a, b, pad_in i0 b, hA.2.2 i i0 b⟩
      · exact Or.inr ⟨a, b, pad_out b⟩
    have hy : s0 = 1 ∧ j < h 81 23 ∧ pB h j = h 98 j ∧ 0 ≤ h 98 j ∧ h 98 j ≤ 25 ∨ s0 = 0 ∧ h 81 23 ≤ j ∧ pB h j = -1 := by
      rcases hs with ⟨a, b⟩ | ⟨a, b⟩
      · exact Or.inl ⟨a, b, pad_in j0 b, hB.2.2 j j0 b⟩
      · exact Or.inr ⟨a, b, pad_out b⟩
    have hx' : i + 1 < h 81 22 ∧ pA h (i + 1) = h 97 (i + 1) ∧ 0 ≤ h 97 (i + 1) ∨ h 81 22 ≤ i + 1 ∧ pA h (i + 1) = -1 := by
      by_cases z : i + 1 < h 81 22
      · exact Or.inl ⟨z, pad_in (by omega) z, (hA.2.2 _ (by omega) z).1⟩
      · exact Or.inr ⟨by omega, pad_out (by omega)⟩
    have hy' : j + 1 < h 81 23 ∧ pB h (j + 1) = h 98 (j + 1) ∧ 0 ≤ h 98 (j + 1) ∨ h 81 23 ≤ j + 1 ∧ pB h (j + 1) = -1 := by
      by_cases z : j + 1 < h 81 23
      · exact Or.inl ⟨z, pad_in (by omega) z, (hB.2.2 _ (by omega) z).1⟩
      · exact Or.inr ⟨by omega, pad_out (by omega)⟩
    unfold f_Md_slip_39 sp
    simp only [hT_a, hT_b, xlet_eq]
    simp only [hT_row (o := 97) (by decide), hT_row (o := 98) (by decide), hT_row (o := 88) (by decide), hT_j (j := 22) (by decide) (by decide), hT_j (j := 23) (by decide) (by decide), w32_id (z := i + 1) (by omega) (by omega), w32_id (z := j + 1) (by omega) (by omega)]
    by_cases q0 : k = 0
    · rw [if_pos q0, if_pos (by omega : c = 0), (by omega : c = 0), tA0, tB0]
      rcases hx with ⟨a1, a2, a3, a4, a5⟩ | ⟨a1, a2, a3⟩
      · rw [if_neg (by omega)]
        rcases hy with ⟨b1, b2, b3, b4, b5⟩ | ⟨b1, b2, b3⟩
        · rw [if_neg (by omega), xgd_pos i0 (by omega), xgd_pos j0 (by omega)]
          by_cases e : h 97 i = h 98 j
          · rw [if_pos e, if_neg (by omega), if_pos (by omega)]; rfl
          · rw [if_neg e, if_neg (by omega), if_neg (by omega), fr_n]
        · rw [if_pos b1, if_neg (by omega), if_neg (by omega), fr_n]
      · rw [if_pos a1, if_pos a3, fr_n]
    rw [if_neg q0, if_neg (by omega : ¬ c = 0)]
    by_cases q1 : k = 1
    · rw [if_pos q1, if_pos (by omega : c = 1), (by omega : c = 1), tA1, tB1]
      rcases hx with ⟨a1, a2, a3, a4, a5⟩ | ⟨a1, a2, a3⟩
      · rw [if_neg (by omega)]
        rcases hy with ⟨b1, b2, b3, b4, b5⟩ | ⟨b1, b2, b3⟩
        · rw [if_neg (by omega), xgd_pos i0 (by omega), xgd_pos j0 (by omega)]
          by_cases e : h 97 i = h 98 j
          · rw [if_pos e, if_pos (by omega), fr_n]
          · have := L1 (h 97 i) (h 98 j) a4 a5 b4 b5
            rw [if_neg e, if_neg (by omega), xgd_pos i0 (by omega), xgd_pos j0 (by omega), m_swap hP a4 a5 b4 b5, xc1_some, a3, b3, fr_p (by omega)]
        · rw [if_pos b1, if_pos (by omega), fr_n]
      · rw [if_pos a1, if_pos (by omega), fr_n]
    rw [if_neg q1, if_neg (by omega : ¬ c = 1)]
    by_cases q2 : k = 2
    · rw [if_pos q2, if_pos (by omega : c = 2), (by omega : c = 2), tA2, tB2]
      rcases hx with ⟨a1, a2, a3, a4, a5⟩ | ⟨a1, a2, a3⟩
      · have := L2 (h 97 i) a4 a5
        rw [if_neg (by omega), if_neg (by omega), xgd_pos i0 (by omega), m_left hP a4 a5, xc1_some, a3, fr_p (by omega)]
      · rw [if_pos a1, if_pos (by omega), fr_n]
    rw [if_neg q2, if_neg (by omega : ¬ c = 2)]
    by_cases q3 : k = 3
    · rw [if_pos q3, if_pos (by omega : c = 3), (by omega : c = 3), tA3, tB3]
      rcases hy with ⟨a1, a2, a3, a4, a5⟩ | ⟨a1, a2, a3⟩
      · have := L3 (h 98 j) a4 a5
        rw [if_neg (by omega), if_neg (by omega), xgd_pos j0 (by omega), m_put hP a4 a5, xc1_some, a3, fr_p (by omega)]
      · rw [if_pos a1, if_pos (by omega), fr_n]
    rw [if_neg q3, if_neg (by omega : ¬ c = 3)]
    by_cases q4 : k = 4
    · rw [if_pos q4, if_pos (by omega : c = 4), (by omega : c = 4), tA4, tB4]
      have := p1 4 (by omega) (by omega)
      by_cases u : i + 1 < h 81 22
      · rw [if_pos u]
        by_cases v : j + 1 < h 81 23
        · rw [if_pos v, xgd_pos i0 (by omega), xgd_pos (by omega) (by omega)]
          by_cases e : h 97 i = h 97 (i + 1)
          · rw [if_pos e, if_pos (by omega), fr_n]
          · rw [if_neg e, xgd_pos i0 (by omega), xgd_pos (by omega) (by omega)]
            by_cases f : h 97 i = h 98 (j + 1)
            · rw [if_pos f, xgd_pos (by omega) (by omega), xgd_pos j0 (by omega)]
              by_cases g : h 97 (i + 1) = h 98 j
              · rw [if_pos g, xgd_pos (by omega) (by omega), if_neg (by omega), fr_p (by omega), this.1]
              · rw [if_neg g, if_pos (by omega), fr_n]
            · rw [if_neg f, if_pos (by omega), fr_n]
        · rw [if_neg v, if_pos (by omega), fr_n]
      · rw [if_neg u, if_pos (by omega), fr_n]
    rw [if_neg q4, if_neg (by omega : ¬ c = 4)]
    by_cases q5 : k = 5
    · rw [if_pos q5, if_pos (by omega : c = 5), (by omega : c = 5), tA5, tB5]
      have := p1 5 (by omega) (by omega)
      rcases hx with ⟨a1, a2, a3, a4, a5⟩ | ⟨a1, a2, a3⟩
      · rw [if_neg (by omega)]
        by_cases v : j + 1 < h 81 23
        · rw [if_pos v, xgd_pos i0 (by omega), xgd_pos j0 (by omega)]
          by_cases e : h 97 i = h 98 j
          · rw [if_pos e, xgd_pos i0 (by omega), xgd_pos (by omega) (by omega)]
            by_cases f : h 97 i = h 98 (j + 1)
            · rw [if_pos f, xgd_pos (by omega) (by omega), if_neg (by omega), fr_p (by omega), this.1]
            · rw [if_neg f, if_pos (by omega), fr_n]
          · rw [if_neg e, if_pos (by omega), fr_n]
        · rw [if_neg v, if_pos (by omega), fr_n]
      · rw [if_pos a1, if_pos (by omega), fr_n]
    rw [if_neg q5, if_neg (by omega : ¬ c = 5)]
    by_cases q6 : k = 6
    · rw [if_pos q6, if_pos (by omega : c = 6), (by omega : c = 6), tA6, tB6]
      have := p1 6 (by omega) (by omega)
      by_cases u : i + 1 < h 81 22
      · rw [if_pos u]
        rcases hy with ⟨b1, b2, b3, b4, b5⟩ | ⟨b1, b2, b3⟩
        · rw [if_neg (by omega), xgd_pos i0 (by omega), xgd_pos (by omega) (by omega)]
          by_cases e : h 97 i = h 97 (i + 1)
          · rw [if_pos e, xgd_pos i0 (by omega), xgd_pos j0 (by omega)]
            by_cases f : h 97 i = h 98 j
            · rw [if_pos f, xgd_pos (by omega) (by omega), if_neg (by omega), fr_p (by omega), this.1]
            · rw [if_neg f, if_pos (by omega), fr_n]
          · rw [if_neg e, if_pos (by omega), fr_n]
        · rw [if_pos b1, if_pos (by omega), fr_n]
      · rw [if_neg u, if_pos (by omega), fr_n]
    rw [if_neg q6, if_neg (by omega : ¬ c = 6)]
    obtain ⟨-, hcs, s0', s1⟩ : k = 7 ∧ c = s + 7 ∧ 0 ≤ s ∧ s < h 14 2 := by omega
    obtain ⟨t1, t2, t3, t4, t5, t6, t7, t8, t9⟩ := hS.2.2.2.2 s s0' s1
    have ec : c - 7 = s := by omega
    have eA : tA h c = h 16 s := by unfold tA; rw [if_neg (by omega), ec]
    have eB : tB h c = h 19 s := by unfold tB; rw [if_neg (by omega), ec]
    simp only [hT_row (o := 92) (by decide), hT_row (o := 94) (by decide), hT_row (o := 96) (by decide)]
    rw [xgd_pos s0' (by omega), xgd_pos s0' (by omega), eA, eB, t3, t4]
    obtain ⟨r, e, hr⟩ := m_hasSound (a := h 16 s) (b := h 19 s) hS hA hB s0' s1 (i := i) (j := j) (by omega) (by omega) (by omega) (by omega)
    rw [e, xc1_some]
    rcases hr with ⟨rfl, r1⟩ | ⟨rfl, r1⟩
    · rw [if_neg (by omega), xgd_pos s0' (by omega), sv_pos (by rw [ec]; exact r1), ec, fr_p (by omega), t5]
    · rw [if_pos rfl, sv_neg (by rw [ec]; exact r1), fr_n]
  unfold f_Md_slip
  rw [xlet_eq, xlet_eq]
  change (if i < hT h 1 1 81 22 then f_Md_slip_23 k s i j 1 (hT h 1 1) else f_Md_slip_23 k s i j 0 (hT h 1 1)) = _
  unfold f_Md_slip_23
  rw [hT_j (by decide) (by decide), hT_j (by decide) (by decide)]
  by_cases u : i < h 81 22
  · rw [if_pos u]
    by_cases v : j < h 81 23
    · rw [if_pos v]; exact key 1 1 (by omega) (by omega)
    · rw [if_neg v]; exact key 1 0 (by omega) (by omega)
  · rw [if_neg u]
    by_cases v : j < h 81 23
    · rw [if_pos v]; exact key 0 1 (by omega) (by omega)
    · rw [if_neg v]; exact key 0 0 (by omega) (by omega)
/-- slips over two rows: they may stand -/
theorem sp_ok (hP : Pr h) (hS : So h) {la lb : Int} {f g : Int → Int} (a0 : 0 ≤ la) (a1 : la ≤ 12) (b0 : 0 ≤ lb) (b1 : lb ≤ 12) (hf : ∀ k, 0 ≤ k → k < la → 0 ≤ f k ∧ f k ≤ 25) (hg : ∀ k, 0 ≤ k → k < lb → 0 ≤ g k ∧ g k ≤ 25) : SPok (sp h (pad la f) (pad lb g)) (tA h) (tB h) (7 + h 14 2).toNat la lb := by
  have b20 : h 14 2 ≤ 20 := hS.1.2.2.2.2.1
  have bn : 0 ≤ h 14 2 := hS.1.2.2.2.1
  obtain ⟨tA0, tA1, tA2, tA3, tA4, tA5, tA6⟩ := tA_k (h := h)
  obtain ⟨tB0, tB1, tB2, tB3, tB4, tB5, tB6⟩ := tB_k (h := h)
  obtain ⟨L1, L2, L3⟩ := byL_b hP
  have lp : ltr (pad la f) := pad_ltr hf
  have lq : ltr (pad lb g) := pad_ltr hg
  refine ⟨a0, a1, b0, b1, by omega, ⟨tA2, tB2, tA3, tB3⟩, fun i j i0 i1 j0 j1 => ?_, fun i j i0 i1 j0 j1 => ?_, fun c c0 c1 => ?_, fun c i j c0 c1 i0 i1 j0 j1 hn => ?_⟩
  · unfold sp
    have e := hf i i0 i1
    rw [if_neg (by omega), if_neg (by omega), if_pos rfl, pad_in i0 i1, if_neg (by omega)]
    have := L2 (f i) e.1 e.2
    omega
  · unfold sp
    have e := hg j j0 j1
    rw [if_neg (by omega), if_neg (by omega), if_neg (by omega), if_pos rfl, pad_in j0 j1, if_neg (by omega)]
    have := L3 (g j) e.1 e.2
    omega
  · by_cases z : c < 7
    · have : c = 0 ∨ c = 1 ∨ c = 2 ∨ c = 3 ∨ c = 4 ∨ c = 5 ∨ c = 6 := by omega
      rcases this with rfl | rfl | rfl | rfl | rfl | rfl | rfl <;> omega
    · unfold tA tB
      rw [if_neg z, if_neg z]
      obtain ⟨t1, t2, t3, t4, t5, t6, t7, t8, t9⟩ := hS.2.2.2.2 (c - 7) (by omega) (by omega)
      obtain ⟨u1, u2, u3⟩ := hS.1.2.2.2.2.2 (c - 7) (by omega) (by omega)
      obtain ⟨v1, v2, v3⟩ := hS.2.1.2.2.2.2.2 (c - 7) (by omega) (by have := hS.2.2.1; omega)
      simp only [Int.reduceAdd] at u1 u2 u3 v1 v2 v3
      omega
  · rcases sp_b hP hS lp lq (c := c) (i := i) (j := j) c0 (by omega) with z | z
    · exact absurd z hn
    · refine ⟨z.1, z.2, ?_⟩
      have nz : ∀ {n : Int} {f : Int → Int} {k : Int}, 0 ≤ k → pad n f k ≠ -1 → k < n := fun {n f k} k0 hk => by
        by_cases y : k < n
        · exact y
        · exact absurd (pad_out (by omega)) hk
      by_cases q : c < 7
      · have : c = 0 ∨ c = 1 ∨ c = 2 ∨ c = 3 ∨ c = 4 ∨ c = 5 ∨ c = 6 := by omega
        have n1 := nz (n := la) (f := f) i0
        have n2 := nz (n := lb) (f := g) j0
        have n3 := nz (n := la) (f := f) (k := i + 1) (by omega)
        have n4 := nz (n := lb) (f := g) (k := j + 1) (by omega)
        have li := lp i
        have lj := lq j
        have ei : ¬ pad la f i = -1 → pad la f i = pad lb g j → ¬ pad lb g j = -1 := fun a b => by omega
        unfold sp at hn
        rcases this with rfl | rfl | rfl | rfl | rfl | rfl | rfl
        · rw [if_pos rfl] at hn
          split at hn
          · omega
          · split at hn <;> omega
        · rw [if_neg (by omega), if_pos rfl] at hn
          split at hn <;> omega
        · rw [if_neg (by omega), if_neg (by omega), if_pos rfl] at hn
          split at hn <;> omega
        · rw [if_neg (by omega), if_neg (by omega), if_neg (by omega), if_pos rfl] at hn
          split at hn <;> omega
        · rw [if_neg (by omega), if_neg (by omega), if_neg (by omega), if_neg (by omega), if_pos rfl] at hn
          split at hn <;> omega
        · rw [if_neg (by omega), if_neg (by omega), if_neg (by omega), if_neg (by omega), if_neg (by omega), if_pos rfl] at hn
          split at hn <;> omega
        · rw [if_neg (by omega), if_neg (by omega), if_neg (by omega), if_neg (by omega), if_neg (by omega), if_neg (by omega), if_pos rfl] at hn
          split at hn <;> omega
      · have es : sp h (pad la f) (pad lb g) c i j = sv h (pad la f) (pad lb g) c i j := by
          unfold sp
          rw [if_neg (by omega), if_neg (by omega), if_neg (by omega), if_neg (by omega), if_neg (by omega), if_neg (by omega), if_neg (by omega)]
        by_cases w : stq h 14 (c - 7) (pad la f) i ∧ stq h 17 (c - 7) (pad lb g) j
        · obtain ⟨u1, u2, u3⟩ := hS.1.2.2.2.2.2 (c - 7) (by omega) (by omega)
          obtain ⟨v1, v2, v3⟩ := hS.2.1.2.2.2.2.2 (c - 7) (by omega) (by have := hS.2.2.1; omega)
          have w1 := w.1 (h (14 + 2) (c - 7) - 1) (by omega) (by omega)
          have w2 := w.2 (h (17 + 2) (c - 7) - 1) (by omega) (by omega)
          have x1 := (u3 (h (14 + 2) (c - 7) - 1) (by omega) (by omega)).1
          have x2 := (v3 (h (17 + 2) (c - 7) - 1) (by omega) (by omega)).1
          have y1 := nz (n := la) (f := f) (k := i + (h (14 + 2) (c - 7) - 1)) (by omega) (by omega)
          have y2 := nz (n := lb) (f := g) (k := j + (h (17 + 2) (c - 7) - 1)) (by omega) (by omega)
          unfold tA tB
          rw [if_neg q, if_neg q]
          simp only [Int.reduceAdd] at y1 y2
          omega
        · rw [es, sv_neg w] at hn
          exact absurd rfl hn
end
