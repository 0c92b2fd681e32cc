/-! ADD AND DROP -/
theorem xN7 : (xN (5 + 2) : Int) = 200 := by decide +kernel
theorem xN6 : (xN (5 + 1) : Int) = 12 * 200 := by decide +kernel
/-- a word stands well on both sides -/
def wOK (h : xH) (a : Int) : Prop := 1 ≤ h 7 a ∧ h 7 a ≤ 12 ∧ (∀ k, 0 ≤ k → k < h 7 a → 0 ≤ h 6 (a * 12 + k) ∧ h 6 (a * 12 + k) ≤ 25) ∧ h 85 a = h 7 a ∧ h 87 a = h 8 a ∧ 1 ≤ h 8 a ∧ h 8 a ≤ 100000 ∧ ∀ k, 0 ≤ k → k < h 7 a → h 86 (12 * a + k) = h 6 (a * 12 + k)
theorem Wd_w {h : xH} (hW : Wd h) {a : Int} (h1 : 0 ≤ a) (h2 : a < h 5 2) : wOK h a := by
  obtain ⟨l1, l2, l3⟩ := Wd_len hW.1 h1 h2
  obtain ⟨b1, b5⟩ := hW.1.2.2.1 a h1 h2
  obtain ⟨b2, b3, b4⟩ := hW.2 a h1 h2
  exact ⟨l1, l2, l3, b1, b2, b3, b4, b5⟩
theorem Wd_of {h : xH} (h1 : 0 ≤ h 5 2 ∧ h 5 2 ≤ 200) (h2 : h 81 5 = h 5 2) (h3 : ∀ a, 0 ≤ a → a < h 5 2 → wOK h a) (h4 : srt h) : Wd h := by
  refine ⟨⟨⟨xN7, xN6, by omega, h1.1, h1.2, fun r a b => ?_⟩, h2, fun w a b => ?_, h4⟩, fun w a b => ?_⟩
  · obtain ⟨c1, c2, c3, -⟩ := h3 r a b
    exact ⟨c1, c2, c3⟩
  · obtain ⟨c1, c2, c3, c4, c5, c6, c7, c8⟩ := h3 w a b
    exact ⟨c4, c8⟩
  · obtain ⟨c1, c2, c3, c4, c5, c6, c7, c8⟩ := h3 w a b
    exact ⟨c5, c6, c7⟩
/-- a word has gone to another place -/
def wS (h h' : xH) (a b : Int) : Prop := h' 7 a = h 7 b ∧ h' 8 a = h 8 b ∧ (∀ i, 0 ≤ i → i < 12 → h' 6 (a * 12 + i) = h 6 (b * 12 + i)) ∧ h' 85 a = h 85 b ∧ h' 87 a = h 87 b ∧ ∀ i, 0 ≤ i → i < 12 → h' 86 (12 * a + i) = h 86 (12 * b + i)
theorem wS_ok {h h' : xH} {a b : Int} (s : wS h h' a b) (w : wOK h b) : wOK h' a := by
  obtain ⟨s1, s2, s3, s4, s5, s6⟩ := s
  obtain ⟨w1, w2, w3, w4, w5, w6, w7, w8⟩ := w
  refine ⟨by omega, by omega, fun k a1 a2 => ?_, by omega, by omega, by omega, by omega, fun k a1 a2 => ?_⟩
  · rw [s3 k a1 (by omega)]; exact w3 k a1 (by omega)
  · rw [s3 k a1 (by omega), s6 k a1 (by omega)]; exact w8 k a1 (by omega)
theorem wS_rp {h h' : xH} {a b : Int} (s : wS h h' a b) (w : wOK h b) : rp h' 5 a = rp h 5 b := by
  obtain ⟨s1, s2, s3, s4, s5, s6⟩ := s
  exact pad_ext s1 (fun k a1 a2 => s3 k a1 (by have := w.2.1; have a2 : k < h 7 b := a2; omega))
theorem Wd_ins {h h' : xH} {p m : Int} {f : Int → Int} (hW : Wd h) (hp : plc h (pad m f) p) (hno : ∀ v, 0 ≤ v → v < h 5 2 → ¬ eqp (rp h 5 v) (pad m f)) (hn : h 5 2 < 200) (e1 : h' 5 2 = h 5 2 + 1) (e2 : h' 81 5 = h 5 2 + 1) (s1 : ∀ a, 0 ≤ a → a < p → wS h h' a a) (s2 : ∀ a, p < a → a ≤ h 5 2 → wS h h' a (a - 1)) (w : wOK h' p) (hr : rp h' 5 p = pad m f) : Wd h' := by
  obtain ⟨p1, p2, p3, p4⟩ := hp
  have hlt : ∀ v, p ≤ v → v < h 5 2 → ltp (pad m f) (rp h 5 v) := fun v a b => by
    rcases tri (p := rp h 5 v) (q := pad m f) with z | z | z
    · exact absurd z (p4 v a b)
    · exact absurd z (hno v (by omega) b)
    · exact z
  have r1 : ∀ a, 0 ≤ a → a < p → rp h' 5 a = rp h 5 a := fun a b c => wS_rp (s1 a b c) (Wd_w hW b (by omega))
  have r2 : ∀ a, p < a → a ≤ h 5 2 → rp h' 5 a = rp h 5 (a - 1) := fun a b c => wS_rp (s2 a b c) (Wd_w hW (by omega) (by omega))
  refine Wd_of (by omega) (by omega) (fun a b c => ?_) (fun v w b c d => ?_)
  · rcases Int.lt_trichotomy a p with z | z | z
    · exact wS_ok (s1 a b z) (Wd_w hW b (by omega))
    · rw [z]; exact w
    · exact wS_ok (s2 a z (by omega)) (Wd_w hW (by omega) (by omega))
  · rcases Int.lt_trichotomy v p with z | z | z
    · rw [r1 v b z]
      rcases Int.lt_trichotomy w p with y | y | y
      · rw [r1 w (by omega) y]; exact hW.1.2.2.2 v w b c (by omega)
      · rw [y, hr]; exact p3 v b z
      · rw [r2 w y (by omega)]; exact hW.1.2.2.2 v (w - 1) b (by omega) (by omega)
    · rw [z, hr, r2 w (by omega) (by omega)]
      exact hlt (w - 1) (by omega) (by omega)
    · rw [r2 v z (by omega), r2 w (by omega) (by omega)]
      exact hW.1.2.2.2 (v - 1) (w - 1) (by omega) (by omega) (by omega)
theorem Wd_del {h h' : xH} {p : Int} (hW : Wd h) (hp : 0 ≤ p ∧ p < h 5 2) (e1 : h' 5 2 = h 5 2 - 1) (e2 : h' 81 5 = h 5 2 - 1) (s1 : ∀ a, 0 ≤ a → a < p → wS h h' a a) (s2 : ∀ a, p ≤ a → a < h 5 2 - 1 → wS h h' a (a + 1)) : Wd h' := by
  have hn := Wd_n hW.1
  have r1 : ∀ a, 0 ≤ a → a < p → rp h' 5 a = rp h 5 a := fun a b c => wS_rp (s1 a b c) (Wd_w hW b (by omega))
  have r2 : ∀ a, p ≤ a → a < h 5 2 - 1 → rp h' 5 a = rp h 5 (a + 1) := fun a b c => wS_rp (s2 a b c) (Wd_w hW (by omega) (by omega))
  refine Wd_of (by omega) (by omega) (fun a b c => ?_) (fun v w b c d => ?_)
  · by_cases z : a < p
    · exact wS_ok (s1 a b z) (Wd_w hW b (by omega))
    · exact wS_ok (s2 a (by omega) (by omega)) (Wd_w hW (by omega) (by omega))
  · by_cases z : v < p
    · rw [r1 v b z]
      by_cases y : w < p
      · rw [r1 w (by omega) y]; exact hW.1.2.2.2 v w b c (by omega)
      · rw [r2 w (by omega) (by omega)]; exact hW.1.2.2.2 v (w + 1) b (by omega) (by omega)
    · rw [r2 v (by omega) (by omega), r2 w (by omega) (by omega)]
      exact hW.1.2.2.2 (v + 1) (w + 1) (by omega) (by omega) (by omega)
/-- the model looks for the place -/
theorem s_Md_place {c p m : Int} {f : Int → Int} {h : xH} (hW : Wd0 h) (h1 : 1 ≤ m ∧ m ≤ 12) (h83 : h 83 0 = m) (h84 : ∀ k, 0 ≤ k → k < m → h 84 k = f k) (hf : ∀ k, 0 ≤ k → k < m → 0 ≤ f k ∧ f k ≤ 25) (hp : plc h (pad m f) p) : xloop (fun s : Int => f_Md_add_s85 c s h) 0 = some p := by
  obtain ⟨p1, p2, p3, p4⟩ := hp
  have hn := Wd_n hW
  have h5 := hW.2.1
  have key := xloop_W (step := fun s : Int => f_Md_add_s85 c s h) (I := fun i => 0 ≤ i ∧ i ≤ p) (fun i => (p - i).toNat) (post := fun b => b = p) (s := 0) ?_ ⟨by omega, p1⟩
  · obtain ⟨b, e, rfl⟩ := key
    exact e
  · intro i ⟨i1, i2⟩
    dsimp only [f_Md_add_s85]
    by_cases q : i < h 5 2
    · have hl := Wd_len hW i1 q
      obtain ⟨a1, a5⟩ := hW.2.2.1 i i1 q
      obtain ⟨d, e1, e2, e3⟩ := s_Md_compares (w := i) (n := h 83 0) (c := 84) (p := 0) (h := h) ⟨i1, by omega⟩ ⟨by omega, by omega, fun k b1 b2 => by rw [a5 k b1 (by omega)]; exact hl.2.2 k b1 (by omega)⟩ (by omega) (by rw [xN84]; omega) (fun k b1 b2 => by rw [show (0 : Int) + k = k by omega, h84 k b1 (by omega)]; exact hf k b1 (by omega))
      have ep : pad (h 83 0) (fun k => h 84 (0 + k)) = pad m f := pad_ext h83 (fun k b1 b2 => by rw [show (0 : Int) + k = k by omega]; exact h84 k b1 b2)
      rw [ep, Wd_mp hW i1 q] at e2
      by_cases q2 : d < 0
      · left
        have hi : i < p := by
          by_cases z : i < p
          · exact z
          · exact absurd (e2.mp q2) (p4 i (by omega) q)
        exact ⟨i + 1, by simp (disch := omega) only [h5, e1, ↓if_pos, ↓if_neg, ↓xgd_pos, ↓xgb_pos, ↓xgc_pos, ↓xlet_eq, xc1_some, xc2_some, w32_id, xup_same, xup_row, xup_ne_j, xsw_l, xsw_r], ⟨by omega, by omega⟩, by omega⟩
      · right
        have hi : i = p := by
          by_cases z : i < p
          · exact absurd (e2.mpr (p3 i i1 z)) q2
          · omega
        exact ⟨i, by simp (disch := omega) only [h5, e1, ↓if_pos, ↓if_neg, ↓xgd_pos, ↓xgb_pos, ↓xgc_pos, ↓xlet_eq, xc1_some, xc2_some, w32_id, xup_same, xup_row, xup_ne_j, xsw_l, xsw_r], hi⟩
    · right
      exact ⟨i, by simp (disch := omega) only [h5, ↓if_pos, ↓if_neg, ↓xgd_pos, ↓xgb_pos, ↓xgc_pos, ↓xlet_eq, xc1_some, xc2_some, w32_id, xup_same, xup_row, xup_ne_j, xsw_l, xsw_r], by omega⟩
/-- the model lays the new word's letters -/
theorem s_Md_lay {c p m : Int} {h : xH} (hp : 0 ≤ p ∧ p < 200) (h1 : 1 ≤ m ∧ m ≤ 12) (h83 : h 83 0 = m) : xloop (fun s : Int × xH => f_Md_add_s175 c p s.1 s.2) (0, h) = some (hLay 86 (12 * p) m (fun k => h 84 k) h) := by
  refine xloop_T (fun k => ((k : Int), hLay 86 (12 * p) k (fun k => h 84 k) h)) m.toNat (by rw [show ((0 : Nat) : Int) = 0 by rfl, hLay_0]) ?_ ?_
  · intro k hk
    dsimp only [f_Md_add_s175]
    have e83 : hLay 86 (12 * p) (k : Int) (fun k => h 84 k) h 83 = h 83 := hLay_row (by decide)
    have e84 : hLay 86 (12 * p) (k : Int) (fun k => h 84 k) h 84 = h 84 := hLay_row (by decide)
    rw [xgd_pos (by decide) (by decide)]
    simp only [e83]
    rw [if_pos (by omega), xgd_pos (by omega) (by omega), w32_id (z := 12 * p) (by omega) (by omega), w32_id (z := 12 * p + (k : Int)) (by omega) (by omega), xgd_pos (by omega) (by omega), xlet_eq, e84, hLay_succ (f := fun k => h 84 k) (by omega), w32_id (by omega) (by omega), xlet_eq]
    congr 3
  · dsimp only [f_Md_add_s175]
    have e : ((m.toNat : Nat) : Int) = m := by omega
    have e83 : hLay 86 (12 * p) m (fun k => h 84 k) h 83 = h 83 := hLay_row (by decide)
    rw [e, xgd_pos (by decide) (by decide)]
    simp only [e83]
    rw [if_neg (by omega)]
