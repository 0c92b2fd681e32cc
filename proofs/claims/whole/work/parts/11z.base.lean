/-! THE FUNCTIONS THEMSELVES: words about heaps and loops -/
theorem xlet_eq {β α : Type} {e : β} {f : β → Option α} : xlet e f = f e := rfl
theorem xsw_l {β γ δ : Type} {x : β} {f : β → δ} {g : γ → δ} : xsw (Sum.inl x) f g = f x := rfl
theorem xsw_r {β γ δ : Type} {x : γ} {f : β → δ} {g : γ → δ} : xsw (Sum.inr x) f g = g x := rfl
theorem xup_same {h : xH} {o j v : Int} : xup h o j v o j = v := by simp [xup]
theorem xup_row {h : xH} {o j v o' : Int} (h1 : o' ≠ o) : xup h o j v o' = h o' := by
  funext j'
  unfold xup
  rw [if_neg (fun q => h1 q.1)]
theorem xup_ne_j {h : xH} {o j v j' : Int} (h1 : j' ≠ j) : xup h o j v o j' = h o j' := by
  unfold xup
  rw [if_neg (fun q => h1 q.2)]
theorem xcp_row {h : xH} {s sp d dp n o' : Int} (h1 : o' ≠ d) : xcp h s sp d dp n o' = h o' := by
  funext j'
  unfold xcp
  rw [if_neg (fun q => h1 q.1)]
theorem xcp_in {h : xH} {s sp d dp n j : Int} (h1 : dp ≤ j) (h2 : j < dp + n) : xcp h s sp d dp n d j = h s (sp + (j - dp)) := by
  unfold xcp
  rw [if_pos ⟨rfl, h1, h2⟩]
theorem xcp_out {h : xH} {s sp d dp n j : Int} (h1 : j < dp ∨ dp + n ≤ j) : xcp h s sp d dp n d j = h d j := by
  unfold xcp
  rw [if_neg (by omega)]
theorem xloop_S {σ β : Type} {step : σ → Option (σ ⊕ β)} (S : Nat → σ) (n : Nat) (b : β) (hs : ∀ k, k < n → step (S k) = some (.inl (S (k + 1)))) (he : step (S n) = some (.inr b)) : xloop step (S 0) = some b := by
  have key : ∀ m k, n - k = m → k ≤ n → xloop step (S k) = some b := by
    intro m
    induction m with
    | zero =>
      intro k h1 h2
      have : k = n := by omega
      subst this
      exact xloop_out he
    | succ m ih =>
      intro k h1 h2
      rw [xloop_in (hs k (by omega))]
      exact ih (k + 1) (by omega) (by omega)
  exact key n 0 rfl (Nat.zero_le n)
theorem xloop_W {σ β : Type} {step : σ → Option (σ ⊕ β)} {I : σ → Prop} (μ : σ → Nat) {post : β → Prop} (hs : ∀ s, I s → (∃ s', step s = some (.inl s') ∧ I s' ∧ μ s' < μ s) ∨ ∃ b, step s = some (.inr b) ∧ post b) {s : σ} (h0 : I s) : ∃ b, xloop step s = some b ∧ post b := by
  have key : ∀ m s, μ s < m → I s → ∃ b, xloop step s = some b ∧ post b := by
    intro m
    induction m with
    | zero => intro s h1; omega
    | succ m ih =>
      intro s h1 h2
      rcases hs s h2 with ⟨s', e, h3, h4⟩ | ⟨b, e, h3⟩
      · rw [xloop_in e]
        exact ih s' (by omega) h3
      · exact ⟨b, xloop_out e, h3⟩
  exact key (μ s + 1) s (by omega) h0
/-- a row of letters is laid: its size, its first letters -/
def hRow (o : Int) (k : Int) (f : Int → Int) (h : xH) : xH := fun o' j' => if o' = o ∧ j' = 1 then k else if o' = o + 1 ∧ 0 ≤ j' ∧ j' < k then f j' else h o' j'
theorem hRow_row {o k : Int} {f : Int → Int} {h : xH} {o' : Int} (h1 : o' ≠ o) (h2 : o' ≠ o + 1) : hRow o k f h o' = h o' := by
  funext j
  unfold hRow
  rw [if_neg (fun q => h1 q.1), if_neg (fun q => h2 q.1)]
theorem hRow_size {o k : Int} {f : Int → Int} {h : xH} : hRow o k f h o 1 = k := by
  unfold hRow
  rw [if_pos ⟨rfl, rfl⟩]
theorem hRow_let {o k : Int} {f : Int → Int} {h : xH} {j : Int} (h1 : 0 ≤ j) (h2 : j < k) : hRow o k f h (o + 1) j = f j := by
  unfold hRow
  rw [if_neg (by omega), if_pos ⟨rfl, h1, h2⟩]
theorem hRow_0 {o : Int} {f : Int → Int} {h : xH} : hRow o 0 f h = xup h o 1 0 := by
  funext o' j'
  unfold hRow xup
  split
  · rfl
  · rw [if_neg (by omega)]
theorem hRow_succ {o k : Int} {f : Int → Int} {h : xH} (hk : 0 ≤ k) : xup (xup (hRow o k f h) (o + 1) k (f k)) o 1 (k + 1) = hRow o (k + 1) f h := by
  funext o' j'
  simp only [hRow, xup]
  by_cases c1 : o' = o ∧ j' = 1
  · simp only [if_pos c1]
  · by_cases c2 : o' = o + 1 ∧ j' = k
    · rw [if_neg c1, if_pos c2, if_neg c1, if_pos (show o' = o + 1 ∧ 0 ≤ j' ∧ j' < k + 1 by omega), c2.2]
    · by_cases c3 : o' = o + 1 ∧ 0 ≤ j' ∧ j' < k
      · simp only [if_neg c1, if_neg c2, if_pos c3, if_pos (show o' = o + 1 ∧ 0 ≤ j' ∧ j' < k + 1 by omega)]
      · simp only [if_neg c1, if_neg c2, if_neg c3, if_neg (show ¬ (o' = o + 1 ∧ 0 ≤ j' ∧ j' < k + 1) by omega)]
/-- the row's letters and size, the rest as before -/
theorem s_Row_append {o v : Int} {h : xH} (h0 : 0 ≤ h o 1) (h1 : h o 1 < 12) : f_Row_append o v h = some (1, xup (xup h (o + 1) (h o 1) v) o 1 (h o 1 + 1)) := by
  simp (disch := omega) only [f_Row_append, ↓if_pos, ↓if_neg, ↓xgd_pos, ↓xgb_pos, ↓xgc_pos, ↓xlet_eq, xc1_some, xc2_some, w32_id, xup_same, xup_row, xup_ne_j, xsw_l, xsw_r]
theorem s_Row_clear {o : Int} {h : xH} : f_Row_clear o h = some (xup h o 1 0) := rfl
theorem s_Row_append_hRow {o k : Int} {f : Int → Int} {h : xH} (h0 : 0 ≤ k) (h1 : k < 12) : f_Row_append o (f k) (hRow o k f h) = some (1, hRow o (k + 1) f h) := by
  rw [s_Row_append (by rw [hRow_size]; exact h0) (by rw [hRow_size]; exact h1), hRow_size, hRow_succ h0]
theorem s_Row_at {o p : Int} {h : xH} : f_Row_at o p h = some (if 0 ≤ p ∧ p < h o 1 ∧ p < 12 then h (o + 1) p else -1) := by
  unfold f_Row_at
  by_cases h1 : p < 0
  · rw [if_pos h1, if_neg (by omega)]
  · by_cases h2 : p < h o 1
    · by_cases h3 : p < 12
      · simp (disch := omega) only [↓if_pos, ↓if_neg, ↓xgd_pos, ↓xgb_pos, ↓xgc_pos, ↓xlet_eq, xc1_some, xc2_some, w32_id, xup_same, xup_row, xup_ne_j, xsw_l, xsw_r]
      · simp (disch := omega) only [↓if_pos, ↓if_neg, ↓xgd_pos, ↓xgb_pos, ↓xgc_pos, ↓xlet_eq, xc1_some, xc2_some, w32_id, xup_same, xup_row, xup_ne_j, xsw_l, xsw_r]
    · simp (disch := omega) only [↓if_pos, ↓if_neg, ↓xgd_pos, ↓xgb_pos, ↓xgc_pos, ↓xlet_eq, xc1_some, xc2_some, w32_id, xup_same, xup_row, xup_ne_j, xsw_l, xsw_r]
