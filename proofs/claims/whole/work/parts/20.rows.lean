/-! ROWS OF LETTERS in the class -/
def RO (o N : Int) (h : xH) : Prop := (xN (o + 2) : Int) = N ∧ (xN (o + 1) : Int) = 12 * N ∧ N ≤ 200 ∧ 0 ≤ h o 2 ∧ h o 2 ≤ N ∧ ∀ r, 0 ≤ r → r < h o 2 → 1 ≤ h (o + 2) r ∧ h (o + 2) r ≤ 12 ∧ ∀ k, 0 ≤ k → k < h (o + 2) r → 0 ≤ h (o + 1) (r * 12 + k) ∧ h (o + 1) (r * 12 + k) ≤ 25
def TO (t : Int) (h : xH) : Prop := 1 ≤ h t 1 ∧ h t 1 ≤ 12 ∧ ∀ k, 0 ≤ k → k < h t 1 → 0 ≤ h (t + 1) k ∧ h (t + 1) k ≤ 25
/-- letters, and -1 behind the last -/
def pad (n : Int) (f : Int → Int) (k : Int) : Int := if 0 ≤ k ∧ k < n then f k else -1
def rp (h : xH) (o r : Int) : Int → Int := pad (h (o + 2) r) (fun k => h (o + 1) (r * 12 + k))
def tp (h : xH) (t : Int) : Int → Int := pad (h t 1) (h (t + 1))
theorem pad_in {n : Int} {f : Int → Int} {k : Int} (h1 : 0 ≤ k) (h2 : k < n) : pad n f k = f k := if_pos ⟨h1, h2⟩
theorem pad_out {n : Int} {f : Int → Int} {k : Int} (h2 : n ≤ k) : pad n f k = -1 := if_neg (by omega)
theorem RO_b {o N : Int} {h : xH} (hR : RO o N h) {r : Int} (h1 : 0 ≤ r) (h2 : r < h o 2) {k : Int} : -1 ≤ rp h o r k ∧ rp h o r k ≤ 25 := by
  unfold rp pad
  split
  · next q => have := (hR.2.2.2.2.2 r h1 h2).2.2 k q.1 q.2; omega
  · omega
theorem TO_b {t : Int} {h : xH} (hT : TO t h) {k : Int} : -1 ≤ tp h t k ∧ tp h t k ≤ 25 := by
  unfold tp pad
  split
  · next q => have := hT.2.2 k q.1 q.2; omega
  · omega
theorem s_Rows_sizeOf {o N r : Int} {h : xH} (hR : RO o N h) : f_Rows_sizeOf o r h = some (if 0 ≤ r ∧ r < h o 2 then h (o + 2) r else 0) := by
  obtain ⟨e1, e2, e3, e4, e5, -⟩ := hR
  unfold f_Rows_sizeOf
  by_cases h1 : r < 0
  · simp (disch := omega) only [↓if_pos, ↓if_neg, ↓xgd_pos, ↓xgb_pos, ↓xgc_pos, ↓xlet_eq, xc1_some, xc2_some, w32_id, xup_same, xup_row, xup_ne_j, xsw_l, xsw_r]
  · by_cases h2 : r < h o 2
    · simp (disch := omega) only [↓if_pos, ↓if_neg, ↓xgd_pos, ↓xgb_pos, ↓xgc_pos, ↓xlet_eq, xc1_some, xc2_some, w32_id, xup_same, xup_row, xup_ne_j, xsw_l, xsw_r]
    · simp (disch := omega) only [↓if_pos, ↓if_neg, ↓xgd_pos, ↓xgb_pos, ↓xgc_pos, ↓xlet_eq, xc1_some, xc2_some, w32_id, xup_same, xup_row, xup_ne_j, xsw_l, xsw_r]
theorem s_Rows_at {o N r k : Int} {h : xH} (hR : RO o N h) (hk : 0 ≤ k) : f_Rows_at o r k h = some (if 0 ≤ r ∧ r < h o 2 then rp h o r k else -1) := by
  obtain ⟨e1, e2, e3, e4, e5, e6⟩ := hR
  unfold f_Rows_at
  by_cases h1 : r < 0
  · simp (disch := omega) only [↓if_pos, ↓if_neg, ↓xgd_pos, ↓xgb_pos, ↓xgc_pos, ↓xlet_eq, xc1_some, xc2_some, w32_id, xup_same, xup_row, xup_ne_j, xsw_l, xsw_r]
  · by_cases h2 : r < h o 2
    · have e7 := e6 r (by omega) h2
      by_cases h3 : k < h (o + 2) r
      · simp (disch := omega) only [rp, pad, ↓if_pos, ↓if_neg, ↓xgd_pos, ↓xgb_pos, ↓xgc_pos, ↓xlet_eq, xc1_some, xc2_some, w32_id, xup_same, xup_row, xup_ne_j, xsw_l, xsw_r]
      · simp (disch := omega) only [rp, pad, ↓if_pos, ↓if_neg, ↓xgd_pos, ↓xgb_pos, ↓xgc_pos, ↓xlet_eq, xc1_some, xc2_some, w32_id, xup_same, xup_row, xup_ne_j, xsw_l, xsw_r]
    · simp (disch := omega) only [↓if_pos, ↓if_neg, ↓xgd_pos, ↓xgb_pos, ↓xgc_pos, ↓xlet_eq, xc1_some, xc2_some, w32_id, xup_same, xup_row, xup_ne_j, xsw_l, xsw_r]
theorem s_Rows_at' {o N r k : Int} {h : xH} (hR : RO o N h) (hk : 0 ≤ k) (h1 : 0 ≤ r) (h2 : r < h o 2) : f_Rows_at o r k h = some (rp h o r k) := by
  rw [s_Rows_at hR hk, if_pos ⟨h1, h2⟩]
theorem s_Rows_sizeOf' {o N r : Int} {h : xH} (hR : RO o N h) (h1 : 0 ≤ r) (h2 : r < h o 2) : f_Rows_sizeOf o r h = some (h (o + 2) r) := by
  rw [s_Rows_sizeOf hR, if_pos ⟨h1, h2⟩]
theorem s_Row_at' {t k : Int} {h : xH} (hT : TO t h) (hk : 0 ≤ k) : f_Row_at t k h = some (tp h t k) := by
  rw [s_Row_at]
  have := hT.2.1
  unfold tp pad
  congr 1
  by_cases h1 : k < h t 1
  · rw [if_pos (by omega), if_pos ⟨hk, h1⟩]
  · rw [if_neg (by omega), if_neg (by omega)]
/-- the first rows before others, by letters -/
def ltp (p q : Int → Int) : Prop := ∃ k, 0 ≤ k ∧ k < 12 ∧ p k < q k ∧ ∀ j, 0 ≤ j → j < k → p j = q j
def eqp (p q : Int → Int) : Prop := ∀ k, 0 ≤ k → k < 12 → p k = q k
theorem tri {p q : Int → Int} : ltp p q ∨ eqp p q ∨ ltp q p := by
  have key : ∀ n : Nat, (∃ k, 0 ≤ k ∧ k < (n : Int) ∧ p k ≠ q k ∧ ∀ j, 0 ≤ j → j < k → p j = q j) ∨ ∀ k, 0 ≤ k → k < (n : Int) → p k = q k := by
    intro n
    induction n with
    | zero => right; intro k h1 h2; omega
    | succ n ih =>
      rcases ih with ⟨k, h1, h2, h3, h4⟩ | ih
      · exact Or.inl ⟨k, h1, by omega, h3, h4⟩
      · by_cases e : p n = q n
        · right
          intro k h1 h2
          by_cases hk : k = n
          · rw [hk]; exact e
          · exact ih k h1 (by omega)
        · exact Or.inl ⟨n, by omega, by omega, e, ih⟩
  rcases key 12 with ⟨k, h1, h2, h3, h4⟩ | h
  · by_cases h5 : p k < q k
    · exact Or.inl ⟨k, h1, h2, h5, h4⟩
    · exact Or.inr (Or.inr ⟨k, h1, h2, by omega, fun j a b => (h4 j a b).symm⟩)
  · exact Or.inr (Or.inl h)
theorem ltp_trans {p q r : Int → Int} (h1 : ltp p q) (h2 : ltp q r) : ltp p r := by
  obtain ⟨a, a1, a2, a3, a4⟩ := h1
  obtain ⟨b, b1, b2, b3, b4⟩ := h2
  rcases Int.lt_trichotomy a b with h | h | h
  · exact ⟨a, a1, a2, by rw [← b4 a a1 h]; exact a3, fun j c d => by rw [a4 j c d, b4 j c (by omega)]⟩
  · subst h
    exact ⟨a, a1, a2, by omega, fun j c d => by rw [a4 j c d, b4 j c d]⟩
  · exact ⟨b, b1, b2, by rw [a4 b b1 h]; exact b3, fun j c d => by rw [a4 j c (by omega), b4 j c d]⟩
theorem ltp_irr {p : Int → Int} : ¬ ltp p p := fun ⟨_, _, _, h, _⟩ => by omega
theorem ltp_ne {p q : Int → Int} (h : ltp p q) : ¬ eqp p q := fun e => by
  obtain ⟨k, h1, h2, h3, -⟩ := h
  have := e k h1 h2
  omega
theorem ltp_asym {p q : Int → Int} (h : ltp p q) : ¬ ltp q p := fun h2 => ltp_irr (ltp_trans h h2)
theorem eqp_symm {p q : Int → Int} (h : eqp p q) : eqp q p := fun k a b => (h k a b).symm
theorem eqp_trans {p q r : Int → Int} (h : eqp p q) (h2 : eqp q r) : eqp p r := fun k a b => (h k a b).trans (h2 k a b)
theorem ltp_eq {p q r : Int → Int} (h : ltp p q) (e : eqp q r) : ltp p r := by
  obtain ⟨k, h1, h2, h3, h4⟩ := h
  exact ⟨k, h1, h2, by rw [← e k h1 h2]; exact h3, fun j a b => by rw [h4 j a b, e j a (by omega)]⟩
theorem eq_ltp {p q r : Int → Int} (e : eqp p q) (h : ltp q r) : ltp p r := by
  obtain ⟨k, h1, h2, h3, h4⟩ := h
  exact ⟨k, h1, h2, by rw [e k h1 h2]; exact h3, fun j a b => by rw [e j a (by omega), h4 j a b]⟩
/-- how two rows compare, as a number -/
def cmp (p q : Int → Int) (d : Int) : Prop := (d < 0 ↔ ltp p q) ∧ (d = 0 ↔ eqp p q)
theorem cmp_of {p q : Int → Int} {k : Int} (h1 : 0 ≤ k) (h2 : k < 12) (h3 : p k ≠ q k) (h4 : ∀ j, 0 ≤ j → j < k → p j = q j) {d : Int} (hd : (d < 0 ↔ p k < q k) ∧ d ≠ 0) : cmp p q d := by
  refine ⟨⟨fun h => ⟨k, h1, h2, hd.1.mp h, h4⟩, fun h => ?_⟩, ⟨fun h => absurd h hd.2, fun h => absurd (h k h1 h2) h3⟩⟩
  rw [hd.1]
  rcases Int.lt_trichotomy (p k) (q k) with q1 | q1 | q1
  · exact q1
  · exact absurd q1 h3
  · exact absurd h (ltp_asym ⟨k, h1, h2, q1, fun j a b => (h4 j a b).symm⟩)
theorem cmp_eq {p q : Int → Int} (h : eqp p q) : cmp p q 0 := ⟨⟨fun z => by omega, fun z => absurd h (ltp_ne z)⟩, ⟨fun _ => h, fun _ => rfl⟩⟩
theorem s_Rows_order {o N r t : Int} {h : xH} (hR : RO o N h) (hT : TO t h) (h1 : 0 ≤ r) (h2 : r < h o 2) : ∃ d, f_Rows_order o r t h = some d ∧ cmp (rp h o r) (tp h t) d := by
  unfold f_Rows_order f_Rows_order_2
  have key := xloop_W (step := fun s : Int => f_Rows_order_s2 o r t s h) (I := fun k => 0 ≤ k ∧ k ≤ 12 ∧ ∀ j, 0 ≤ j → j < k → rp h o r j = tp h t j) (fun k => (12 - k).toNat)
    (post := fun b => (b = Sum.inl () ∧ eqp (rp h o r) (tp h t)) ∨ ∃ d, b = Sum.inr d ∧ cmp (rp h o r) (tp h t) d) (s := 0) ?_ ⟨by omega, by omega, fun j a b => by omega⟩
  · obtain ⟨b, e, hb⟩ := key
    rw [e]
    rcases hb with ⟨rfl, hb⟩ | ⟨d, rfl, hb⟩
    · exact ⟨0, rfl, cmp_eq hb⟩
    · exact ⟨d, rfl, hb⟩
  · intro k ⟨k0, k1, k2⟩
    have b1 := RO_b hR h1 h2 (k := k)
    have b2 := TO_b hT (k := k)
    dsimp only [f_Rows_order_s2]
    by_cases hk : k < 12
    · rw [if_pos hk, s_Rows_at' hR k0 h1 h2, s_Row_at' hT k0]
      by_cases e : rp h o r k = tp h t k
      · left
        refine ⟨k + 1, ?_, ⟨by omega, by omega, fun j a b => ?_⟩, by omega⟩
        · simp (disch := omega) only [↓if_pos, ↓if_neg, ↓xgd_pos, ↓xgb_pos, ↓xgc_pos, ↓xlet_eq, xc1_some, xc2_some, w32_id, xup_same, xup_row, xup_ne_j, xsw_l, xsw_r]
        · by_cases hj : j = k
          · rw [hj]; exact e
          · exact k2 j a (by omega)
      · right
        refine ⟨Sum.inr (rp h o r k - tp h t k), ?_, Or.inr ⟨_, rfl, cmp_of k0 hk e k2 ⟨by omega, by omega⟩⟩⟩
        simp (disch := omega) only [↓if_pos, ↓if_neg, ↓xgd_pos, ↓xgb_pos, ↓xgc_pos, ↓xlet_eq, xc1_some, xc2_some, w32_id, xup_same, xup_row, xup_ne_j, xsw_l, xsw_r]
    · right
      exact ⟨Sum.inl (), by rw [if_neg hk], Or.inl ⟨rfl, fun j a b => k2 j a (by omega)⟩⟩
