/-! ROWS OF LETTERS in the class -/
def RO (o N : Int) (h : xH) : Prop := (xN (o + 2) : Int) = N ∧ (xN (o + 1) : Int) = 12 * N ∧ N ≤ 200 ∧ 0 ≤ h o 2 ∧ h o 2 ≤ N ∧ ∀ r, 0 ≤ r → r < h o 2 → 1 ≤ h (o + 2) r ∧ h (o + 2) r ≤ 12 ∧ ∀ k, 0 ≤ k → k < h (o + 2) r → 0 ≤ h (o + 1) (r * 12 + k) ∧ h (o + 1) (r * 12 + k) ≤ 25
def TO (t : Int) (h : xH) : Prop := 1 ≤ h t 1 ∧ h t 1 ≤ 12 ∧ ∀ k, 0 ≤ k → k < h t 1 → 0 ≤ h (t + 1) k ∧ h (t + 1) k ≤ 25
/-- letters, and -1 behind the last -/
def pad (n : Int) (f : Int → Int) (k : Int) : Int := if 0 ≤ k ∧ k < n then f k else -1
def rp (h : xH) (o r : Int) : Int → Int := pad (h (o + 2) r) (fun k => h (o + 1) (r * 12 + k))
def tp (h : xH) (t : Int) : Int → Int := pad (h t 1) (h (t + 1))
theorem pad_in {n : Int} {f : Int → Int} {k : Int} (h1 : 0 ≤ k) (h2 : k < n) : pad n f k = f k := if_pos ⟨h1, h2⟩
theorem pad_out {n : Int} {f : Int → Int} {k : Int} (h2 : n ≤ k) : pad n f k = -1 := if_neg (by omega)
theorem RO_b {o N : Int} {h : xH} (hR : RO o N h) {r : Int} (h1 : 0 ≤ r) (h2 : r < h o 2) {k : Int} : -1 ≤ rp h o r k ∧ rp h o r k ≤ 25 := by
  unfold rp pad
  split
  · next q => have := (hR.2.2.2.2.2 r h1 h2).2.2 k q.1 q.2; dsimp only; omega
  · omega
theorem TO_b {t : Int} {h : xH} (hT : TO t h) {k : Int} : -1 ≤ tp h t k ∧ tp h t k ≤ 25 := by
  unfold tp pad
  split
  · next q => have := hT.2.2 k q.1 q.2; omega
  · omega
theorem s_Rows_sizeOf {o N r : Int} {h : xH} (hR : RO o N h) : f_Rows_sizeOf o r h = some (if 0 ≤ r ∧ r < h o 2 then h (o + 2) r else 0) := by
  obtain ⟨e1, e2, e3, e4, e5, -⟩ := hR
  unfold f_Rows_sizeOf
  by_cases h1 : r < 0
  · simp (disch := omega) only [↓if_pos, ↓if_neg, ↓xgd_pos, ↓xgb_pos, ↓xgc_pos, ↓xlet_eq, xc1_some, xc2_some, w32_id, xup_same, xup_row, xup_ne_j, xsw_l, xsw_r]
  · by_cases h2 : r < h o 2
    · simp (disch := omega) only [↓if_pos, ↓if_neg, ↓xgd_pos, ↓xgb_pos, ↓xgc_pos, ↓xlet_eq, xc1_some, xc2_some, w32_id, xup_same, xup_row, xup_ne_j, xsw_l, xsw_r]
    · simp (disch := omega) only [↓if_pos, ↓if_neg, ↓xgd_pos, ↓xgb_pos, ↓xgc_pos, ↓xlet_eq, xc1_some, xc2_some, w32_id, xup_same, xup_row, xup_ne_j, xsw_l, xsw_r]
theorem s_Rows_at {o N r k : Int} {h : xH} (hR : RO o N h) (hk : 0 ≤ k) : f_Rows_at o r k h = some (if 0 ≤ r ∧ r < h o 2 then rp h o r k else -1) := by
  obtain ⟨e1, e2, e3, e4, e5, e6⟩ := hR
  unfold f_Rows_at
  by_cases h1 : r < 0
  · simp (disch := omega) only [↓if_pos, ↓if_neg, ↓xgd_pos, ↓xgb_pos, ↓xgc_pos, ↓xlet_eq, xc1_some, xc2_some, w32_id, xup_same, xup_row, xup_ne_j, xsw_l, xsw_r]
  · by_cases h2 : r < h o 2
    · have e7 := e6 r (by omega) h2
      by_cases h3 : k < h (o + 2) r
      · simp (disch := omega) only [rp, pad, ↓if_pos, ↓if_neg, ↓xgd_pos, ↓xgb_pos, ↓xgc_pos, ↓xlet_eq, xc1_some, xc2_some, w32_id, xup_same, xup_row, xup_ne_j, xsw_l, xsw_r]
      · simp (disch := omega) only [rp, pad, ↓if_pos, ↓if_neg, ↓xgd_pos, ↓xgb_pos, ↓xgc_pos, ↓xlet_eq, xc1_some, xc2_some, w32_id, xup_same, xup_row, xup_ne_j, xsw_l, xsw_r]
    · simp (disch := omega) only [↓if_pos, ↓if_neg, ↓xgd_pos, ↓xgb_pos, ↓xgc_pos, ↓xlet_eq, xc1_some, xc2_some, w32_id, xup_same, xup_row, xup_ne_j, xsw_l, xsw_r]
theorem s_Rows_at' {o N r k : Int} {h : xH} (hR : RO o N h) (hk : 0 ≤ k) (h1 : 0 ≤ r) (h2 : r < h o 2) : f_Rows_at o r k h = some (rp h o r k) := by
  rw [s_Rows_at hR hk, if_pos ⟨h1, h2⟩]
theorem s_Rows_sizeOf' {o N r : Int} {h : xH} (hR : RO o N h) (h1 : 0 ≤ r) (h2 : r < h o 2) : f_Rows_sizeOf o r h = some (h (o + 2) r) := by
  rw [s_Rows_sizeOf hR, if_pos ⟨h1, h2⟩]
theorem s_Row_at' {t k : Int} {h : xH} (hT : TO t h) (hk : 0 ≤ k) : f_Row_at t k h = some (tp h t k) := by
  rw [s_Row_at]
  have := hT.2.1
  unfold tp pad
  congr 1
  by_cases h1 : k < h t 1
  · rw [if_pos (by omega), if_pos ⟨hk, h1⟩]
  · rw [if_neg (by omega), if_neg (by omega)]
/-- the first rows before others, by letters -/
def ltp (p q : Int → Int) : Prop := ∃ k, 0 ≤ k ∧ k < 12 ∧ p k < q k ∧ ∀ j, 0 ≤ j → j < k → p j = q j
def eqp (p q : Int → Int) : Prop := ∀ k, 0 ≤ k → k < 12 → p k = q k
theorem tri {p q : Int → Int} : ltp p q ∨ eqp p q ∨ ltp q p := by
  have key : ∀ n : Nat, (∃ k, 0 ≤ k ∧ k < (n : Int) ∧ p k ≠ q k ∧ ∀ j, 0 ≤ j → j < k → p j = q j) ∨ ∀ k, 0 ≤ k → k < (n : Int) → p k = q k := by
    intro n
    induction n with
    | zero => right; intro k h1 h2; omega
    | succ n ih =>
      rcases ih with ⟨k, h1, h2, h3, h4⟩ | ih
      · exact Or.inl ⟨k, h1, by omega, h3, h4⟩
      · by_cases e : p n = q n
        · right
          intro k h1 h2
          by_cases hk : k = n
          · rw [hk]; exact e
          · exact ih k h1 (by omega)
        · exact Or.inl ⟨n, by omega, by omega, e, ih⟩
  rcases key 12 with ⟨k, h1, h2, h3, h4⟩ | h
  · by_cases h5 : p k < q k
    · exact Or.inl ⟨k, h1, h2, h5, h4⟩
    · exact Or.inr (Or.inr ⟨k, h1, h2, by omega, fun j a b => (h4 j a b).symm⟩)
  · exact Or.inr (Or.inl h)
theorem ltp_trans {p q r : Int → Int} (h1 : ltp p q) (h2 : ltp q r) : ltp p r := by
  obtain ⟨a, a1, a2, a3, a4⟩ := h1
  obtain ⟨b, b1, b2, b3, b4⟩ := h2
  rcases Int.lt_trichotomy a b with h | h | h
  · exact ⟨a, a1, a2, by rw [← b4 a a1 h]; exact a3, fun j c d => by rw [a4 j c d, b4 j c (by omega)]⟩
  · subst h
    exact ⟨a, a1, a2, by omega, fun j c d => by rw [a4 j c d, b4 j c d]⟩
  · exact ⟨b, b1, b2, by rw [a4 b b1 h]; exact b3, fun j c d => by rw [a4 j c (by omega), b4 j c d]⟩
theorem ltp_irr {p : Int → Int} : ¬ ltp p p := fun ⟨_, _, _, h, _⟩ => by omega
theorem ltp_ne {p q : Int → Int} (h : ltp p q) : ¬ eqp p q := fun e => by
  obtain ⟨k, h1, h2, h3, -⟩ := h
  have := e k h1 h2
  omega
theorem ltp_asym {p q : Int → Int} (h : ltp p q) : ¬ ltp q p := fun h2 => ltp_irr (ltp_trans h h2)
theorem eqp_symm {p q : Int → Int} (h : eqp p q) : eqp q p := fun k a b => (h k a b).symm
theorem eqp_trans {p q r : Int → Int} (h : eqp p q) (h2 : eqp q r) : eqp p r := fun k a b => (h k a b).trans (h2 k a b)
theorem ltp_eq {p q r : Int → Int} (h : ltp p q) (e : eqp q r) : ltp p r := by
  obtain ⟨k, h1, h2, h3, h4⟩ := h
  exact ⟨k, h1, h2, by rw [← e k h1 h2]; exact h3, fun j a b => by rw [h4 j a b, e j a (by omega)]⟩
theorem eq_ltp {p q r : Int → Int} (e : eqp p q) (h : ltp q r) : ltp p r := by
  obtain ⟨k, h1, h2, h3, h4⟩ := h
  exact ⟨k, h1, h2, by rw [e k h1 h2]; exact h3, fun j a b => by rw [e j a (by omega), h4 j a b]⟩
/-- how two rows compare, as a number -/
def cmp (p q : Int → Int) (d : Int) : Prop := (d < 0 ↔ ltp p q) ∧ (d = 0 ↔ eqp p q)
theorem cmp_of {p q : Int → Int} {k : Int} (h1 : 0 ≤ k) (h2 : k < 12) (h3 : p k ≠ q k) (h4 : ∀ j, 0 ≤ j → j < k → p j = q j) {d : Int} (hd : (d < 0 ↔ p k < q k) ∧ d ≠ 0) : cmp p q d := by
  refine ⟨⟨fun h => ⟨k, h1, h2, hd.1.mp h, h4⟩, fun h => ?_⟩, ⟨fun h => absurd h hd.2, fun h => absurd (h k h1 h2) h3⟩⟩
  rw [hd.1]
  rcases Int.lt_trichotomy (p k) (q k) with q1 | q1 | q1
  · exact q1
  · exact absurd q1 h3
  · exact absurd h (ltp_asym ⟨k, h1, h2, q1, fun j a b => (h4 j a b).symm⟩)
theorem cmp_eq {p q : Int → Int} (h : eqp p q) : cmp p q 0 := ⟨⟨fun z => by omega, fun z => absurd h (ltp_ne z)⟩, ⟨fun _ => h, fun _ => rfl⟩⟩
theorem s_Rows_order {o N r t : Int} {h : xH} (hR : RO o N h) (hT : TO t h) (h1 : 0 ≤ r) (h2 : r < h o 2) : ∃ d, f_Rows_order o r t h = some d ∧ cmp (rp h o r) (tp h t) d := by
  unfold f_Rows_order f_Rows_order_2
  have key := xloop_W (step := fun s : Int => f_Rows_order_s2 o r t s h) (I := fun k => 0 ≤ k ∧ k ≤ 12 ∧ ∀ j, 0 ≤ j → j < k → rp h o r j = tp h t j) (fun k => (12 - k).toNat)
    (post := fun b => (b = Sum.inl () ∧ eqp (rp h o r) (tp h t)) ∨ ∃ d, b = Sum.inr d ∧ cmp (rp h o r) (tp h t) d) (s := 0) ?_ ⟨by omega, by omega, fun j a b => by omega⟩
  · obtain ⟨b, e, hb⟩ := key
    rw [e]
    rcases hb with ⟨rfl, hb⟩ | ⟨d, rfl, hb⟩
    · exact ⟨0, rfl, cmp_eq hb⟩
    · exact ⟨d, rfl, hb⟩
  · intro k ⟨k0, k1, k2⟩
    have b1 := RO_b hR h1 h2 (k := k)
    have b2 := TO_b hT (k := k)
    dsimp only [f_Rows_order_s2]
    by_cases hk : k < 12
    · rw [if_pos hk, s_Rows_at' hR k0 h1 h2, s_Row_at' hT k0]
      by_cases e : rp h o r k = tp h t k
      · left
        refine ⟨k + 1, ?_, ⟨by omega, by omega, fun j a b => ?_⟩, by omega⟩
        · simp (disch := omega) only [↓if_pos, ↓if_neg, ↓xgd_pos, ↓xgb_pos, ↓xgc_pos, ↓xlet_eq, xc1_some, xc2_some, w32_id, xup_same, xup_row, xup_ne_j, xsw_l, xsw_r]
        · by_cases hj : j = k
          · rw [hj]; exact e
          · exact k2 j a (by omega)
      · right
        refine ⟨Sum.inr (rp h o r k - tp h t k), ?_, Or.inr ⟨_, rfl, cmp_of k0 hk e k2 ⟨by omega, by omega⟩⟩⟩
        simp (disch := omega) only [↓if_pos, ↓if_neg, ↓xgd_pos, ↓xgb_pos, ↓xgc_pos, ↓xlet_eq, xc1_some, xc2_some, w32_id, xup_same, xup_row, xup_ne_j, xsw_l, xsw_r]
    · right
      exact ⟨Sum.inl (), by rw [if_neg hk], Or.inl ⟨rfl, fun j a b => k2 j a (by omega)⟩⟩
theorem RO_congr {o N : Int} {h h' : xH} (e0 : h' o = h o) (e1 : h' (o + 1) = h (o + 1)) (e2 : h' (o + 2) = h (o + 2)) (hR : RO o N h) : RO o N h' := by
  unfold RO
  rw [e0, e1, e2]
  exact hR
theorem rp_congr {o r : Int} {h h' : xH} (e1 : h' (o + 1) = h (o + 1)) (e2 : h' (o + 2) = h (o + 2)) : rp h' o r = rp h o r := by
  unfold rp
  rw [e1, e2]
theorem TO_hRow {t n : Int} {f : Int → Int} {h : xH} (h1 : 1 ≤ n) (h2 : n ≤ 12) (hf : ∀ k, 0 ≤ k → k < n → 0 ≤ f k ∧ f k ≤ 25) : TO t (hRow t n f h) := by
  unfold TO
  rw [hRow_size]
  exact ⟨h1, h2, fun k a b => by rw [hRow_let a b]; exact hf k a b⟩
theorem tp_hRow {t n : Int} {f : Int → Int} {h : xH} : tp (hRow t n f h) t = pad n f := by
  funext k
  unfold tp pad
  rw [hRow_size]
  split
  · next q => exact hRow_let q.1 q.2
  · rfl
/-- another row than these three -/
def apart (t o : Int) : Prop := t ≠ o ∧ t ≠ o + 1 ∧ t ≠ o + 2 ∧ t + 1 ≠ o ∧ t + 1 ≠ o + 1 ∧ t + 1 ≠ o + 2
theorem s_Rows_copyTo {o N r t : Int} {h : xH} (hR : RO o N h) (h1 : 0 ≤ r) (h2 : r < h o 2) (ha : apart t o) : f_Rows_copyTo o r t h = some (hRow t (h (o + 2) r) (fun k => h (o + 1) (r * 12 + k)) h) := by
  obtain ⟨a1, a2, a3, a4, a5, a6⟩ := ha
  have hb := hR.2.2.2.2.2 r h1 h2
  have fr : ∀ n : Int, ∀ f : Int → Int, RO o N (hRow t n f h) := fun n f => RO_congr (hRow_row (by omega) (by omega)) (hRow_row (by omega) (by omega)) (hRow_row (by omega) (by omega)) hR
  have hs := xloop_S (step := fun s : Int × xH => f_Rows_copyTo_s6 o r t s.1 s.2) (fun k => ((k : Int), hRow t k (fun k => h (o + 1) (r * 12 + k)) h)) (h (o + 2) r).toNat (hRow t (h (o + 2) r) (fun k => h (o + 1) (r * 12 + k)) h) ?_ ?_
  · unfold f_Rows_copyTo f_Rows_copyTo_6
    rw [s_Row_clear, xc1_some, ← hRow_0 (f := fun k => h (o + 1) (r * 12 + k))]
    have e : xloop (fun s : Int × xH => f_Rows_copyTo_s6 o r t s.1 s.2) (0, hRow t 0 (fun k => h (o + 1) (r * 12 + k)) h) = _ := hs
    rw [e]
    rfl
  · intro k hk
    dsimp only [f_Rows_copyTo_s6]
    have e3 : hRow t (k : Int) (fun k => h (o + 1) (r * 12 + k)) h o = h o := hRow_row (by omega) (by omega)
    have e4 : hRow t (k : Int) (fun k => h (o + 1) (r * 12 + k)) h (o + 2) = h (o + 2) := hRow_row (by omega) (by omega)
    have e5 : hRow t (k : Int) (fun k => h (o + 1) (r * 12 + k)) h (o + 1) = h (o + 1) := hRow_row (by omega) (by omega)
    have e6 : rp h o r (k : Int) = (fun k : Int => h (o + 1) (r * 12 + k)) (k : Int) := by
      unfold rp
      rw [pad_in (by omega) (by omega)]
    rw [s_Rows_sizeOf' (fr _ _) h1 (by rw [e3]; exact h2), e4, xc1_some, if_pos (by omega), s_Rows_at' (fr _ _) (by omega) h1 (by rw [e3]; exact h2), xc1_some, rp_congr e5 e4, e6, s_Row_append_hRow (f := fun k => h (o + 1) (r * 12 + k)) (k := (k : Int)) (by omega) (by omega), xc2_some, xlet_eq, w32_id (by omega) (by omega)]
    congr 3
  · dsimp only [f_Rows_copyTo_s6]
    have e7 : (((h (o + 2) r).toNat : Nat) : Int) = h (o + 2) r := by omega
    rw [e7]
    have e3 : hRow t (h (o + 2) r) (fun k => h (o + 1) (r * 12 + k)) h o = h o := hRow_row (by omega) (by omega)
    have e4 : hRow t (h (o + 2) r) (fun k => h (o + 1) (r * 12 + k)) h (o + 2) = h (o + 2) := hRow_row (by omega) (by omega)
    rw [s_Rows_sizeOf' (fr _ _) h1 (by rw [e3]; exact h2), e4, xc1_some, if_neg (by omega)]
/-- how many first letters are alike -/
def shr (p q : Int → Int) (n k : Int) : Prop := 0 ≤ k ∧ k ≤ n ∧ (∀ j, 0 ≤ j → j < k → p j = q j) ∧ (k = n ∨ p k ≠ q k)
theorem s_Rows_shared {o N r : Int} {h : xH} (hR : RO o N h) (h1 : 1 ≤ r) (h2 : r < h o 2) : ∃ k, f_Rows_shared o r h = some k ∧ shr (rp h o r) (rp h o (r - 1)) (h (o + 2) r) k := by
  have hb := hR.2.2.2.2.2 r (by omega) h2
  have hN := hR.2.2.1
  have hN2 := hR.2.2.2.2.1
  unfold f_Rows_shared f_Rows_shared_9
  rw [if_neg (by omega)]
  have key := xloop_W (step := fun s : Int => f_Rows_shared_s9 o r s h) (I := fun k => 0 ≤ k ∧ k ≤ h (o + 2) r ∧ ∀ j, 0 ≤ j → j < k → rp h o r j = rp h o (r - 1) j) (fun k => (12 - k).toNat)
    (post := fun k => shr (rp h o r) (rp h o (r - 1)) (h (o + 2) r) k) (s := 0) ?_ ⟨by omega, by omega, fun j a b => by omega⟩
  · obtain ⟨b, e, hb⟩ := key
    rw [e]
    exact ⟨b, rfl, hb⟩
  · intro k ⟨k0, k1, k2⟩
    dsimp only [f_Rows_shared_s9]
    rw [s_Rows_sizeOf' hR (by omega) h2, xc1_some]
    by_cases hk : k < h (o + 2) r
    · rw [if_pos hk, s_Rows_at' hR k0 (by omega) h2, xc1_some, w32_id (by omega) (by omega), s_Rows_at' hR k0 (by omega) (by omega), xc1_some]
      by_cases e : rp h o r k = rp h o (r - 1) k
      · left
        refine ⟨k + 1, by simp (disch := omega) only [↓if_pos, ↓if_neg, ↓xgd_pos, ↓xgb_pos, ↓xgc_pos, ↓xlet_eq, xc1_some, xc2_some, w32_id, xup_same, xup_row, xup_ne_j, xsw_l, xsw_r], ⟨by omega, by omega, fun j a b => ?_⟩, by omega⟩
        by_cases hj : j = k
        · rw [hj]; exact e
        · exact k2 j a (by omega)
      · right
        exact ⟨k, by rw [if_neg e], k0, k1, k2, Or.inr e⟩
    · right
      exact ⟨k, by rw [if_neg hk], k0, k1, k2, Or.inl (by omega)⟩
/-- a row stands in another one from a place on -/
def stIn (h : xH) (o r t p : Int) : Prop := 0 ≤ p ∧ p + h (o + 2) r ≤ h t 1 ∧ ∀ k, 0 ≤ k → k < h (o + 2) r → h (o + 1) (r * 12 + k) = h (t + 1) (p + k)
theorem s_Rows_standsIn {o N r t p : Int} {h : xH} (hR : RO o N h) (h1 : 0 ≤ r) (h2 : r < h o 2) (ht : h t 1 ≤ 12) (hp : p ≤ 12) : ∃ b, f_Rows_standsIn o r t p h = some b ∧ (b = 1 ∧ stIn h o r t p ∨ b = 0 ∧ ¬ stIn h o r t p) := by
  obtain ⟨e1, e2, e3, e4, e5, e6⟩ := hR
  have hb := e6 r h1 h2
  unfold f_Rows_standsIn
  by_cases q1 : p < 0
  · refine ⟨0, by simp (disch := omega) only [↓if_pos, ↓if_neg, ↓xgd_pos, ↓xgb_pos, ↓xgc_pos, ↓xlet_eq, xc1_some, xc2_some, w32_id, xup_same, xup_row, xup_ne_j, xsw_l, xsw_r], Or.inr ⟨rfl, fun z => by have := z.1; omega⟩⟩
  · by_cases q2 : h t 1 < p + h (o + 2) r
    · refine ⟨0, by simp (disch := omega) only [↓if_pos, ↓if_neg, ↓xgd_pos, ↓xgb_pos, ↓xgc_pos, ↓xlet_eq, xc1_some, xc2_some, w32_id, xup_same, xup_row, xup_ne_j, xsw_l, xsw_r], Or.inr ⟨rfl, fun z => by have := z.2.1; omega⟩⟩
    · have key := xloop_W (step := fun s : Int => f_Rows_standsIn_s45 o r t p s h) (I := fun k => 0 ≤ k ∧ k ≤ h (o + 2) r ∧ ∀ j, 0 ≤ j → j < k → h (o + 1) (r * 12 + j) = h (t + 1) (p + j)) (fun k => (12 - k).toNat)
        (post := fun b => b = Sum.inl () ∧ stIn h o r t p ∨ b = Sum.inr 0 ∧ ¬ stIn h o r t p) (s := 0) ?_ ⟨by omega, by omega, fun j a b => by omega⟩
      · obtain ⟨b, e, hb⟩ := key
        unfold f_Rows_standsIn_45
        rcases hb with ⟨rfl, hb⟩ | ⟨rfl, hb⟩
        · refine ⟨1, ?_, Or.inl ⟨rfl, hb⟩⟩
          simp (disch := omega) only [e, ↓if_pos, ↓if_neg, ↓xgd_pos, ↓xgb_pos, ↓xgc_pos, ↓xlet_eq, xc1_some, xc2_some, w32_id, xup_same, xup_row, xup_ne_j, xsw_l, xsw_r]
          rfl
        · refine ⟨0, ?_, Or.inr ⟨rfl, hb⟩⟩
          simp (disch := omega) only [e, ↓if_pos, ↓if_neg, ↓xgd_pos, ↓xgb_pos, ↓xgc_pos, ↓xlet_eq, xc1_some, xc2_some, w32_id, xup_same, xup_row, xup_ne_j, xsw_l, xsw_r]
      · intro k ⟨k0, k1, k2⟩
        dsimp only [f_Rows_standsIn_s45]
        by_cases hk : k < h (o + 2) r
        · by_cases e : h (o + 1) (r * 12 + k) = h (t + 1) (p + k)
          · left
            refine ⟨k + 1, by simp (disch := omega) only [↓if_pos, ↓if_neg, ↓xgd_pos, ↓xgb_pos, ↓xgc_pos, ↓xlet_eq, xc1_some, xc2_some, w32_id, xup_same, xup_row, xup_ne_j, xsw_l, xsw_r], ⟨by omega, by omega, fun j a b => ?_⟩, by omega⟩
            by_cases hj : j = k
            · rw [hj]; exact e
            · exact k2 j a (by omega)
          · right
            exact ⟨Sum.inr 0, by simp (disch := omega) only [↓if_pos, ↓if_neg, ↓xgd_pos, ↓xgb_pos, ↓xgc_pos, ↓xlet_eq, xc1_some, xc2_some, w32_id, xup_same, xup_row, xup_ne_j, xsw_l, xsw_r], Or.inr ⟨rfl, fun z => e (z.2.2 k k0 hk)⟩⟩
        · right
          refine ⟨Sum.inl (), by simp (disch := omega) only [↓if_pos, ↓if_neg, ↓xgd_pos, ↓xgb_pos, ↓xgc_pos, ↓xlet_eq, xc1_some, xc2_some, w32_id, xup_same, xup_row, xup_ne_j, xsw_l, xsw_r], Or.inl ⟨rfl, by omega, by omega, fun j a b => k2 j a (by omega)⟩⟩
theorem s_Rows_insert {o N r t : Int} {h : xH} (hR : RO o N h) (h1 : 0 ≤ r) (h2 : r ≤ h o 2) (h3 : h o 2 < N) (ha : apart t o) : ∃ h', f_Rows_insert o r t h = some h' ∧ (∀ o', o' ≠ o → o' ≠ o + 1 → o' ≠ o + 2 → h' o' = h o') ∧ h' o 2 = h o 2 + 1 ∧ (∀ j, j ≠ 2 → h' o j = h o j) ∧
    (∀ j, 0 ≤ j → j < r → h' (o + 2) j = h (o + 2) j) ∧ h' (o + 2) r = h t 1 ∧ (∀ j, r < j → j ≤ h o 2 → h' (o + 2) j = h (o + 2) (j - 1)) ∧
    (∀ c, 0 ≤ c → c < r * 12 → h' (o + 1) c = h (o + 1) c) ∧ (∀ c, 0 ≤ c → c < 12 → h' (o + 1) (r * 12 + c) = h (t + 1) c) ∧ (∀ c, r * 12 + 12 ≤ c → c < h o 2 * 12 + 12 → h' (o + 1) c = h (o + 1) (c - 12)) := by
  obtain ⟨e1, e2, e3, e4, e5, e6⟩ := hR
  obtain ⟨a1, a2, a3, a4, a5, a6⟩ := ha
  have hf : f_Rows_isFull o h = some 0 := by simp (disch := omega) only [f_Rows_isFull, ↓if_pos, ↓if_neg, ↓xgd_pos, ↓xgb_pos, ↓xgc_pos, ↓xlet_eq, xc1_some, xc2_some, w32_id, xup_same, xup_row, xup_ne_j, xsw_l, xsw_r]
  refine ⟨_, by simp (disch := omega) only [f_Rows_insert, hf, xcp_row, ↓if_pos, ↓if_neg, ↓xgd_pos, ↓xgb_pos, ↓xgc_pos, ↓xlet_eq, xc1_some, xc2_some, w32_id, xup_same, xup_row, xup_ne_j, xsw_l, xsw_r]; rfl, ?_⟩
  refine ⟨fun o' b1 b2 b3 => ?_, ?_, fun j hj => ?_, fun j b1 b2 => ?_, ?_, fun j b1 b2 => ?_, fun c b1 b2 => ?_, fun c b1 b2 => ?_, fun c b1 b2 => ?_⟩
  · simp (disch := omega) only [xcp_row, ↓if_pos, ↓if_neg, ↓xgd_pos, ↓xgb_pos, ↓xgc_pos, ↓xlet_eq, xc1_some, xc2_some, w32_id, xup_same, xup_row, xup_ne_j, xsw_l, xsw_r]
  · simp (disch := omega) only [xcp_row, ↓if_pos, ↓if_neg, ↓xgd_pos, ↓xgb_pos, ↓xgc_pos, ↓xlet_eq, xc1_some, xc2_some, w32_id, xup_same, xup_row, xup_ne_j, xsw_l, xsw_r]
  · simp (disch := omega) only [xcp_row, ↓if_pos, ↓if_neg, ↓xgd_pos, ↓xgb_pos, ↓xgc_pos, ↓xlet_eq, xc1_some, xc2_some, w32_id, xup_same, xup_row, xup_ne_j, xsw_l, xsw_r]
  · simp (disch := omega) only [xcp_row, xcp_out, ↓if_pos, ↓if_neg, ↓xgd_pos, ↓xgb_pos, ↓xgc_pos, ↓xlet_eq, xc1_some, xc2_some, w32_id, xup_same, xup_row, xup_ne_j, xsw_l, xsw_r]
  · simp (disch := omega) only [xcp_row, xcp_out, ↓if_pos, ↓if_neg, ↓xgd_pos, ↓xgb_pos, ↓xgc_pos, ↓xlet_eq, xc1_some, xc2_some, w32_id, xup_same, xup_row, xup_ne_j, xsw_l, xsw_r]
  · simp (disch := omega) only [xcp_row, xcp_out, xcp_in, ↓if_pos, ↓if_neg, ↓xgd_pos, ↓xgb_pos, ↓xgc_pos, ↓xlet_eq, xc1_some, xc2_some, w32_id, xup_same, xup_row, xup_ne_j, xsw_l, xsw_r]
    congr 1
    omega
  · simp (disch := omega) only [xcp_row, xcp_out, ↓if_pos, ↓if_neg, ↓xgd_pos, ↓xgb_pos, ↓xgc_pos, ↓xlet_eq, xc1_some, xc2_some, w32_id, xup_same, xup_row, xup_ne_j, xsw_l, xsw_r]
  · simp (disch := omega) only [xcp_row, xcp_in, ↓if_pos, ↓if_neg, ↓xgd_pos, ↓xgb_pos, ↓xgc_pos, ↓xlet_eq, xc1_some, xc2_some, w32_id, xup_same, xup_row, xup_ne_j, xsw_l, xsw_r]
    congr 1
    omega
  · simp (disch := omega) only [xcp_row, xcp_out, xcp_in, ↓if_pos, ↓if_neg, ↓xgd_pos, ↓xgb_pos, ↓xgc_pos, ↓xlet_eq, xc1_some, xc2_some, w32_id, xup_same, xup_row, xup_ne_j, xsw_l, xsw_r]
    congr 1
    omega
theorem s_Rows_append {o N t : Int} {h : xH} : f_Rows_append o t h = f_Rows_insert o (h o 2) t h := by
  unfold f_Rows_append
  cases f_Rows_insert o (h o 2) t h <;> rfl
theorem s_Rows_remove {o N r : Int} {h : xH} (hR : RO o N h) (h1 : 0 ≤ r) (h2 : r < h o 2) : ∃ h', f_Rows_remove o r h = some h' ∧ (∀ o', o' ≠ o → o' ≠ o + 1 → o' ≠ o + 2 → h' o' = h o') ∧ h' o 2 = h o 2 - 1 ∧ (∀ j, j ≠ 2 → h' o j = h o j) ∧
    (∀ j, 0 ≤ j → j < r → h' (o + 2) j = h (o + 2) j) ∧ (∀ j, r ≤ j → j < h o 2 - 1 → h' (o + 2) j = h (o + 2) (j + 1)) ∧
    (∀ c, 0 ≤ c → c < r * 12 → h' (o + 1) c = h (o + 1) c) ∧ (∀ c, r * 12 ≤ c → c < h o 2 * 12 - 12 → h' (o + 1) c = h (o + 1) (c + 12)) := by
  obtain ⟨e1, e2, e3, e4, e5, e6⟩ := hR
  refine ⟨_, by simp (disch := omega) only [f_Rows_remove, xcp_row, ↓if_pos, ↓if_neg, ↓xgd_pos, ↓xgb_pos, ↓xgc_pos, ↓xlet_eq, xc1_some, xc2_some, w32_id, xup_same, xup_row, xup_ne_j, xsw_l, xsw_r]; rfl, ?_⟩
  refine ⟨fun o' b1 b2 b3 => ?_, ?_, fun j hj => ?_, fun j b1 b2 => ?_, fun j b1 b2 => ?_, fun c b1 b2 => ?_, fun c b1 b2 => ?_⟩
  · simp (disch := omega) only [xcp_row, ↓if_pos, ↓if_neg, ↓xgd_pos, ↓xgb_pos, ↓xgc_pos, ↓xlet_eq, xc1_some, xc2_some, w32_id, xup_same, xup_row, xup_ne_j, xsw_l, xsw_r]
  · simp (disch := omega) only [xcp_row, ↓if_pos, ↓if_neg, ↓xgd_pos, ↓xgb_pos, ↓xgc_pos, ↓xlet_eq, xc1_some, xc2_some, w32_id, xup_same, xup_row, xup_ne_j, xsw_l, xsw_r]
  · simp (disch := omega) only [xcp_row, ↓if_pos, ↓if_neg, ↓xgd_pos, ↓xgb_pos, ↓xgc_pos, ↓xlet_eq, xc1_some, xc2_some, w32_id, xup_same, xup_row, xup_ne_j, xsw_l, xsw_r]
  · simp (disch := omega) only [xcp_row, xcp_out, ↓if_pos, ↓if_neg, ↓xgd_pos, ↓xgb_pos, ↓xgc_pos, ↓xlet_eq, xc1_some, xc2_some, w32_id, xup_same, xup_row, xup_ne_j, xsw_l, xsw_r]
  · simp (disch := omega) only [xcp_row, xcp_in, ↓if_pos, ↓if_neg, ↓xgd_pos, ↓xgb_pos, ↓xgc_pos, ↓xlet_eq, xc1_some, xc2_some, w32_id, xup_same, xup_row, xup_ne_j, xsw_l, xsw_r]
    congr 1
    omega
  · simp (disch := omega) only [xcp_row, xcp_out, ↓if_pos, ↓if_neg, ↓xgd_pos, ↓xgb_pos, ↓xgc_pos, ↓xlet_eq, xc1_some, xc2_some, w32_id, xup_same, xup_row, xup_ne_j, xsw_l, xsw_r]
  · simp (disch := omega) only [xcp_row, xcp_in, ↓if_pos, ↓if_neg, ↓xgd_pos, ↓xgb_pos, ↓xgc_pos, ↓xlet_eq, xc1_some, xc2_some, w32_id, xup_same, xup_row, xup_ne_j, xsw_l, xsw_r]
    congr 1
    omega
