/-! SLIPS: the price of a code at two places -/
def TQ (t : Int) (h : xH) : Prop := 0 ≤ h t 1 ∧ h t 1 ≤ 12 ∧ ∀ k, 0 ≤ k → k < h t 1 → 0 ≤ h (t + 1) k ∧ h (t + 1) k ≤ 25
theorem TQ_of {t : Int} {h : xH} (hT : TO t h) : TQ t h := ⟨by have := hT.1; omega, hT.2.1, hT.2.2⟩
def ltr (p : Int → Int) : Prop := ∀ k, -1 ≤ p k ∧ p k ≤ 25
theorem pad_ltr {n : Int} {f : Int → Int} (hf : ∀ k, 0 ≤ k → k < n → 0 ≤ f k ∧ f k ≤ 25) : ltr (pad n f) := by
  intro k
  unfold pad
  split
  · next z => have := hf k z.1 z.2; omega
  · omega
theorem pad_nz {n : Int} {f : Int → Int} {k : Int} (hf : ∀ k, 0 ≤ k → k < n → 0 ≤ f k ∧ f k ≤ 25) : pad n f k = -1 ↔ ¬ (0 ≤ k ∧ k < n) := by
  unfold pad
  split
  · next z => have := hf k z.1 z.2; constructor <;> intro <;> omega
  · next z => exact ⟨fun _ => z, fun _ => rfl⟩
theorem s_Row_atq {t k : Int} {h : xH} (hT : TQ t h) : f_Row_at t k h = some (tp h t k) := by
  rw [s_Row_at]
  have := hT.2.1
  unfold tp pad
  by_cases z : 0 ≤ k ∧ k < h t 1
  · rw [if_pos (by omega), if_pos z]
  · rw [if_neg (by omega), if_neg z]
def stq (h : xH) (o r : Int) (p : Int → Int) (i : Int) : Prop := ∀ k, 0 ≤ k → k < h (o + 2) r → p (i + k) = h (o + 1) (r * 12 + k)
def byL (h : xH) (o k d : Int) : Int := if 0 < h o k then h o k else d
noncomputable def sv (h : xH) (p q : Int → Int) (c i j : Int) : Int := @ite Int (stq h 14 (c - 7) p i ∧ stq h 17 (c - 7) q j) (Classical.propDecidable _) (h 20 (c - 7)) (-1)
theorem sv_pos {h : xH} {p q : Int → Int} {c i j : Int} (z : stq h 14 (c - 7) p i ∧ stq h 17 (c - 7) q j) : sv h p q c i j = h 20 (c - 7) := if_pos z
theorem sv_neg {h : xH} {p q : Int → Int} {c i j : Int} (z : ¬ (stq h 14 (c - 7) p i ∧ stq h 17 (c - 7) q j)) : sv h p q c i j = -1 := if_neg z
noncomputable def sp (h : xH) (p q : Int → Int) (c i j : Int) : Int :=
  if c = 0 then (if p i = -1 then -1 else if p i = q j then 0 else -1) else
  if c = 1 then (if p i = -1 ∨ q j = -1 ∨ p i = q j then -1 else byL h 11 (p i * 26 + q j) (h 10 1)) else
  if c = 2 then (if p i = -1 then -1 else byL h 12 (p i) (h 10 2)) else
  if c = 3 then (if q j = -1 then -1 else byL h 13 (q j) (h 10 3)) else
  if c = 4 then (if p i = -1 ∨ q j = -1 ∨ p i = q j ∨ p (i + 1) ≠ q j ∨ q (j + 1) ≠ p i then -1 else h 10 4) else
  if c = 5 then (if p i = -1 ∨ p i ≠ q j ∨ q (j + 1) ≠ p i then -1 else h 10 5) else
  if c = 6 then (if p i = -1 ∨ p i ≠ q j ∨ p (i + 1) ≠ p i then -1 else h 10 6) else
  sv h p q c i j
theorem stIn_stq {o N r t p : Int} {h : xH} (hR : RO o N h) (h1 : 0 ≤ r) (h2 : r < h o 2) (hT : TQ t h) (hp : 0 ≤ p) : stIn h o r t p ↔ stq h o r (tp h t) p := by
  obtain ⟨z1, z2, z3⟩ := hR.2.2.2.2.2 r h1 h2
  constructor
  · rintro ⟨a1, a2, a3⟩ k k1 k2
    unfold tp
    rw [pad_in (by omega) (by omega), a3 k k1 k2]
  · intro a
    have b := a (h (o + 2) r - 1) (by omega) (by omega)
    have z4 := z3 (h (o + 2) r - 1) (by omega) (by omega)
    have lt : ¬ (tp h t (p + (h (o + 2) r - 1)) = -1) := by omega
    unfold tp at lt
    rw [pad_nz hT.2.2] at lt
    refine ⟨hp, by omega, fun k k1 k2 => ?_⟩
    have c := a k k1 k2
    unfold tp at c
    rw [pad_in (by omega) (by omega)] at c
    exact c.symm
theorem s_byLetters {o k d : Int} {h : xH} (h1 : 0 ≤ k) (h2 : k < (xN o : Int)) : f_Slips_byLetters o k d h = some (byL h o k d) := by
  unfold f_Slips_byLetters f_Slips_byLetters_17 byL
  rw [if_neg (by omega), if_pos h2, xgd_pos h1 h2]
  split <;> rfl
theorem s_priceAt {h : xH} {t u c i j : Int} (hS : So h) (ht : TQ t h) (hu : TQ u h) (c0 : 0 ≤ c) (c1 : c < 7 + h 14 2) (i0 : 0 ≤ i) (i1 : i ≤ 12) (j0 : 0 ≤ j) (j1 : j ≤ 12) : f_Slips_priceAt c t i u j h = some (sp h (tp h t) (tp h u) c i j) := by
  obtain ⟨S1, S2, S3, S4, S5⟩ := hS
  have b20 : h 14 2 ≤ 20 := S1.2.2.2.2.1
  have x := pad_ltr ht.2.2 i
  have y := pad_ltr hu.2.2 j
  change -1 ≤ tp h t i ∧ tp h t i ≤ 25 at x
  change -1 ≤ tp h u j ∧ tp h u j ≤ 25 at y
  unfold f_Slips_priceAt
  rw [s_Row_atq ht, s_Row_atq hu, xc1_some, xc1_some]
  have key : ∀ s0 : Int, (s0 = 0 ∧ (tp h t i = -1 ∨ tp h t i ≠ tp h u j) ∨ s0 = 1 ∧ tp h t i ≠ -1 ∧ tp h t i = tp h u j) → f_Slips_priceAt_34 c t i u j (tp h t i) (tp h u j) s0 h = some (sp h (tp h t) (tp h u) c i j) := by
    intro s0 hs
    unfold f_Slips_priceAt_34 f_Slips_priceAt_108 sp
    by_cases q0 : c = 0
    · rw [if_pos q0, if_pos q0]
      by_cases z : s0 = 0
      · rw [if_pos z]
        by_cases w : tp h t i = -1
        · rw [if_pos w]
        · rw [if_neg w, if_neg (by omega)]
      · rw [if_neg z, if_neg (by omega), if_pos (by omega)]
    rw [if_neg q0, if_neg q0]
    by_cases q1 : c = 1
    · rw [if_pos q1, if_pos q1]
      by_cases z : tp h t i = -1
      · rw [if_pos z, if_pos (by omega)]
      · by_cases w : tp h u j = -1
        · rw [if_neg z, if_pos w, if_pos (by omega)]
        · rw [if_neg z, if_neg w]
          by_cases v : s0 = 0
          · rw [if_pos v, if_neg (by omega), xgd_pos (by omega) (by omega), w32_id (z := tp h t i * 26) (by omega) (by omega), w32_id (by omega) (by omega), s_byLetters (by omega) (by rw [xN11]; omega), xc1_some]
          · rw [if_neg v, if_pos (by omega)]
    rw [if_neg q1, if_neg q1]
    by_cases q2 : c = 2
    · rw [if_pos q2, if_pos q2]
      by_cases z : tp h t i = -1
      · rw [if_pos z, if_pos z]
      · rw [if_neg z, if_neg z, xgd_pos (by omega) (by omega), s_byLetters (by omega) (by rw [xN12]; omega), xc1_some]
    rw [if_neg q2, if_neg q2]
    by_cases q3 : c = 3
    · rw [if_pos q3, if_pos q3]
      by_cases z : tp h u j = -1
      · rw [if_pos z, if_pos z]
      · rw [if_neg z, if_neg z, xgd_pos (by omega) (by omega), s_byLetters (by omega) (by rw [xN13]; omega), xc1_some]
    rw [if_neg q3, if_neg q3]
    by_cases q4 : c = 4
    · rw [if_pos q4, if_pos q4]
      by_cases z : tp h t i = -1
      · rw [if_pos z, if_pos (by omega)]
      · by_cases w : tp h u j = -1
        · rw [if_neg z, if_pos w, if_pos (by omega)]
        · rw [if_neg z, if_neg w]
          by_cases v : s0 = 0
          · rw [if_pos v, w32_id (z := i + 1) (by omega) (by omega), w32_id (z := j + 1) (by omega) (by omega), s_Row_atq ht, s_Row_atq hu, xc1_some, xc1_some]
            by_cases e : tp h t (i + 1) = tp h u j
            · rw [if_pos e]
              by_cases f : tp h u (j + 1) = tp h t i
              · rw [if_pos f, if_neg (by omega), xgd_pos (by omega) (by omega)]
              · rw [if_neg f, if_pos (by omega)]
            · rw [if_neg e, if_pos (by omega)]
          · rw [if_neg v, if_pos (by omega)]
    rw [if_neg q4, if_neg q4]
    by_cases q5 : c = 5
    · rw [if_pos q5, if_pos q5]
      by_cases v : s0 = 0
      · rw [if_pos v, if_pos (by omega)]
      · rw [if_neg v, w32_id (z := j + 1) (by omega) (by omega), s_Row_atq hu, xc1_some]
        by_cases f : tp h u (j + 1) = tp h t i
        · rw [if_pos f, if_neg (by omega), xgd_pos (by omega) (by omega)]
        · rw [if_neg f, if_pos (by omega)]
    rw [if_neg q5, if_neg q5]
    by_cases q6 : c = 6
    · rw [if_pos q6, if_pos q6]
      by_cases v : s0 = 0
      · rw [if_pos v, if_pos (by omega)]
      · rw [if_neg v, w32_id (z := i + 1) (by omega) (by omega), s_Row_atq ht, xc1_some]
        by_cases f : tp h t (i + 1) = tp h t i
        · rw [if_pos f, if_neg (by omega), xgd_pos (by omega) (by omega)]
        · rw [if_neg f, if_pos (by omega)]
    rw [if_neg q6, if_neg q6, w32_id (z := c - 7) (by omega) (by omega)]
    obtain ⟨b1, e1, r1⟩ := s_Rows_standsIn (p := i) S1 (r := c - 7) (by omega) (by omega) ht.2.1 i1
    obtain ⟨b2, e2, r2⟩ := s_Rows_standsIn (p := j) S2 (r := c - 7) (by omega) (by omega) hu.2.1 j1
    rw [stIn_stq S1 (by omega) (by omega) ht i0] at r1
    rw [stIn_stq S2 (by omega) (by omega) hu j0] at r2
    rw [e1, xc1_some]
    rcases r1 with ⟨rfl, r1⟩ | ⟨rfl, r1⟩
    · rw [if_neg (by omega), e2, xc1_some]
      rcases r2 with ⟨rfl, r2⟩ | ⟨rfl, r2⟩
      · rw [if_neg (by omega), sv_pos ⟨r1, r2⟩]
        unfold f_Slips_soundPrice
        rw [if_neg (by omega), if_pos (by omega), xgd_pos (by omega) (by omega), xc1_some]
      · rw [if_pos rfl, sv_neg (fun z => r2 z.2)]
    · rw [if_pos rfl, sv_neg (fun z => r1 z.1)]
  by_cases a : tp h t i = -1
  · rw [if_pos a]
    exact key 0 (by omega)
  · rw [if_neg a]
    by_cases b : tp h t i = tp h u j
    · rw [if_pos b]
      exact key 1 (by omega)
    · rw [if_neg b]
      exact key 0 (by omega)
def tA (h : xH) (c : Int) : Int := if c < 7 then xTb (-1) c else h 16 (c - 7)
def tB (h : xH) (c : Int) : Int := if c < 7 then xTb (-2) c else h 19 (c - 7)
theorem s_meantTaken {h : xH} {c : Int} (hS : So h) (c0 : 0 ≤ c) (c1 : c < 7 + h 14 2) : f_Slips_meantTaken c h = some (tA h c) := by
  have b20 : h 14 2 ≤ 20 := hS.1.2.2.2.2.1
  unfold f_Slips_meantTaken f_Slips_meantTaken_20 tA
  rw [if_neg (by omega)]
  by_cases q : c < 7
  · rw [if_pos q, if_pos q, xgd_pos (by omega) (by omega)]
  · rw [if_neg q, if_neg q, w32_id (by omega) (by omega), s_Rows_sizeOf' hS.1 (by omega) (by omega), xc1_some]
    rfl
theorem s_typedTaken {h : xH} {c : Int} (hS : So h) (c0 : 0 ≤ c) (c1 : c < 7 + h 14 2) : f_Slips_typedTaken c h = some (tB h c) := by
  have b20 : h 14 2 ≤ 20 := hS.1.2.2.2.2.1
  have e := hS.2.2.1
  unfold f_Slips_typedTaken f_Slips_typedTaken_20 tB
  rw [if_neg (by omega)]
  by_cases q : c < 7
  · rw [if_pos q, if_pos q, xgd_pos (by omega) (by omega)]
  · rw [if_neg q, if_neg q, w32_id (by omega) (by omega), s_Rows_sizeOf' hS.2.1 (by omega) (by omega), xc1_some]
    rfl
theorem s_codes {h : xH} (hS : So h) : f_Slips_codes h = some (7 + h 14 2) := by
  have b20 : h 14 2 ≤ 20 := hS.1.2.2.2.2.1
  have b0 : 0 ≤ h 14 2 := hS.1.2.2.2.1
  unfold f_Slips_codes
  rw [w32_id (by omega) (by omega)]
theorem xTb_A : xTb (-1) 0 = 1 ∧ xTb (-1) 1 = 1 ∧ xTb (-1) 2 = 1 ∧ xTb (-1) 3 = 0 ∧ xTb (-1) 4 = 2 ∧ xTb (-1) 5 = 1 ∧ xTb (-1) 6 = 2 := by decide +kernel
theorem xTb_B : xTb (-2) 0 = 1 ∧ xTb (-2) 1 = 1 ∧ xTb (-2) 2 = 0 ∧ xTb (-2) 3 = 1 ∧ xTb (-2) 4 = 2 ∧ xTb (-2) 5 = 2 ∧ xTb (-2) 6 = 1 := by decide +kernel
theorem tA_k {h : xH} : tA h 0 = 1 ∧ tA h 1 = 1 ∧ tA h 2 = 1 ∧ tA h 3 = 0 ∧ tA h 4 = 2 ∧ tA h 5 = 1 ∧ tA h 6 = 2 := xTb_A
theorem tB_k {h : xH} : tB h 0 = 1 ∧ tB h 1 = 1 ∧ tB h 2 = 0 ∧ tB h 3 = 1 ∧ tB h 4 = 2 ∧ tB h 5 = 2 ∧ tB h 6 = 1 := xTb_B
