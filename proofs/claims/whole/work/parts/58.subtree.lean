/-! THE MODEL'S WALK: below a node -/
def MNd (h y : xH) (b i w d : Int) : Prop := y 110 i = d ∧ y 111 i = (if d = 0 then -1 else rp h 5 w (d - 1)) ∧ y 112 i = lsG h (pB h) (h 81 23) (rp h 5 w) d ∧ y 113 i = (if d = ct h (pB h) (h 81 23) b w then 1 else 0) ∧ y 114 i = (if d = h 7 w then 1 else 0) ∧ ∀ j, 0 ≤ j → j ≤ h 81 23 → y 115 (13 * i + j) = Gs h (pB h) (rp h 5 w) d j
/-- the nodes met, where word a is next in a node of depth D whose words end before t -/
def MK (h y : xH) (b a t D : Int) : Prop := y 81 39 = bs h (pB h) (h 81 23) b a + (if a < t then max 0 (D - shW h a) else 0) ∧ y 81 40 = lfs h (pB h) (h 81 23) b a ∧ ∀ v d, 0 ≤ v → v < h 5 2 → shW h v < d → d ≤ dpt h (pB h) (h 81 23) b v → (v < a ∨ v = a ∧ a < t ∧ d ≤ D) → MNd h y b (ps h (pB h) (h 81 23) b v d) v d
theorem MNd_cg {h y y' : xH} {b i w d : Int} (e : ∀ o, 110 ≤ o → o ≤ 115 → y' o = y o) (hm : MNd h y b i w d) : MNd h y' b i w d := by
  unfold MNd
  rw [e 110 (by decide) (by decide), e 111 (by decide) (by decide), e 112 (by decide) (by decide), e 113 (by decide) (by decide), e 114 (by decide) (by decide), e 115 (by decide) (by decide)]
  exact hm
theorem MK_cg {h y y' : xH} {b a t D : Int} (e : ∀ o, 110 ≤ o → o ≤ 115 → y' o = y o) (e1 : y' 81 39 = y 81 39) (e2 : y' 81 40 = y 81 40) (hm : MK h y b a t D) : MK h y' b a t D := by
  unfold MK
  rw [e1, e2]
  exact ⟨hm.1, hm.2.1, fun v d v0 v1 v2 v3 v4 => MNd_cg e (hm.2.2 v d v0 v1 v2 v3 v4)⟩
section
variable {h : xH} {q : Int → Int} {m b : Int}
theorem bs_flat {a : Int} (a0 : 0 ≤ a) : ∀ n : Nat, (∀ w, a ≤ w → w < a + n → dpt h q m b w ≤ shW h w) → bs h q m b (a + n) = bs h q m b a
  | 0, _ => by rw [show a + ((0 : Nat) : Int) = a by omega]
  | n + 1, hw => by
    have ih := bs_flat a0 n (fun w w0 w1 => hw w w0 (by omega))
    have := hw (a + n) (by omega) (by omega)
    rw [show a + ((n + 1 : Nat) : Int) = a + n + 1 by omega, bs_s (by omega), ih]
    omega
theorem lfs_flat {a : Int} (a0 : 0 ≤ a) : ∀ n : Nat, (∀ w, a ≤ w → w < a + n → ct h q m b w ≤ shW h w) → lfs h q m b (a + n) = lfs h q m b a
  | 0, _ => by rw [show a + ((0 : Nat) : Int) = a by omega]
  | n + 1, hw => by
    have ih := lfs_flat a0 n (fun w w0 w1 => hw w w0 (by omega))
    have := hw (a + n) (by omega) (by omega)
    rw [show a + ((n + 1 : Nat) : Int) = a + n + 1 by omega, lfs_s (by omega), ih, if_neg (by omega)]
    omega
theorem shW_ge (W : Wd0 h) {w k : Int} (w0 : 1 ≤ w) (w1 : w < h 5 2) (k1 : k ≤ h 7 w) (ha : ∀ x, 0 ≤ x → x < k → rp h 5 (w - 1) x = rp h 5 w x) : k ≤ shW h w := by
  obtain ⟨s1, s2, s3, s4, s5⟩ := shW_agr W w0 w1
  by_cases z : k ≤ shW h w
  · exact z
  · exact absurd (ha _ s1 (by omega)).symm s5
theorem shW_le (W : Wd0 h) {w k : Int} (w0 : 1 ≤ w) (w1 : w < h 5 2) (k0 : 0 ≤ k) (ha : rp h 5 (w - 1) k ≠ rp h 5 w k) : shW h w ≤ k := by
  obtain ⟨s1, s2, s3, s4, s5⟩ := shW_agr W w0 w1
  by_cases z : shW h w ≤ k
  · exact z
  · exact absurd (s4 k k0 (by omega)) ha
/-- a word behind another that begins alike goes further -/
theorem deeper (W : Wd0 h) {v w k : Int} (v0 : 0 ≤ v) (vw : v < w) (w1 : w < h 5 2) (k1 : k ≤ h 7 w) (ha : ∀ x, 0 ≤ x → x < k → rp h 5 w x = rp h 5 v x) : k < h 7 w := by
  by_cases z : k < h 7 w
  · exact z
  · obtain ⟨x, x0, x1, x2, x3⟩ := W.2.2.2 v w v0 vw w1
    have lv := LR_w W v0 (by omega)
    have lw := LR_w W (show 0 ≤ w by omega) w1
    exfalso
    by_cases c : x < k
    · have := ha x x0 c
      omega
    · rw [LR_out lw (k := x) (by omega)] at x2
      by_cases c2 : x < h 7 v
      · have := LR_in lv x0 c2
        omega
      · rw [LR_out lv (by omega)] at x2
        omega
end
theorem MK_new {h y : xH} {b a e D lf : Int} (hP : Pr h) (hS : So h) (W : Wd0 h) (hB : MB h) (a0 : 0 ≤ a) (ae : a < e) (e1 : e ≤ h 5 2) (D0 : 0 ≤ D) (hs : ∀ w, a ≤ w → w < e → D ≤ h 7 w ∧ ∀ x, 0 ≤ x → x < D → rp h 5 w x = rp h 5 a x) (sD : shW h a < D) (cD : D ≤ ct h (pB h) (h 81 23) b a)
    (hl : lf = 1 ∧ lft h (pB h) (h 81 23) b (rp h 5 a) D ∨ lf = 0 ∧ ¬ lft h (pB h) (h 81 23) b (rp h 5 a) D) (k1 : y 81 39 = ps h (pB h) (h 81 23) b a D + 1) (k2 : y 81 40 = lfs h (pB h) (h 81 23) b a + lf) (k3 : ∀ v d, 0 ≤ v → v < h 5 2 → shW h v < d → d ≤ dpt h (pB h) (h 81 23) b v → (v < a ∨ v = a ∧ d ≤ D) → MNd h y b (ps h (pB h) (h 81 23) b v d) v d) :
    MK h y b (if lf = 0 then a else e) e D ∧ (lf = 0 → D < ct h (pB h) (h 81 23) b a) := by
  have lq := LR_B hB
  generalize hm : h 81 23 = m at *
  generalize hqq : pB h = q at *
  have la := LR_w W a0 (show a < h 5 2 by omega)
  have hDa := (hs a (Int.le_refl _) ae).1
  have ps1 : ps h q m b a D = bs h q m b a + (D - shW h a - 1) := rfl
  rcases hl with ⟨rfl, c⟩ | ⟨rfl, c⟩
  · have ec : ct h q m b a = D := by
      refine ct_eq la.2.1 D0 hDa (fun x x0 x1 => ct_not x0 (by omega) (by omega)) c
    have ed : dpt h q m b a = D := by unfold dpt; omega
    have inner : ∀ w, a + 1 ≤ w → w < e → ct h q m b w = D ∧ D ≤ shW h w := fun w w0 w1 => by
      obtain ⟨p1, p2⟩ := hs w (by omega) w1
      refine ⟨?_, shW_ge W (by omega) (by omega) p1 (fun x x0 x1 => by rw [(hs (w - 1) (by omega) (by omega)).2 x x0 x1, p2 x x0 x1])⟩
      have := (ct_agr (b := b) hP hS W lq (v := a) (w := w) (k := D) a0 (by omega) (by omega) (by omega) hDa p1 (fun x x0 x1 => (p2 x x0 x1).symm)).1 (by omega)
      omega
    have b1 := bs_flat (h := h) (q := q) (m := m) (b := b) (a := a + 1) (by omega) (e - (a + 1)).toNat (fun w w0 w1 => by
      have := inner w w0 (by omega)
      unfold dpt
      omega)
    have b2 := lfs_flat (h := h) (q := q) (m := m) (b := b) (a := a + 1) (by omega) (e - (a + 1)).toNat (fun w w0 w1 => by
      have := inner w w0 (by omega)
      omega)
    rw [show a + 1 + (((e - (a + 1)).toNat : Nat) : Int) = e by omega] at b1 b2
    have b3 := bs_s (h := h) (q := q) (m := m) (b := b) a0
    have b4 := lfs_s (h := h) (q := q) (m := m) (b := b) a0
    rw [if_pos (by omega)] at b4
    rw [if_neg (by decide)]
    refine ⟨⟨?_, ?_, fun v d v0 v1 v2 v3 v4 => ?_⟩, fun z => by omega⟩
    · rw [if_neg (by omega), hm, hqq]; omega
    · rw [hm, hqq]; omega
    · rw [hm, hqq] at v3 ⊢
      have v5 : v < e := by omega
      by_cases z : v < a
      · exact k3 v d v0 v1 v2 v3 (Or.inl z)
      · by_cases z1 : v = a
        · exact k3 v d v0 v1 v2 v3 (Or.inr ⟨z1, by rw [z1] at v3; omega⟩)
        · have := inner v (by omega) v5
          exfalso
          unfold dpt at v3
          omega
  · have cl : D < ct h q m b a := by
      by_cases z : ct h q m b a = D
      · exact absurd (z ▸ ct_lft (h := h) (q := q) (m := m) (b := b) (w := a) (by omega) la.2.1) c
      · omega
    rw [if_pos rfl]
    refine ⟨⟨?_, ?_, fun v d v0 v1 v2 v3 v4 => ?_⟩, fun _ => cl⟩
    · rw [if_pos ae, hm, hqq]; omega
    · rw [hm, hqq]; omega
    · rw [hm, hqq] at v3 ⊢
      exact k3 v d v0 v1 v2 v3 (by omega)
