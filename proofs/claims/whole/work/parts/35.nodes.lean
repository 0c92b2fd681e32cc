/-! HOW MUCH A WORD HAS in common with the one before it; COUNT -/
theorem shr_uniq {p q : Int → Int} {n a b : Int} (h1 : shr p q n a) (h2 : shr p q n b) : a = b := by
  obtain ⟨a1, a2, a3, a4⟩ := h1
  obtain ⟨b1, b2, b3, b4⟩ := h2
  rcases Int.lt_trichotomy a b with c | c | c
  · have := b3 a a1 c
    rcases a4 with z | z
    · omega
    · exact absurd this z
  · exact c
  · have := a3 b b1 c
    rcases b4 with z | z
    · omega
    · exact absurd this z
noncomputable def shv (p q : Int → Int) (n : Int) : Int := @dite _ (∃ k, shr p q n k) (Classical.propDecidable _) (fun h => h.choose) (fun _ => 0)
theorem shv_of {p q : Int → Int} {n k : Int} (h : shr p q n k) : shv p q n = k := by
  unfold shv
  split
  · next z => exact shr_uniq z.choose_spec h
  · next z => exact absurd ⟨k, h⟩ z
noncomputable def shW (h : xH) (w : Int) : Int := if w = 0 then -1 else shv (rp h 5 w) (rp h 5 (w - 1)) (h 7 w)
theorem s_shared {h : xH} (W : Wd0 h) {w : Int} (h1 : 0 ≤ w) (h2 : w < h 5 2) : f_Rows_shared 5 w h = some (shW h w) := by
  unfold shW
  by_cases q : w = 0
  · rw [if_pos q]
    unfold f_Rows_shared
    rw [if_pos (by omega)]
  · rw [if_neg q]
    obtain ⟨k, e, hs⟩ := s_Rows_shared W.1 (by omega) h2
    rw [e, show shv (rp h 5 w) (rp h 5 (w - 1)) (h 7 w) = k from shv_of hs]
theorem shW_shr {h : xH} (W : Wd0 h) {w : Int} (h1 : 1 ≤ w) (h2 : w < h 5 2) : shr (rp h 5 w) (rp h 5 (w - 1)) (h 7 w) (shW h w) := by
  obtain ⟨k, e, hs⟩ := s_Rows_shared W.1 h1 h2
  have e2 := s_shared W (by omega) h2
  rw [e] at e2
  cases e2
  exact hs
theorem shW_lt {h : xH} (W : Wd0 h) {w : Int} (h1 : 0 ≤ w) (h2 : w < h 5 2) : -1 ≤ shW h w ∧ shW h w < h 7 w ∧ (1 ≤ w → 0 ≤ shW h w) := by
  have hl := Wd_len W h1 h2
  by_cases q : w = 0
  · unfold shW
    rw [if_pos q]
    omega
  · obtain ⟨a1, a2, a3, a4⟩ := shW_shr W (by omega) h2
    have hlt : shW h w < h 7 w := by
      by_cases z : shW h w < h 7 w
      · exact z
      · have he : shW h w = h 7 w := by omega
        obtain ⟨k, k1, k2, k3, k4⟩ := W.2.2.2 (w - 1) w (by omega) (by omega) h2
        exfalso
        by_cases y : k < h 7 w
        · have := a3 k k1 (by omega)
          omega
        · have e1 : rp h 5 w k = -1 := pad_out (by show h 7 w ≤ k; omega)
          have e2 := (RO_b W.1 (show 0 ≤ w - 1 by omega) (by omega) (k := k)).1
          omega
    omega
theorem s_alike {h : xH} (W : Wd0 h) {w : Int} (h1 : 1 ≤ w) (h2 : w < h 5 2) : f_Md_alike (w - 1) h = some (shW h w) := by
  have hN := Wd_n W
  obtain ⟨l1, l2, l3⟩ := Wd_len W (show 0 ≤ w by omega) h2
  obtain ⟨m1, m2, m3⟩ := Wd_len W (show 0 ≤ w - 1 by omega) (by omega)
  obtain ⟨c1, c2⟩ := W.2.2.1 w (by omega) h2
  obtain ⟨d1, d2⟩ := W.2.2.1 (w - 1) (by omega) (by omega)
  unfold f_Md_alike f_Md_alike_2
  have key := xloop_W (step := fun s : Int => f_Md_alike_s2 (w - 1) s h) (I := fun i => 0 ≤ i ∧ i ≤ h 7 w ∧ i ≤ h 7 (w - 1) ∧ ∀ j, 0 ≤ j → j < i → rp h 5 w j = rp h 5 (w - 1) j) (fun i => (12 - i).toNat) (post := fun k => shr (rp h 5 w) (rp h 5 (w - 1)) (h 7 w) k) (s := 0) ?_ ⟨by omega, by omega, by omega, fun j a b => by omega⟩
  · obtain ⟨b, e, hb⟩ := key
    rw [e]
    have := shr_uniq hb (shW_shr W h1 h2)
    subst this
    rfl
  · intro i ⟨i1, i2, i3, i4⟩
    dsimp only [f_Md_alike_s2]
    have e1 : w - 1 + 1 = w := by omega
    by_cases q1 : i < h 7 (w - 1)
    · by_cases q2 : i < h 7 w
      · have p1 : rp h 5 w i = h 6 (w * 12 + i) := pad_in i1 q2
        have p2 : rp h 5 (w - 1) i = h 6 ((w - 1) * 12 + i) := pad_in i1 q1
        have x1 := c2 i i1 q2
        have x2 := d2 i i1 q1
        by_cases q3 : h 6 (w * 12 + i) = h 6 ((w - 1) * 12 + i)
        · left
          refine ⟨i + 1, by simp (disch := omega) only [d1, c1, e1, x1, x2, ↓if_pos, ↓if_neg, ↓xgd_pos, ↓xgb_pos, ↓xgc_pos, ↓xlet_eq, xc1_some, xc2_some, w32_id, xup_same, xup_row, xup_ne_j, xsw_l, xsw_r], ⟨by omega, by omega, by omega, fun j a b => ?_⟩, by omega⟩
          by_cases hj : j = i
          · rw [hj, p1, p2, q3]
          · exact i4 j a (by omega)
        · right
          refine ⟨i, ?_, i1, by omega, i4, Or.inr (by rw [p1, p2]; exact q3)⟩
          simp (disch := omega) only [d1, c1, e1, x1, x2, ↓if_pos, ↓if_neg, ↓xgd_pos, ↓xgb_pos, ↓xgc_pos, ↓xlet_eq, xc1_some, xc2_some, w32_id, xup_same, xup_row, xup_ne_j, xsw_l, xsw_r]
      · right
        exact ⟨i, by simp (disch := omega) only [d1, c1, e1, ↓if_pos, ↓if_neg, ↓xgd_pos, ↓xgb_pos, ↓xgc_pos, ↓xlet_eq, xc1_some, xc2_some, w32_id, xup_same, xup_row, xup_ne_j, xsw_l, xsw_r], i1, by omega, i4, Or.inl (by omega)⟩
    · right
      refine ⟨i, by simp (disch := omega) only [d1, ↓if_pos, ↓if_neg, ↓xgd_pos, ↓xgb_pos, ↓xgc_pos, ↓xlet_eq, xc1_some, xc2_some, w32_id, xup_same, xup_row, xup_ne_j, xsw_l, xsw_r], i1, by omega, i4, ?_⟩
      by_cases q2 : i < h 7 w
      · right
        have p1 : rp h 5 w i = h 6 (w * 12 + i) := pad_in i1 q2
        have p2 : rp h 5 (w - 1) i = -1 := pad_out (by show h 7 (w - 1) ≤ i; omega)
        have := l3 i i1 q2
        rw [p1, p2]
        omega
      · left; omega
theorem op_count (k : Int) : Op1 (f_WM_count k) (f_Md_count k) := by
  intro h hI
  unfold f_WM_count f_Md_count
  by_cases k0 : k = 0
  · exact ⟨h 5 2, by simp (disch := omega) only [↓if_pos, ↓if_neg, ↓xgd_pos, ↓xgb_pos, ↓xgc_pos, ↓xlet_eq, xc1_some, xc2_some, w32_id, xup_same, xup_row, xup_ne_j, xsw_l, xsw_r], by have := hI.2.1.1.2.1; simp (disch := omega) only [this, ↓if_pos, ↓if_neg, ↓xgd_pos, ↓xgb_pos, ↓xgc_pos, ↓xlet_eq, xc1_some, xc2_some, w32_id, xup_same, xup_row, xup_ne_j, xsw_l, xsw_r]⟩
  · by_cases k1 : k = 1
    · have W := hI.2.1.1
      have hN := Wd_n W
      obtain ⟨S, S0, S1⟩ : ∃ S : Nat → Int, S 0 = 0 ∧ ∀ k : Nat, S (k + 1) = S k + (h 7 k - shW h k) := ⟨fun m => Nat.rec 0 (fun k s => s + (h 7 (k : Int) - shW h (k : Int))) m, rfl, fun _ => rfl⟩
      have hS : ∀ m : Nat, (m : Int) ≤ h 5 2 → 0 ≤ S m ∧ S m ≤ 13 * m := by
        intro m
        induction m with
        | zero => intro _; rw [S0]; omega
        | succ m ih =>
          intro hm
          have := ih (by omega)
          have h1 := shW_lt W (w := (m : Int)) (by omega) (by omega)
          have h2 := Wd_len W (w := (m : Int)) (by omega) (by omega)
          rw [S1]
          omega
      have e1 : f_Lex_nodes h = some (S (h 5 2).toNat) := by
        unfold f_Lex_nodes f_Lex_nodes_4
        have := xloop_T (step := fun s : Int × Int => f_Lex_nodes_s4 s.1 s.2 h) (fun k => (S k, (k : Int))) (h 5 2).toNat (s0 := (0, 0)) (b := S (h 5 2).toNat) (by rw [S0]; rfl) (fun m hm => by
          dsimp only [f_Lex_nodes_s4]
          have b1 := hS m (by omega)
          have h1 := shW_lt W (w := (m : Int)) (by omega) (by omega)
          have h2 := Wd_len W (w := (m : Int)) (by omega) (by omega)
          have h3 : f_Rows_sizeOf 5 (m : Int) h = some (h 7 m) := s_Rows_sizeOf' W.1 (by omega) (by omega)
          have h4 := s_shared W (w := (m : Int)) (by omega) (by omega)
          simp (disch := omega) only [h3, h4, ↓if_pos, ↓if_neg, ↓xgd_pos, ↓xgb_pos, ↓xgc_pos, ↓xlet_eq, xc1_some, xc2_some, w32_id, xup_same, xup_row, xup_ne_j, xsw_l, xsw_r]
          rw [S1]
          congr 2) (by
          dsimp only [f_Lex_nodes_s4]
          rw [if_neg (by omega)])
        rw [this]
        rfl
      have e2 : f_Md_nodes h = some (S (h 5 2).toNat) := by
        unfold f_Md_nodes
        rw [W.2.1]
        by_cases q : h 5 2 = 0
        · rw [if_pos q, q]
          show some 0 = some (S 0)
          rw [S0]
        · rw [if_neg q]
          unfold f_Md_nodes_20
          have c0 := (W.2.2.1 0 (by omega) (by omega)).1
          have l0 := Wd_len W (w := 0) (by omega) (by omega)
          have s1 : S 1 = 1 + h 7 0 := by
            have := S1 0
            rw [S0] at this
            have e0 : shW h 0 = -1 := by unfold shW; rw [if_pos rfl]
            have e3 : ((0 : Nat) : Int) = 0 := rfl
            rw [e3, e0] at this
            rw [this]
            omega
          have := xloop_T (step := fun s : Int × Int => f_Md_nodes_s20 s.1 s.2 h) (fun k => (S (k + 1), (k : Int))) ((h 5 2).toNat - 1) (s0 := (1 + h 7 0, 0)) (b := S (h 5 2).toNat) (by rw [s1]; rfl) (fun m hm => by
            dsimp only [f_Md_nodes_s20]
            have b1 := hS (m + 1) (by omega)
            have b2 := hS (m + 1 + 1) (by omega)
            have h1 := shW_lt W (w := (m : Int) + 1) (by omega) (by omega)
            have h2 := Wd_len W (w := (m : Int) + 1) (by omega) (by omega)
            have h3 := (W.2.2.1 ((m : Int) + 1) (by omega) (by omega)).1
            have h4 := s_alike W (w := (m : Int) + 1) (by omega) (by omega)
            rw [show (m : Int) + 1 - 1 = m by omega] at h4
            have h5 := W.2.1
            simp (disch := omega) only [h5, h3, h4, ↓if_pos, ↓if_neg, ↓xgd_pos, ↓xgb_pos, ↓xgc_pos, ↓xlet_eq, xc1_some, xc2_some, w32_id, xup_same, xup_row, xup_ne_j, xsw_l, xsw_r]
            rw [S1 (m + 1)]
            congr 2) (by
            dsimp only [f_Md_nodes_s20]
            have h5 := W.2.1
            rw [w32_id (by omega) (by omega), h5, if_neg (by omega), show (h 5 2).toNat - 1 + 1 = (h 5 2).toNat by omega])
          rw [xgd_pos (by decide) (by decide), c0, w32_id (by omega) (by omega), xlet_eq, this]
          rfl
      exact ⟨S (h 5 2).toNat, by simp (disch := omega) only [e1, ↓if_pos, ↓if_neg, ↓xgd_pos, ↓xgb_pos, ↓xgc_pos, ↓xlet_eq, xc1_some, xc2_some, w32_id, xup_same, xup_row, xup_ne_j, xsw_l, xsw_r], by simp (disch := omega) only [e2, ↓if_pos, ↓if_neg, ↓xgd_pos, ↓xgb_pos, ↓xgc_pos, ↓xlet_eq, xc1_some, xc2_some, w32_id, xup_same, xup_row, xup_ne_j, xsw_l, xsw_r]⟩
    · by_cases k2 : k = 2
      · exact ⟨h 14 2, by simp (disch := omega) only [↓if_pos, ↓if_neg, ↓xgd_pos, ↓xgb_pos, ↓xgc_pos, ↓xlet_eq, xc1_some, xc2_some, w32_id, xup_same, xup_row, xup_ne_j, xsw_l, xsw_r], by have := hI.2.2.2.2.1.2.2.2.1; simp (disch := omega) only [this, ↓if_pos, ↓if_neg, ↓xgd_pos, ↓xgb_pos, ↓xgc_pos, ↓xlet_eq, xc1_some, xc2_some, w32_id, xup_same, xup_row, xup_ne_j, xsw_l, xsw_r]⟩
      · by_cases k3 : k = 3
        · exact ⟨h 40 2, by simp (disch := omega) only [↓if_pos, ↓if_neg, ↓xgd_pos, ↓xgb_pos, ↓xgc_pos, ↓xlet_eq, xc1_some, xc2_some, w32_id, xup_same, xup_row, xup_ne_j, xsw_l, xsw_r], by have := hI.2.2.2.2.2.1.2.2.2.1; simp (disch := omega) only [this, ↓if_pos, ↓if_neg, ↓xgd_pos, ↓xgb_pos, ↓xgc_pos, ↓xlet_eq, xc1_some, xc2_some, w32_id, xup_same, xup_row, xup_ne_j, xsw_l, xsw_r]⟩
        · by_cases k4 : k = 4
          · exact ⟨h 2 1, by simp (disch := omega) only [↓if_pos, ↓if_neg, ↓xgd_pos, ↓xgb_pos, ↓xgc_pos, ↓xlet_eq, xc1_some, xc2_some, w32_id, xup_same, xup_row, xup_ne_j, xsw_l, xsw_r], by have := hI.1.2.2.1; simp (disch := omega) only [this, ↓if_pos, ↓if_neg, ↓xgd_pos, ↓xgb_pos, ↓xgc_pos, ↓xlet_eq, xc1_some, xc2_some, w32_id, xup_same, xup_row, xup_ne_j, xsw_l, xsw_r]⟩
          · by_cases k5 : k = 5
            · exact ⟨h 49 5, by simp (disch := omega) only [↓if_pos, ↓if_neg, ↓xgd_pos, ↓xgb_pos, ↓xgc_pos, ↓xlet_eq, xc1_some, xc2_some, w32_id, xup_same, xup_row, xup_ne_j, xsw_l, xsw_r], by have := hI.2.2.2.2.2.2.2.1.1; simp (disch := omega) only [this, ↓if_pos, ↓if_neg, ↓xgd_pos, ↓xgb_pos, ↓xgc_pos, ↓xlet_eq, xc1_some, xc2_some, w32_id, xup_same, xup_row, xup_ne_j, xsw_l, xsw_r]⟩
            · by_cases k6 : k = 6
              · exact ⟨h 49 6, by simp (disch := omega) only [↓if_pos, ↓if_neg, ↓xgd_pos, ↓xgb_pos, ↓xgc_pos, ↓xlet_eq, xc1_some, xc2_some, w32_id, xup_same, xup_row, xup_ne_j, xsw_l, xsw_r], by have := hI.2.2.2.2.2.2.2.1.2.1; simp (disch := omega) only [this, ↓if_pos, ↓if_neg, ↓xgd_pos, ↓xgb_pos, ↓xgc_pos, ↓xlet_eq, xc1_some, xc2_some, w32_id, xup_same, xup_row, xup_ne_j, xsw_l, xsw_r]⟩
              · by_cases k7 : k = 7
                · exact ⟨h 62 4, by simp (disch := omega) only [↓if_pos, ↓if_neg, ↓xgd_pos, ↓xgb_pos, ↓xgc_pos, ↓xlet_eq, xc1_some, xc2_some, w32_id, xup_same, xup_row, xup_ne_j, xsw_l, xsw_r], by have := hI.2.2.2.2.2.2.2.2.1.1; simp (disch := omega) only [this, ↓if_pos, ↓if_neg, ↓xgd_pos, ↓xgb_pos, ↓xgc_pos, ↓xlet_eq, xc1_some, xc2_some, w32_id, xup_same, xup_row, xup_ne_j, xsw_l, xsw_r]⟩
                · exact ⟨-2, by simp (disch := omega) only [↓if_pos, ↓if_neg, ↓xgd_pos, ↓xgb_pos, ↓xgc_pos, ↓xlet_eq, xc1_some, xc2_some, w32_id, xup_same, xup_row, xup_ne_j, xsw_l, xsw_r], by simp (disch := omega) only [↓if_pos, ↓if_neg, ↓xgd_pos, ↓xgb_pos, ↓xgc_pos, ↓xlet_eq, xc1_some, xc2_some, w32_id, xup_same, xup_row, xup_ne_j, xsw_l, xsw_r]⟩
