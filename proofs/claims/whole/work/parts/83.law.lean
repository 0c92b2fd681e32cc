/-! THE LAW'S LOOP: every call answers alike -/
theorem xi_le (x : Int32) : x.toInt ≤ 2147483647 := by
  have := Int32.toInt_lt x
  omega
section
variable {L : Nat} {xs : Nat → Int32} {l3 : Int} {h : xH}
theorem l_786 (l0 : 0 ≤ l3) (l1 : l3 ≤ 2560) : f_Law_law_786 L xs l3 h = some (Sum.inl (l3 + 5, h)) := by
  unfold f_Law_law_786
  rw [w32_id (by omega) (by omega), xlet_eq]
theorem l_2 {f g : xH → Option (Int × xH)} (O : Op2 f g) (hI : Inv h) (l0 : 0 ≤ l3) (l1 : l3 ≤ 2560) : ∃ h', xc2 (f h) (fun r h2 => xc2 (g h2) (fun r' h4 => if r = r' then (f_Law_law_786 L xs l3 h4) else (some (Sum.inr (Sum.inr (0, h4)))))) = some (Sum.inl (l3 + 5, h')) ∧ Inv h' := by
  obtain ⟨r, h1, h2, e1, e2, hI'⟩ := O h hI
  exact ⟨h2, by rw [e1, xc2_some, e2, xc2_some, if_pos rfl, l_786 l0 l1], hI'⟩
theorem l_1 {f g : xH → Option Int} (O : Op1 f g) (hI : Inv h) (l0 : 0 ≤ l3) (l1 : l3 ≤ 2560) : ∃ h', xc1 (f h) (fun r => xc1 (g h) (fun r' => if r = r' then (f_Law_law_786 L xs l3 h) else (some (Sum.inr (Sum.inr (0, h)))))) = some (Sum.inl (l3 + 5, h')) ∧ Inv h' := by
  obtain ⟨r, e1, e2⟩ := O h hI
  exact ⟨h, by rw [e1, xc1_some, e2, xc1_some, if_pos rfl, l_786 l0 l1], hI⟩
theorem law_step (hL : L ≤ 2560) (l0 : 0 ≤ l3) (l1 : l3 ≤ (L : Int) - 5) (hI : Inv h) : ∃ h', f_Law_law_s18 L xs l3 h = some (Sum.inl (l3 + 5, h')) ∧ Inv h' := by
  have w1 : w32 (l3 + 1) = l3 + 1 := w32_id (by omega) (by omega)
  have w2 : w32 (l3 + 2) = l3 + 2 := w32_id (by omega) (by omega)
  have w3 : w32 (l3 + 3) = l3 + 3 := w32_id (by omega) (by omega)
  have w4 : w32 (l3 + 4) = l3 + 4 := w32_id (by omega) (by omega)
  have lb : l3 ≤ 2560 := by omega
  unfold f_Law_law_s18
  rw [w32_id (z := (L : Int) - 5) (by omega) (by omega), if_neg (by omega), w1, w2, w3, w4]
  rw [xgd_pos l0 (by omega)]
  generalize xand ((xs (Int.toNat l3)).toInt) 31 = c
  by_cases c0 : c = 0
  · rw [if_pos c0]
    (try simp (disch := omega) only [xgd_pos])
    exact l_2 (op_feed _ _) hI l0 lb
  rw [if_neg c0]
  by_cases c1 : c = 1
  · rw [if_pos c1]
    (try simp (disch := omega) only [xgd_pos])
    exact l_2 (op_add _) hI l0 lb
  rw [if_neg c1]
  by_cases c2 : c = 2
  · rw [if_pos c2]
    (try simp (disch := omega) only [xgd_pos])
    exact l_2 (op_drop) hI l0 lb
  rw [if_neg c2]
  by_cases c3 : c = 3
  · rw [if_pos c3]
    (try simp (disch := omega) only [xgd_pos])
    exact l_2 (op_find) hI l0 lb
  rw [if_neg c3]
  by_cases c4 : c = 4
  · rw [if_pos c4]
    (try simp (disch := omega) only [xgd_pos])
    exact l_1 (op_word _ _ (xi_le _)) hI l0 lb
  rw [if_neg c4]
  by_cases c5 : c = 5
  · rw [if_pos c5]
    (try simp (disch := omega) only [xgd_pos])
    exact l_1 (op_count _) hI l0 lb
  rw [if_neg c5]
  by_cases c6 : c = 6
  · rw [if_pos c6]
    (try simp (disch := omega) only [xgd_pos])
    exact l_2 (op_price _ _ _ _) hI l0 lb
  rw [if_neg c6]
  by_cases c7 : c = 7
  · rw [if_pos c7]
    (try simp (disch := omega) only [xgd_pos])
    exact l_2 (op_sound _) hI l0 lb
  rw [if_neg c7]
  by_cases c8 : c = 8
  · rw [if_pos c8]
    (try simp (disch := omega) only [xgd_pos])
    exact l_2 (op_model _) hI l0 lb
  rw [if_neg c8]
  by_cases c9 : c = 9
  · rw [if_pos c9]
    (try simp (disch := omega) only [xgd_pos])
    exact l_2 (op_distance) hI l0 lb
  rw [if_neg c9]
  by_cases c10 : c = 10
  · rw [if_pos c10]
    (try simp (disch := omega) only [xgd_pos])
    exact l_1 (op_way _ _) hI l0 lb
  rw [if_neg c10]
  by_cases c11 : c = 11
  · rw [if_pos c11]
    (try simp (disch := omega) only [xgd_pos])
    exact l_2 (op_near _) hI l0 lb
  rw [if_neg c11]
  by_cases c12 : c = 12
  · rw [if_pos c12]
    (try simp (disch := omega) only [xgd_pos])
    exact l_2 (op_nearest _) hI l0 lb
  rw [if_neg c12]
  by_cases c13 : c = 13
  · rw [if_pos c13]
    (try simp (disch := omega) only [xgd_pos])
    exact l_2 (op_complete _) hI l0 lb
  rw [if_neg c13]
  by_cases c14 : c = 14
  · rw [if_pos c14]
    (try simp (disch := omega) only [xgd_pos])
    exact l_1 (op_found _ _) hI l0 lb
  rw [if_neg c14]
  by_cases c15 : c = 15
  · rw [if_pos c15]
    (try simp (disch := omega) only [xgd_pos])
    exact l_1 (op_node _ _ (xi_le _)) hI l0 lb
  rw [if_neg c15]
  by_cases c16 : c = 16
  · rw [if_pos c16]
    (try simp (disch := omega) only [xgd_pos])
    exact l_2 (op_pair) hI l0 lb
  rw [if_neg c16]
  by_cases c17 : c = 17
  · rw [if_pos c17]
    (try simp (disch := omega) only [xgd_pos])
    exact l_2 (op_learn) hI l0 lb
  rw [if_neg c17]
  by_cases c18 : c = 18
  · rw [if_pos c18]
    (try simp (disch := omega) only [xgd_pos])
    exact l_2 (op_spread) hI l0 lb
  rw [if_neg c18]
  by_cases c19 : c = 19
  · rw [if_pos c19]
    (try simp (disch := omega) only [xgd_pos])
    exact l_2 (op_mend _) hI l0 lb
  rw [if_neg c19]
  by_cases c20 : c = 20
  · rw [if_pos c20]
    (try simp (disch := omega) only [xgd_pos])
    exact l_1 (op_part _ _) hI l0 lb
  rw [if_neg c20]
  by_cases c21 : c = 21
  · rw [if_pos c21]
    (try simp (disch := omega) only [xgd_pos])
    exact l_2 (op_put _ _ _) hI l0 lb
  rw [if_neg c21]
  by_cases c22 : c = 22
  · rw [if_pos c22]
    (try simp (disch := omega) only [xgd_pos])
    exact l_2 (op_forge _ _ _) hI l0 lb
  rw [if_neg c22]
  by_cases c23 : c = 23
  · rw [if_pos c23]
    (try simp (disch := omega) only [xgd_pos])
    exact l_1 (op_status) hI l0 lb
  rw [if_neg c23]
  exact ⟨h, l_786 l0 lb, hI⟩
end
/-- the law's loop says 1, for every script -/
theorem law_all {L : Nat} {xs : Nat → Int32} {h : xH} (hL : L ≤ 2560) (hI : Inv h) : ∃ h', f_Law_law_16 L xs h = some (1, h') := by
  unfold f_Law_law_16 f_Law_law_18
  obtain ⟨q, e, g, rfl⟩ := xloop_W (step := fun s : Int × xH => f_Law_law_s18 L xs s.1 s.2) (I := fun s => 0 ≤ s.1 ∧ s.1 ≤ 2565 ∧ Inv s.2) (fun s => ((L : Int) + 1 - s.1).toNat) (post := fun q => ∃ g, q = Sum.inl g) (s := (0, h)) (by
    rintro ⟨l3, y⟩ hJ
    dsimp only at hJ ⊢
    obtain ⟨l0, l1, hJ⟩ := hJ
    by_cases z : l3 ≤ (L : Int) - 5
    · left
      obtain ⟨y', s1, s2⟩ := law_step (xs := xs) hL l0 z hJ
      exact ⟨_, s1, ⟨by dsimp only; omega, by dsimp only; omega, s2⟩, by dsimp only; omega⟩
    · right
      refine ⟨Sum.inl y, ?_, y, rfl⟩
      unfold f_Law_law_s18
      rw [w32_id (z := (L : Int) - 5) (by omega) (by omega), if_pos (by omega)]) ⟨Int.le_refl _, by dsimp only; omega, hI⟩
  rw [e, xc1_some, xsw_l]
  exact ⟨g, rfl⟩
