/-! THE MODEL'S WALK: the least of one depth; what a code takes -/
theorem m_leastOf {h : xH} {d : Int} (b0 : 0 ≤ h 81 23) (b1 : h 81 23 ≤ 12) (d0 : 0 ≤ d) (d1 : d ≤ 12) : f_Md_leastOf d h = some (mnf (fun j => h 116 (13 * d + j)) (h 81 23 + 1).toNat) := by
  unfold f_Md_leastOf f_Md_leastOf_6
  have key := xloop_T (step := fun s : Int × Int => f_Md_leastOf_s6 d s.1 s.2 h) (fun k => (mnf (fun j => h 116 (13 * d + j)) k, (k : Int))) (h 81 23 + 1).toNat (s0 := (1000000, 0)) (b := mnf (fun j => h 116 (13 * d + j)) (h 81 23 + 1).toNat) rfl
    (fun k hk => by
      dsimp only [f_Md_leastOf_s6]
      rw [if_neg (by omega), w32_id (z := 13 * d) (by omega) (by omega), w32_id (z := 13 * d + (k : Int)) (by omega) (by omega), xgd_pos (by omega) (by omega), min_s, xc1_some, xlet_eq, w32_id (by omega) (by omega)]
      rfl)
    (by
      dsimp only [f_Md_leastOf_s6]
      rw [if_pos (by omega)])
  rw [key, xc1_some]
  rfl
theorem m_takes {h : xH} (hS : So h) {d j v c : Int} (c0 : 0 ≤ c) (c1 : c < 7 + h 14 2) : f_Md_stateRow_s34 d j v c h = f_Md_stateRow_152 d j v c (min c 7) (tA h c) (tB h c) h := by
  have b20 : h 14 2 ≤ 20 := hS.1.2.2.2.2.1
  have e16 := hS.2.2.2.1
  obtain ⟨tA0, tA1, tA2, tA3, tA4, tA5, tA6⟩ := tA_k (h := h)
  obtain ⟨tB0, tB1, tB2, tB3, tB4, tB5, tB6⟩ := tB_k (h := h)
  unfold f_Md_stateRow_s34 f_Md_stateRow_98
  rw [e16, w32_id (z := 7 + h 14 2) (by omega) (by omega), if_pos c1, min_s, xc1_some, w32_id (z := c - 7) (by omega) (by omega)]
  unfold f_Md_stateRow_103 f_Md_stateRow_147
  by_cases z : c < 7
  · have : c = 0 ∨ c = 1 ∨ c = 2 ∨ c = 3 ∨ c = 4 ∨ c = 5 ∨ c = 6 := by omega
    rcases this with rfl | rfl | rfl | rfl | rfl | rfl | rfl
    · rw [tA0, tB0, show min (0 : Int) 7 = 0 from by omega]; simp (disch := omega) only [↓if_pos, ↓if_neg]
    · rw [tA1, tB1, show min (1 : Int) 7 = 1 from by omega]; simp (disch := omega) only [↓if_pos, ↓if_neg]
    · rw [tA2, tB2, show min (2 : Int) 7 = 2 from by omega]; simp (disch := omega) only [↓if_pos, ↓if_neg]
    · rw [tA3, tB3, show min (3 : Int) 7 = 3 from by omega]; simp (disch := omega) only [↓if_pos, ↓if_neg]
    · rw [tA4, tB4, show min (4 : Int) 7 = 4 from by omega]; simp (disch := omega) only [↓if_pos, ↓if_neg]
    · rw [tA5, tB5, show min (5 : Int) 7 = 5 from by omega]; simp (disch := omega) only [↓if_pos, ↓if_neg]
    · rw [tA6, tB6, show min (6 : Int) 7 = 6 from by omega]; simp (disch := omega) only [↓if_pos, ↓if_neg]
  · obtain ⟨t1, t2, t3, t4, t5, t6, t7, t8, t9⟩ := hS.2.2.2.2 (c - 7) (by omega) (by omega)
    have eA : tA h c = h 16 (c - 7) := by unfold tA; rw [if_neg z]
    have eB : tB h c = h 19 (c - 7) := by unfold tB; rw [if_neg z]
    rw [eA, eB, ← t3, ← t4, show min c 7 = 7 by omega, if_pos rfl, xgd_pos (by omega) (by omega), w32_id (z := c - 7) (by omega) (by omega), if_pos rfl, xgd_pos (by omega) (by omega)]
