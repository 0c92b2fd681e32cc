/-! FORGE, PART, COUNT -/
theorem Md_ref {v : Int} {h : xH} : f_Md_refused v h = some (-1, xup h 81 82 v) := rfl
theorem Md_don {v : Int} {h : xH} : f_Md_done v h = some (v, xup h 81 82 0) := rfl
theorem op_forge (t k n : Int) : Op2 (f_WM_forge t k n) (f_Md_forge t k n) := by
  refine op2_of (fun _ _ => loc_Md_forge) (fun h hI => ?_)
  obtain ⟨y1, y2⟩ := hI.2.2.2.2.2.2.2.2.2.2
  have fin : ∀ (r v : Int), f_WM_forge t k n h = some (r, xup h 77 3 v) → f_Md_forge t k n h = some (r, xup h 81 82 v) → ∃ r h1 h2, f_WM_forge t k n h = some (r, h1) ∧ (∀ o, 81 ≤ o → h1 o = h o) ∧ f_Md_forge t k n h = some (r, h2) ∧ Inv (mx h1 h2) := by
    intro r v e1 e2
    refine ⟨r, _, _, e1, fun x hx => xup_row (by omega), e2, ?_⟩
    have ho : off [77] [82] h (mx (xup h 77 3 v) (xup h 81 82 v)) := off_mx (off_up (by decide)) off_um
    have hT : Ty (mx (xup h 77 3 v) (xup h 81 82 v)) := by
      unfold Ty
      rw [mx_hi (o := 81) (by decide), mx_lo (o := 77) (by decide), mx_lo (o := 78) (by decide), mx_lo (o := 79) (by decide), mx_lo (o := 80) (by decide), mx_hi (o := 142) (by decide), mx_hi (o := 143) (by decide), mx_hi (o := 144) (by decide), xup_same, xup_same, xup_row (by decide), xup_row (by decide), xup_row (by decide), xup_row (by decide), xup_row (by decide), xup_row (by decide)]
      exact ⟨rfl, y2⟩
    exact inv_mk ho hI
  by_cases qt : 0 ≤ t ∧ t < 8
  · by_cases qn : -100 ≤ n ∧ n ≤ 100
    · by_cases qk : 0 ≤ k ∧ k ≤ 8
      · obtain ⟨c1, c2, c3, c4⟩ := y2 t qt.1 qt.2
        have hw : ∀ x, f_Trays_whyNot t x h = some (if h 78 t = 0 then 10 else if h 78 t = x then 0 else 11) := fun x => by
          unfold f_Trays_whyNot
          by_cases z : h 78 t = 0
          · simp (disch := omega) only [↓if_pos, ↓if_neg, ↓xgd_pos, ↓xgb_pos, ↓xgc_pos, ↓xlet_eq, xc1_some, xc2_some, w32_id, xup_same, xup_row, xup_ne_j, xsw_l, xsw_r]
          · by_cases z2 : h 78 t = x
            · simp (disch := omega) only [↓if_pos, ↓if_neg, ↓xgd_pos, ↓xgb_pos, ↓xgc_pos, ↓xlet_eq, xc1_some, xc2_some, w32_id, xup_same, xup_row, xup_ne_j, xsw_l, xsw_r]
            · simp (disch := omega) only [↓if_pos, ↓if_neg, ↓xgd_pos, ↓xgb_pos, ↓xgc_pos, ↓xlet_eq, xc1_some, xc2_some, w32_id, xup_same, xup_row, xup_ne_j, xsw_l, xsw_r]
        have hm : f_Md_forge t k n h = if 3 < k then (if k = 5 then f_Md_forge_55 t k n (h 78 t) h else f_Md_forge_91 t k n (h 78 t) h) else f_Md_forge_55 t k n (h 78 t) h := by
          unfold f_Md_forge
          rw [in_1 (by omega) (by omega), xc1_some, if_neg (by decide), in_1 (by omega) (by omega), xc1_some, if_neg (by decide), in_1 (by omega) (by omega), xc1_some, if_neg (by decide), xgd_pos (by omega) (by omega), xlet_eq, c1]
        -- what reads a thing of a kind
        have rd : ∀ x, 1 ≤ x → k = x - 1 → x ≤ 4 → ∃ r h1 h2, f_WM_forge t k n h = some (r, h1) ∧ (∀ o, 81 ≤ o → h1 o = h o) ∧ f_Md_forge t k n h = some (r, h2) ∧ Inv (mx h1 h2) := by
          intro x x1 x2 x3
          have ew : f_WM_forge t k n h = xc2 (f_Trays_read t x n h) (fun r1 h2 => some (r1, h2)) := by
            unfold f_WM_forge f_Trays_work
            rcases (show k = 0 ∨ k = 1 ∨ k = 2 ∨ k = 3 by omega) with z | z | z | z
            · rw [show x = 1 by omega]
              simp (disch := omega) only [↓if_pos, ↓if_neg, ↓xgd_pos, ↓xgb_pos, ↓xgc_pos, ↓xlet_eq, xc1_some, xc2_some, w32_id, xup_same, xup_row, xup_ne_j, xsw_l, xsw_r]
              cases f_Trays_read t 1 n h <;> rfl
            · rw [show x = 2 by omega]
              simp (disch := omega) only [↓if_pos, ↓if_neg, ↓xgd_pos, ↓xgb_pos, ↓xgc_pos, ↓xlet_eq, xc1_some, xc2_some, w32_id, xup_same, xup_row, xup_ne_j, xsw_l, xsw_r]
              cases f_Trays_read t 2 n h <;> rfl
            · rw [show x = 3 by omega]
              simp (disch := omega) only [↓if_pos, ↓if_neg, ↓xgd_pos, ↓xgb_pos, ↓xgc_pos, ↓xlet_eq, xc1_some, xc2_some, w32_id, xup_same, xup_row, xup_ne_j, xsw_l, xsw_r]
              cases f_Trays_read t 3 n h <;> rfl
            · rw [show x = 4 by omega]
              simp (disch := omega) only [↓if_pos, ↓if_neg, ↓xgd_pos, ↓xgb_pos, ↓xgc_pos, ↓xlet_eq, xc1_some, xc2_some, w32_id, xup_same, xup_row, xup_ne_j, xsw_l, xsw_r]
              cases f_Trays_read t 4 n h <;> rfl
          rw [if_neg (by omega)] at hm
          unfold f_Md_forge_55 at hm
          rw [show w32 (k + 1) = x by rw [w32_id (by omega) (by omega)]; omega] at hm
          unfold f_Trays_read at ew
          rw [hw x] at ew
          by_cases z0 : h 78 t = 0
          · refine fin (-1) 10 ?_ ?_
            · rw [ew]
              simp (disch := omega) only [f_Trays_refuse, ↓if_pos, ↓if_neg, ↓xgd_pos, ↓xgb_pos, ↓xgc_pos, ↓xlet_eq, xc1_some, xc2_some, w32_id, xup_same, xup_row, xup_ne_j, xsw_l, xsw_r]
            · rw [hm, if_pos z0, Md_ref, xc2_some]
          · rw [if_neg z0, if_neg (by omega)] at hm
            unfold f_Md_forge_81 at hm
            by_cases z1 : h 78 t = x
            · obtain ⟨d1, d2, d3, d4⟩ := c4 z0
              rw [if_pos z1] at hm
              have h91 : f_Md_forge_91 t k n (h 78 t) h = f_Md_forge_140 t n h := by
                unfold f_Md_forge_91
                rcases (show k = 0 ∨ k = 1 ∨ k = 2 ∨ k = 3 by omega) with z | z | z | z <;> simp (disch := omega) only [↓if_pos, ↓if_neg, ↓xgd_pos, ↓xgb_pos, ↓xgc_pos, ↓xlet_eq, xc1_some, xc2_some, w32_id, xup_same, xup_row, xup_ne_j, xsw_l, xsw_r]
              rw [h91] at hm
              unfold f_Md_forge_140 at hm
              rw [xgd_pos (by omega) (by omega), d1, w32_id (by omega) (by omega)] at hm
              have em : min (h 79 t) 26 = h 79 t := by omega
              by_cases z2 : 0 ≤ n ∧ n < h 79 t
              · have dn := d4 n z2.1 z2.2
                rw [in_1 z2.1 (by omega), xc1_some, if_neg (by decide)] at hm
                refine fin (h 80 (t * 26 + n)) 0 ?_ ?_
                · rw [ew]
                  simp (disch := omega) only [em, f_Trays_done, ↓if_pos, ↓if_neg, ↓xgd_pos, ↓xgb_pos, ↓xgc_pos, ↓xlet_eq, xc1_some, xc2_some, w32_id, xup_same, xup_row, xup_ne_j, xsw_l, xsw_r]
                · rw [hm]
                  simp (disch := omega) only [dn, Md_don, ↓if_pos, ↓if_neg, ↓xgd_pos, ↓xgb_pos, ↓xgc_pos, ↓xlet_eq, xc1_some, xc2_some, w32_id, xup_same, xup_row, xup_ne_j, xsw_l, xsw_r]
              · rw [in_0 (by omega), xc1_some, if_pos rfl] at hm
                refine fin (-1) 12 ?_ (by rw [hm, Md_ref, xc2_some])
                rw [ew]
                by_cases z3 : n < 0
                · simp (disch := omega) only [em, f_Trays_read_43, f_Trays_refuse, ↓if_pos, ↓if_neg, ↓xgd_pos, ↓xgb_pos, ↓xgc_pos, ↓xlet_eq, xc1_some, xc2_some, w32_id, xup_same, xup_row, xup_ne_j, xsw_l, xsw_r]
                · simp (disch := omega) only [em, f_Trays_read_43, f_Trays_refuse, ↓if_pos, ↓if_neg, ↓xgd_pos, ↓xgb_pos, ↓xgc_pos, ↓xlet_eq, xc1_some, xc2_some, w32_id, xup_same, xup_row, xup_ne_j, xsw_l, xsw_r]
            · rw [if_neg z1] at hm
              refine fin (-1) 11 ?_ (by rw [hm, Md_ref, xc2_some])
              rw [ew]
              simp (disch := omega) only [f_Trays_refuse, ↓if_pos, ↓if_neg, ↓xgd_pos, ↓xgb_pos, ↓xgc_pos, ↓xlet_eq, xc1_some, xc2_some, w32_id, xup_same, xup_row, xup_ne_j, xsw_l, xsw_r]
        by_cases k3 : k ≤ 3
        · exact rd (k + 1) (by omega) (by omega) (by omega)
        · rw [if_pos (by omega)] at hm
          by_cases k4 : k = 4
          · subst k4
            rw [if_neg (by decide)] at hm
            unfold f_Md_forge_91 at hm
            by_cases z : n < 0
            · exact fin (-1) 13 (by unfold f_WM_forge f_Trays_work; simp (disch := omega) only [f_Trays_refuse, ↓if_pos, ↓if_neg, ↓xgd_pos, ↓xgb_pos, ↓xgc_pos, ↓xlet_eq, xc1_some, xc2_some, w32_id, xup_same, xup_row, xup_ne_j, xsw_l, xsw_r]) (by rw [hm]; simp (disch := omega) only [Md_ref, ↓if_pos, ↓if_neg, ↓xgd_pos, ↓xgb_pos, ↓xgc_pos, ↓xlet_eq, xc1_some, xc2_some, w32_id, xup_same, xup_row, xup_ne_j, xsw_l, xsw_r])
            · exact fin n 0 (by unfold f_WM_forge f_Trays_work; simp (disch := omega) only [f_Trays_done, ↓if_pos, ↓if_neg, ↓xgd_pos, ↓xgb_pos, ↓xgc_pos, ↓xlet_eq, xc1_some, xc2_some, w32_id, xup_same, xup_row, xup_ne_j, xsw_l, xsw_r]) (by rw [hm]; simp (disch := omega) only [Md_don, ↓if_pos, ↓if_neg, ↓xgd_pos, ↓xgb_pos, ↓xgc_pos, ↓xlet_eq, xc1_some, xc2_some, w32_id, xup_same, xup_row, xup_ne_j, xsw_l, xsw_r])
          · by_cases k5 : k = 5
            · subst k5
              rw [if_pos rfl] at hm
              unfold f_Md_forge_55 at hm
              have ew : f_WM_forge t 5 n h = xc2 (f_Trays_copy t n h) (fun r1 h2 => some (r1, h2)) := by
                unfold f_WM_forge f_Trays_work
                simp (disch := omega) only [↓if_pos, ↓if_neg, ↓xgd_pos, ↓xgb_pos, ↓xgc_pos, ↓xlet_eq, xc1_some, xc2_some, w32_id, xup_same, xup_row, xup_ne_j, xsw_l, xsw_r]
                cases f_Trays_copy t n h <;> rfl
              unfold f_Trays_copy at ew
              rw [hw 1] at ew
              by_cases z0 : h 78 t = 0
              · refine fin (-1) 10 ?_ ?_
                · rw [ew]
                  simp (disch := omega) only [f_Trays_refuse, ↓if_pos, ↓if_neg, ↓xgd_pos, ↓xgb_pos, ↓xgc_pos, ↓xlet_eq, xc1_some, xc2_some, w32_id, xup_same, xup_row, xup_ne_j, xsw_l, xsw_r]
                · rw [hm, if_pos z0, Md_ref, xc2_some]
              · rw [if_neg z0, if_pos rfl] at hm
                unfold f_Md_forge_81 at hm
                by_cases z1 : h 78 t = 1
                · obtain ⟨d1, d2, d3, d4⟩ := c4 z0
                  have em : min (h 79 t) 26 = h 79 t := by omega
                  rw [if_pos z1] at hm
                  unfold f_Md_forge_91 at hm
                  by_cases z2 : n < 0 ∨ h 79 t < 1 + n ∨ 6 < n + n
                  · refine fin (-1) 12 ?_ ?_
                    · rw [ew]
                      by_cases y3 : n < 0
                      · simp (disch := omega) only [em, f_Trays_copy_50, f_Trays_refuse, ↓if_pos, ↓if_neg, ↓xgd_pos, ↓xgb_pos, ↓xgc_pos, ↓xlet_eq, xc1_some, xc2_some, w32_id, xup_same, xup_row, xup_ne_j, xsw_l, xsw_r]
                      · by_cases y4 : h 79 t < 1 + n
                        · simp (disch := omega) only [em, f_Trays_copy_50, f_Trays_refuse, ↓if_pos, ↓if_neg, ↓xgd_pos, ↓xgb_pos, ↓xgc_pos, ↓xlet_eq, xc1_some, xc2_some, w32_id, xup_same, xup_row, xup_ne_j, xsw_l, xsw_r]
                        · simp (disch := omega) only [em, f_Trays_copy_50, f_Trays_refuse, ↓if_pos, ↓if_neg, ↓xgd_pos, ↓xgb_pos, ↓xgc_pos, ↓xlet_eq, xc1_some, xc2_some, w32_id, xup_same, xup_row, xup_ne_j, xsw_l, xsw_r]
                    · rw [hm]
                      by_cases y3 : n < 0
                      · simp (disch := omega) only [d1, f_Md_forge_224, Md_ref, ↓if_pos, ↓if_neg, ↓xgd_pos, ↓xgb_pos, ↓xgc_pos, ↓xlet_eq, xc1_some, xc2_some, w32_id, xup_same, xup_row, xup_ne_j, xsw_l, xsw_r]
                      · by_cases y4 : h 79 t < 1 + n
                        · simp (disch := omega) only [d1, f_Md_forge_224, Md_ref, ↓if_pos, ↓if_neg, ↓xgd_pos, ↓xgb_pos, ↓xgc_pos, ↓xlet_eq, xc1_some, xc2_some, w32_id, xup_same, xup_row, xup_ne_j, xsw_l, xsw_r]
                        · simp (disch := omega) only [d1, f_Md_forge_224, Md_ref, ↓if_pos, ↓if_neg, ↓xgd_pos, ↓xgb_pos, ↓xgc_pos, ↓xlet_eq, xc1_some, xc2_some, w32_id, xup_same, xup_row, xup_ne_j, xsw_l, xsw_r]
                  · -- the sum
                    obtain ⟨S, hS⟩ : ∃ S : Nat → Int, S 0 = 0 ∧ ∀ k : Nat, S (k + 1) = w32 (S k + w32 (97 + h 80 (t * 26 + ((k : Int) + 1)))) := ⟨fun m => Nat.rec 0 (fun k s => w32 (s + w32 (97 + h 80 (t * 26 + ((k : Int) + 1))))) m, rfl, fun _ => rfl⟩
                    have e1 := xloop_T (step := fun s : Int × Int => f_Trays_copy_s63 t n s.1 s.2 h) (fun k => (S k, (k : Int) + 1)) n.toNat (s0 := (0, 1)) (b := S n.toNat) (by rw [hS.1]; rfl) (fun m hm2 => by
                      dsimp only [f_Trays_copy_s63]
                      simp (disch := omega) only [↓if_pos, ↓if_neg, ↓xgd_pos, ↓xgb_pos, ↓xgc_pos, ↓xlet_eq, xc1_some, xc2_some, w32_id, xup_same, xup_row, xup_ne_j, xsw_l, xsw_r]
                      rw [hS.2 m]
                      congr 3) (by
                      dsimp only [f_Trays_copy_s63]
                      rw [if_pos (by omega)])
                    have e2 := xloop_T (step := fun s : Int × Int => f_Md_forge_s237 t n s.1 s.2 h) (fun k => (S k, (k : Int))) n.toNat (s0 := (0, 0)) (b := S n.toNat) (by rw [hS.1]; rfl) (fun m hm2 => by
                      dsimp only [f_Md_forge_s237]
                      have dn := d4 ((m : Int) + 1) (by omega) (by omega)
                      rw [show 26 * t + ((m : Int) + 1) = 26 * t + 1 + m by omega] at dn
                      simp (disch := omega) only [dn, ↓if_pos, ↓if_neg, ↓xgd_pos, ↓xgb_pos, ↓xgc_pos, ↓xlet_eq, xc1_some, xc2_some, w32_id, xup_same, xup_row, xup_ne_j, xsw_l, xsw_r]
                      rw [hS.2 m]
                      congr 3) (by
                      dsimp only [f_Md_forge_s237]
                      rw [if_neg (by omega)])
                    refine fin (S n.toNat) 0 ?_ ?_
                    · rw [ew]
                      simp (disch := omega) only [em, f_Trays_copy_63, e1, f_Trays_copy_95, f_Trays_done, ↓if_pos, ↓if_neg, ↓xgd_pos, ↓xgb_pos, ↓xgc_pos, ↓xlet_eq, xc1_some, xc2_some, w32_id, xup_same, xup_row, xup_ne_j, xsw_l, xsw_r]
                    · rw [hm]
                      simp (disch := omega) only [d1, f_Md_forge_237, e2, f_Md_forge_271, Md_don, ↓if_pos, ↓if_neg, ↓xgd_pos, ↓xgb_pos, ↓xgc_pos, ↓xlet_eq, xc1_some, xc2_some, w32_id, xup_same, xup_row, xup_ne_j, xsw_l, xsw_r]
                · rw [if_neg z1] at hm
                  refine fin (-1) 11 ?_ (by rw [hm, Md_ref, xc2_some])
                  rw [ew]
                  simp (disch := omega) only [f_Trays_refuse, ↓if_pos, ↓if_neg, ↓xgd_pos, ↓xgb_pos, ↓xgc_pos, ↓xlet_eq, xc1_some, xc2_some, w32_id, xup_same, xup_row, xup_ne_j, xsw_l, xsw_r]
            · rw [if_neg k5] at hm
              unfold f_Md_forge_91 at hm
              by_cases k6 : k = 6
              · subst k6
                have hw2 := hw 2
                by_cases z0 : h 78 t = 0
                · rw [if_pos z0] at hw2
                  exact fin 0 0 (by unfold f_WM_forge f_Trays_work f_Trays_layAmongStates; simp (disch := omega) only [hw2, f_Trays_done, ↓if_pos, ↓if_neg, ↓xgd_pos, ↓xgb_pos, ↓xgc_pos, ↓xlet_eq, xc1_some, xc2_some, w32_id, xup_same, xup_row, xup_ne_j, xsw_l, xsw_r]) (by rw [hm]; simp (disch := omega) only [Md_don, ↓if_pos, ↓if_neg, ↓xgd_pos, ↓xgb_pos, ↓xgc_pos, ↓xlet_eq, xc1_some, xc2_some, w32_id, xup_same, xup_row, xup_ne_j, xsw_l, xsw_r])
                · by_cases z1 : h 78 t = 2
                  · obtain ⟨d1, d2, d3, d4⟩ := c4 z0
                    rw [if_neg z0, if_pos z1] at hw2
                    exact fin (h 79 t) 0 (by unfold f_WM_forge f_Trays_work f_Trays_layAmongStates; simp (disch := omega) only [hw2, f_Trays_done, ↓if_pos, ↓if_neg, ↓xgd_pos, ↓xgb_pos, ↓xgc_pos, ↓xlet_eq, xc1_some, xc2_some, w32_id, xup_same, xup_row, xup_ne_j, xsw_l, xsw_r]) (by rw [hm]; simp (disch := omega) only [Md_don, d1, ↓if_pos, ↓if_neg, ↓xgd_pos, ↓xgb_pos, ↓xgc_pos, ↓xlet_eq, xc1_some, xc2_some, w32_id, xup_same, xup_row, xup_ne_j, xsw_l, xsw_r])
                  · rw [if_neg z0, if_neg z1] at hw2
                    exact fin (-1) 14 (by unfold f_WM_forge f_Trays_work f_Trays_layAmongStates; simp (disch := omega) only [hw2, f_Trays_refuse, ↓if_pos, ↓if_neg, ↓xgd_pos, ↓xgb_pos, ↓xgc_pos, ↓xlet_eq, xc1_some, xc2_some, w32_id, xup_same, xup_row, xup_ne_j, xsw_l, xsw_r]) (by rw [hm]; simp (disch := omega) only [Md_ref, ↓if_pos, ↓if_neg, ↓xgd_pos, ↓xgb_pos, ↓xgc_pos, ↓xlet_eq, xc1_some, xc2_some, w32_id, xup_same, xup_row, xup_ne_j, xsw_l, xsw_r])
              · by_cases k7 : k = 7
                · subst k7
                  by_cases z : n = 0
                  · exact fin (-1) 15 (by unfold f_WM_forge f_Trays_work; simp (disch := omega) only [f_Trays_refuse, ↓if_pos, ↓if_neg, ↓xgd_pos, ↓xgb_pos, ↓xgc_pos, ↓xlet_eq, xc1_some, xc2_some, w32_id, xup_same, xup_row, xup_ne_j, xsw_l, xsw_r]) (by rw [hm]; simp (disch := omega) only [Md_ref, ↓if_pos, ↓if_neg, ↓xgd_pos, ↓xgb_pos, ↓xgc_pos, ↓xlet_eq, xc1_some, xc2_some, w32_id, xup_same, xup_row, xup_ne_j, xsw_l, xsw_r])
                  · exact fin (xdiv 1000 n) 0 (by unfold f_WM_forge f_Trays_work; simp (disch := omega) only [f_Trays_done, xgp_pos z, ↓if_pos, ↓if_neg, ↓xgd_pos, ↓xgb_pos, ↓xgc_pos, ↓xlet_eq, xc1_some, xc2_some, w32_id, xup_same, xup_row, xup_ne_j, xsw_l, xsw_r]) (by rw [hm]; simp (disch := omega) only [Md_don, xgp_pos z, ↓if_pos, ↓if_neg, ↓xgd_pos, ↓xgb_pos, ↓xgc_pos, ↓xlet_eq, xc1_some, xc2_some, w32_id, xup_same, xup_row, xup_ne_j, xsw_l, xsw_r])
                · have k8 : k = 8 := by omega
                  subst k8
                  exact fin (-1) 10 (by unfold f_WM_forge f_Trays_work; simp (disch := omega) only [f_Trays_refuse, ↓if_pos, ↓if_neg, ↓xgd_pos, ↓xgb_pos, ↓xgc_pos, ↓xlet_eq, xc1_some, xc2_some, w32_id, xup_same, xup_row, xup_ne_j, xsw_l, xsw_r]) (by rw [hm]; simp (disch := omega) only [Md_ref, ↓if_pos, ↓if_neg, ↓xgd_pos, ↓xgb_pos, ↓xgc_pos, ↓xlet_eq, xc1_some, xc2_some, w32_id, xup_same, xup_row, xup_ne_j, xsw_l, xsw_r])
      · refine fin (-1) 1 ?_ (by unfold f_Md_forge f_Md_forge_31; simp (disch := omega) only [in_1, in_0, Md_ref, ↓if_pos, ↓if_neg, ↓xgd_pos, ↓xgb_pos, ↓xgc_pos, ↓xlet_eq, xc1_some, xc2_some, w32_id, xup_same, xup_row, xup_ne_j, xsw_l, xsw_r])
        unfold f_WM_forge f_Trays_work
        simp (disch := omega) only [f_Trays_refuse, ↓if_pos, ↓if_neg, ↓xgd_pos, ↓xgb_pos, ↓xgc_pos, ↓xlet_eq, xc1_some, xc2_some, w32_id, xup_same, xup_row, xup_ne_j, xsw_l, xsw_r]
    · refine fin (-1) 1 ?_ ?_
      · unfold f_WM_forge f_Trays_work f_Trays_work_22
        by_cases z : n < -100
        · simp (disch := omega) only [f_Trays_refuse, ↓if_pos, ↓if_neg, ↓xgd_pos, ↓xgb_pos, ↓xgc_pos, ↓xlet_eq, xc1_some, xc2_some, w32_id, xup_same, xup_row, xup_ne_j, xsw_l, xsw_r]
        · simp (disch := omega) only [f_Trays_refuse, ↓if_pos, ↓if_neg, ↓xgd_pos, ↓xgb_pos, ↓xgc_pos, ↓xlet_eq, xc1_some, xc2_some, w32_id, xup_same, xup_row, xup_ne_j, xsw_l, xsw_r]
      · unfold f_Md_forge f_Md_forge_31
        by_cases z : 0 ≤ k ∧ k ≤ 8
        · simp (disch := omega) only [in_1, in_0, Md_ref, ↓if_pos, ↓if_neg, ↓xgd_pos, ↓xgb_pos, ↓xgc_pos, ↓xlet_eq, xc1_some, xc2_some, w32_id, xup_same, xup_row, xup_ne_j, xsw_l, xsw_r]
        · simp (disch := omega) only [in_1, in_0, Md_ref, ↓if_pos, ↓if_neg, ↓xgd_pos, ↓xgb_pos, ↓xgc_pos, ↓xlet_eq, xc1_some, xc2_some, w32_id, xup_same, xup_row, xup_ne_j, xsw_l, xsw_r]
  · refine fin (-1) 1 ?_ (by unfold f_Md_forge f_Md_forge_31; simp (disch := omega) only [in_1, in_0, Md_ref, ↓if_pos, ↓if_neg, ↓xgd_pos, ↓xgb_pos, ↓xgc_pos, ↓xlet_eq, xc1_some, xc2_some, w32_id, xup_same, xup_row, xup_ne_j, xsw_l, xsw_r])
    unfold f_WM_forge f_Trays_work f_Trays_work_22
    by_cases z : t < 0
    · simp (disch := omega) only [f_Trays_refuse, ↓if_pos, ↓if_neg, ↓xgd_pos, ↓xgb_pos, ↓xgc_pos, ↓xlet_eq, xc1_some, xc2_some, w32_id, xup_same, xup_row, xup_ne_j, xsw_l, xsw_r]
    · simp (disch := omega) only [f_Trays_refuse, ↓if_pos, ↓if_neg, ↓xgd_pos, ↓xgb_pos, ↓xgc_pos, ↓xlet_eq, xc1_some, xc2_some, w32_id, xup_same, xup_row, xup_ne_j, xsw_l, xsw_r]
