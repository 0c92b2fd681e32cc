/-! THE MODEL'S WALK: depth first -/
/-- one node on the way down: its words, and the next of them -/
def FR (h y : xH) (b d : Int) : Prop := 0 ≤ y 118 d ∧ y 118 d < y 119 d ∧ y 119 d ≤ h 5 2 ∧ y 118 d ≤ y 120 d ∧ y 120 d ≤ y 119 d ∧ (∀ w, y 118 d ≤ w → w < y 119 d → d ≤ h 7 w ∧ ∀ k, 0 ≤ k → k < d → rp h 5 w k = y 97 k) ∧ shW h (y 118 d) < d ∧ d ≤ ct h (pB h) (h 81 23) b (y 118 d) ∧ (y 120 d < y 119 d → d < ct h (pB h) (h 81 23) b (y 118 d) ∧ shW h (y 120 d) ≤ d)
def WI (h : xH) (b D : Int) (y : xH) : Prop := off [97, 110, 111, 112, 113, 114, 115, 116, 118, 119, 120] [22, 39, 40, 47, 83, 84] h y ∧ y 81 47 = h 81 23 ∧ (∀ d, 0 ≤ d → d ≤ D → FR h y b d) ∧ (∀ d, 0 ≤ d → d < D → y 120 d = y 119 (d + 1) ∧ y 118 d ≤ y 118 (d + 1)) ∧ y 119 0 = h 5 2 ∧ (∀ x j, 0 ≤ x → x ≤ D → 0 ≤ j → j ≤ h 81 23 → y 116 (13 * x + j) = Gs h (pB h) (rp h 5 (y 118 D)) x j)
def WE (h : xH) (b : Int) (g : xH) : Prop := off [97, 110, 111, 112, 113, 114, 115, 116, 118, 119, 120] [22, 39, 40, 47, 83, 84] h g ∧ g 81 47 = h 81 23 ∧ g 81 39 = bs h (pB h) (h 81 23) b (h 5 2) ∧ g 81 40 = lfs h (pB h) (h 81 23) b (h 5 2) ∧ ∀ v d, 0 ≤ v → v < h 5 2 → shW h v < d → d ≤ dpt h (pB h) (h 81 23) b v → MNd h g b (ps h (pB h) (h 81 23) b v d) v d
theorem w_sib {y : xH} {D a t b c : Int} (D0 : 0 ≤ D) (D1 : D < 12) (ht : y 119 D = t) (a0 : 0 ≤ a) (at' : a < t) (t2 : t ≤ 200) (hc : y 86 (12 * a + D) = c) : ∃ e, xloop (fun s : Int => f_Md_walk_s143 b D a c s y) a = some e ∧ a < e ∧ e ≤ t ∧ (∀ w, a ≤ w → w < e → y 86 (12 * w + D) = c) ∧ (e < t → y 86 (12 * e + D) ≠ c) := by
  obtain ⟨e, h1, h2⟩ := xloop_W (step := fun s : Int => f_Md_walk_s143 b D a c s y) (I := fun e => a ≤ e ∧ e ≤ t ∧ ∀ w, a ≤ w → w < e → y 86 (12 * w + D) = c) (fun e => (t - e).toNat)
    (post := fun e => a < e ∧ e ≤ t ∧ (∀ w, a ≤ w → w < e → y 86 (12 * w + D) = c) ∧ (e < t → y 86 (12 * e + D) ≠ c)) (s := a) (by
      intro e ⟨e0, e1, e2⟩
      dsimp only [f_Md_walk_s143]
      rw [xgd_pos (by omega) (by omega), ht]
      by_cases z : e < t
      · rw [if_pos z, w32_id (z := 12 * e) (by omega) (by omega), w32_id (z := 12 * e + D) (by omega) (by omega), xgd_pos (by omega) (by omega)]
        by_cases z1 : y 86 (12 * e + D) = c
        · left
          refine ⟨e + 1, by rw [if_pos z1, w32_id (by omega) (by omega), xlet_eq], ⟨by omega, by omega, fun w w0 w1 => ?_⟩, by omega⟩
          by_cases c' : w = e
          · rw [c']; exact z1
          · exact e2 w w0 (by omega)
        · right
          refine ⟨e, by rw [if_neg z1], ?_, e1, e2, fun _ => z1⟩
          by_cases c' : e = a
          · rw [c'] at z1; exact absurd hc z1
          · omega
      · right
        exact ⟨e, by rw [if_neg z], by omega, e1, e2, fun c' => absurd c' z⟩) ⟨Int.le_refl _, by omega, fun w w0 w1 => by omega⟩
  exact ⟨e, h1, h2⟩
/-- where a word ends in its node -/
theorem w_skip {h y : xH} {b D : Int} (W : Wd0 h) (hf : FR h y b D) (hk : MK h y b (y 120 D) (y 119 D) D) (D0 : 0 ≤ D) : ∃ a0, (a0 = y 120 D ∧ ¬ (y 120 D < y 119 D ∧ h 7 (y 120 D) = D) ∨ a0 = y 120 D + 1 ∧ y 120 D < y 119 D ∧ h 7 (y 120 D) = D) ∧ MK h y b a0 (y 119 D) D ∧ a0 ≤ y 119 D ∧ (a0 < y 119 D → D < ct h (pB h) (h 81 23) b (y 118 D) ∧ shW h a0 ≤ D ∧ ∀ w, a0 ≤ w → w < y 119 D → D < h 7 w) ∧ (y 118 D < y 120 D → y 118 D < a0) := by
  obtain ⟨f0, f1, f2, f3, f4, f5, f6, f7, f8⟩ := hf
  generalize y 118 D = f at *
  generalize y 119 D = t at *
  generalize y 120 D = a at *
  have dp : ∀ w, f < w → w < t → D < h 7 w := fun w w0 w1 => by
    obtain ⟨p1, p2⟩ := f5 w (by omega) w1
    obtain ⟨p3, p4⟩ := f5 f (Int.le_refl _) f1
    exact deeper W f0 w0 (by omega) p1 (fun x x0 x1 => by rw [p2 x x0 x1, p4 x x0 x1])
  by_cases z : a < t ∧ h 7 a = D
  · obtain ⟨z1, z2⟩ := z
    have ea : a = f := by
      by_cases c : a = f
      · exact c
      · have := dp a (by omega) z1
        omega
    obtain ⟨g1, g2⟩ := f8 z1
    refine ⟨a + 1, Or.inr ⟨rfl, z1, z2⟩, ?_, by omega, fun c => ⟨g1, ?_, fun w w0 w1 => dp w (by omega) w1⟩, fun c => by omega⟩
    · have la := LR_w W (show 0 ≤ a by omega) (by omega)
      have b3 := bs_s (h := h) (q := pB h) (m := h 81 23) (b := b) (w := a) (by omega)
      have b4 := lfs_s (h := h) (q := pB h) (m := h 81 23) (b := b) (w := a) (by omega)
      rw [ea] at z2 b3 b4
      rw [if_neg (by omega)] at b4
      have ed : dpt h (pB h) (h 81 23) b f = D := by unfold dpt; omega
      have sh : a + 1 < t → D ≤ shW h (a + 1) := fun c => by
        obtain ⟨p1, p2⟩ := f5 (a + 1) (by omega) c
        obtain ⟨p3, p4⟩ := f5 a (by omega) z1
        exact shW_ge W (by omega) (by omega) p1 (fun x x0 x1 => by rw [show a + 1 - 1 = a by omega, p2 x x0 x1, p4 x x0 x1])
      obtain ⟨k1, k2, k3⟩ := hk
      rw [if_pos z1] at k1
      rw [ea] at k1 k2 k3 sh ⊢
      refine ⟨?_, by omega, fun v d v0 v1 v2 v3 v4 => ?_⟩
      · have e0 : (if f + 1 < t then max 0 (D - shW h (f + 1)) else 0) = 0 := by
          split
          · next c => have := sh c; omega
          · rfl
        rw [e0, k1]
        omega
      · refine k3 v d v0 v1 v2 v3 ?_
        by_cases c : v < f
        · exact Or.inl c
        · by_cases c2 : v = f
          · subst c2
            exact Or.inr ⟨rfl, by omega, by omega⟩
          · rcases v4 with v4 | ⟨v4, v5, v6⟩
            · omega
            · have := sh v5
              rw [v4] at v2
              omega
    · have := (shW_agr W (show 1 ≤ a + 1 by omega) (by omega)).2.2.1
      rw [show a + 1 - 1 = a by omega] at this
      omega
  · refine ⟨a, Or.inl ⟨rfl, z⟩, hk, f4, fun c => ?_, fun c => c⟩
    obtain ⟨g1, g2⟩ := f8 c
    refine ⟨g1, g2, fun w w0 w1 => ?_⟩
    obtain ⟨p1, p2⟩ := f5 w (by omega) w1
    by_cases c2 : w = f
    · have : w = a := by omega
      subst this
      by_cases c3 : h 7 w = D
      · exact absurd ⟨c, c3⟩ z
      · omega
    · exact dp w (by omega) w1
/-- back to the node above -/
theorem w_pop {h y : xH} {b D : Int} (hP : Pr h) (hS : So h) (W : Wd0 h) (hB : MB h) (D0 : 0 ≤ D) (D1 : D ≤ 12) (hI : WI h b D y) (hk : MK h y b (y 119 D) (y 119 D) D) : (D = 0 ∧ WE h b y) ∨ (1 ≤ D ∧ WI h b (D - 1) y ∧ y 120 (D - 1) = y 119 D ∧ MK h y b (y 120 (D - 1)) (y 119 (D - 1)) (D - 1)) := by
  obtain ⟨i1, i2, i3, i4, i5, i6⟩ := hI
  obtain ⟨k1, k2, k3⟩ := hk
  rw [if_neg (by omega)] at k1
  by_cases z : D = 0
  · subst z
    left
    rw [i5] at k1 k2 k3
    exact ⟨rfl, i1, i2, by omega, k2, fun v d v0 v1 v2 v3 => k3 v d v0 v1 v2 v3 (Or.inl v1)⟩
  · right
    have l1 := i4 (D - 1) (by omega) (by omega)
    rw [show D - 1 + 1 = D by omega] at l1
    obtain ⟨l1, l2⟩ := l1
    obtain ⟨f0, f1, f2, f3, f4, f5, f6, f7, f8⟩ := i3 (D - 1) (by omega) (by omega)
    obtain ⟨g0, g1, g2, g3, g4, g5, g6, g7, g8⟩ := i3 D D0 (Int.le_refl _)
    have e1 : D - 1 ≤ h 7 (y 118 D) ∧ D - 1 ≤ h 7 (y 118 (D - 1)) ∧ ∀ k, 0 ≤ k → k < D - 1 → rp h 5 (y 118 D) k = rp h 5 (y 118 (D - 1)) k := by
      obtain ⟨p1, p2⟩ := f5 (y 118 D) l2 (by omega)
      obtain ⟨p3, p4⟩ := f5 (y 118 (D - 1)) (Int.le_refl _) f1
      exact ⟨p1, p3, fun k k0 k1 => by rw [p2 k k0 k1, p4 k k0 k1]⟩
    obtain ⟨e1, e2, e3⟩ := e1
    refine ⟨by omega, ⟨i1, i2, fun d d0 d1 => i3 d d0 (by omega), fun d d0 d1 => i4 d d0 (by omega), i5, fun x j x0 x1 j0 j1 => ?_⟩, l1, ?_⟩
    · rw [i6 x j x0 (by omega) j0 j1]
      exact Gs_agr hP hS (LR_w W g0 (by omega)) (LR_w W f0 (by omega)) (LR_B hB) e1 e2 e3 x0 x1 j0 j1
    · have sh : y 119 D < y 119 (D - 1) → D - 1 ≤ shW h (y 119 D) := fun c => by
        obtain ⟨p1, p2⟩ := f5 (y 119 D) (by omega) c
        obtain ⟨p3, p4⟩ := f5 (y 119 D - 1) (by omega) (by omega)
        exact shW_ge W (by omega) (by omega) p1 (fun x x0 x1 => by rw [p2 x x0 x1, p4 x x0 x1])
      rw [l1]
      refine ⟨?_, k2, fun v d v0 v1 v2 v3 v4 => k3 v d v0 v1 v2 v3 ?_⟩
      · have e0 : (if y 119 D < y 119 (D - 1) then max 0 (D - 1 - shW h (y 119 D)) else 0) = 0 := by
          split
          · next c => have := sh c; omega
          · rfl
        rw [e0]; exact k1
      · rcases v4 with v4 | ⟨v4, v5, v6⟩
        · exact Or.inl v4
        · have := sh v5
          rw [v4] at v2
          omega
/-- down into a node below -/
theorem w_down {h y : xH} {b D a : Int} (hP : Pr h) (hS : So h) (W : Wd0 h) (hB : MB h) (D0 : 0 ≤ D) (D1 : D ≤ 12) (hI : WI h b D y) (hk : MK h y b a (y 119 D) D) (fa : y 118 D ≤ a) (at' : a < y 119 D) (c1 : D < ct h (pB h) (h 81 23) b (y 118 D)) (c2 : shW h a ≤ D) (c3 : ∀ w, a ≤ w → w < y 119 D → D < h 7 w) :
    ∃ g, f_Md_walk_108 b D a y = some (Sum.inl (D + 1, g)) ∧ D + 1 ≤ 12 ∧ WI h b (D + 1) g ∧ MK h g b (g 120 (D + 1)) (g 119 (D + 1)) (D + 1) ∧ (g 120 (D + 1) = a ∧ a < g 119 (D + 1) ∨ a < g 120 (D + 1)) := by
  obtain ⟨i1, i2, i3, i4, i5, i6⟩ := hI
  obtain ⟨P1, S1, W1, B1, r1, r2, r3, r4, r5, r6, r7, r8, r9, r10, r11⟩ := wm_fr i1 hP hS W hB
  obtain ⟨f0, f1, f2, f3, f4, f5, f6, f7, f8⟩ := i3 D D0 (Int.le_refl _)
  have N200 := Wd_n W
  have la := LR_w W (show 0 ≤ a by omega) (by omega)
  have lta := c3 a (Int.le_refl _) at'
  have D12 : D < 12 := by have := la.2.1; omega
  obtain ⟨m0, m1, -⟩ := id hB
  obtain ⟨k1, k2, k3⟩ := hk
  rw [if_pos at'] at k1
  have bsb := bs_bd (q := pB h) (m := h 81 23) (b := b) W (w := a) (by omega) (by omega)
  have lfb := lfs_bd (h := h) (q := pB h) (m := h 81 23) (b := b) (w := a) (by omega)
  have let' : ∀ w, a ≤ w → w < y 119 D → y 86 (12 * w + D) = rp h 5 w D := fun w w0 w1 => by
    have := c3 w w0 w1
    rw [r11, ((W.2.2.1 w (by omega) (by omega)).2 D D0 this)]
    unfold rp
    rw [show (5 + 2 : Int) = 7 from rfl, show (5 + 1 : Int) = 6 from rfl, pad_in D0 this]
  have lr := fun w w0 w1 => LR_in (LR_w W (show 0 ≤ w by omega) (show w < h 5 2 by omega)) D0 (c3 w w0 w1)
  obtain ⟨e, s1, s2, s3, s4, s5⟩ := w_sib (b := b) (y := y) (a := a) (c := rp h 5 a D) D0 D12 rfl (by omega) at' (by omega) (let' a (Int.le_refl _) at')
  have s4' : ∀ w, a ≤ w → w < e → rp h 5 w D = rp h 5 a D := fun w w0 w1 => by rw [← let' w w0 (by omega)]; exact s4 w w0 w1
  unfold f_Md_walk_108
  rw [xgd_pos D0 (by omega), if_pos at', w32_id (z := 12 * a) (by omega) (by omega), w32_id (z := 12 * a + D) (by omega) (by omega), xgd_pos (by omega) (by omega), let' a (Int.le_refl _) at', xlet_eq]
  unfold f_Md_walk_143
  rw [s1, xc1_some]
  unfold f_Md_walk_177
  rw [xgd_pos D0 (by omega), xlet_eq, w32_id (z := D + 1) (by omega) (by omega), xlet_eq, w32_id (z := D + 1 - 1) (by omega) (by omega), show D + 1 - 1 = D by omega, xgd_pos D0 (by omega), xlet_eq]
  generalize hy3 : xup (xup y 120 D e) 97 D (rp h 5 a D) = y3
  have y3r : ∀ o, o ≠ 97 → o ≠ 120 → y3 o = y o := fun o z1 z2 => by rw [← hy3, xup_row z1, xup_row z2]
  have o3 : off [97, 110, 111, 112, 113, 114, 115, 116, 118, 119, 120] [22, 39, 40, 47, 83, 84] h y3 := by rw [← hy3]; exact off_w (off_tr i1 (off_tr (off_up (by decide)) (off_up (by decide)))) (by decide) (by decide)
  have l97 : ∀ k, 0 ≤ k → k < D → y3 97 k = y 97 k := fun k z1 z2 => by rw [← hy3, xup_ne_j (by omega), xup_row (by decide)]
  have l97D : y3 97 D = rp h 5 a D := by rw [← hy3, xup_same]
  have l97a : ∀ k, 0 ≤ k → k < D + 1 → y3 97 k = rp h 5 a k := fun k z1 z2 => by
    by_cases c : k = D
    · rw [c]; exact l97D
    · rw [l97 k z1 (by omega)]
      exact ((f5 a fa at').2 k z1 (by omega)).symm
  -- the words below
  have sub : ∀ w, a ≤ w → w < e → D + 1 ≤ h 7 w ∧ ∀ k, 0 ≤ k → k < D + 1 → rp h 5 w k = rp h 5 a k := fun w w0 w1 => by
    refine ⟨by have := c3 w w0 (by omega); omega, fun k z1 z2 => ?_⟩
    by_cases c : k = D
    · rw [c]; exact s4' w w0 w1
    · rw [(f5 w (by omega) (by omega)).2 k z1 (by omega), (f5 a fa at').2 k z1 (by omega)]
  have cta : D < ct h (pB h) (h 81 23) b a := by
    refine (ct_agr (b := b) hP hS W (LR_B hB) (v := y 118 D) (w := a) (k := D) f0 (by omega) (by omega) (by omega) (f5 _ (Int.le_refl _) f1).1 (by omega) (fun x x0 x1 => ?_)).2 c1
    rw [(f5 _ (Int.le_refl _) f1).2 x x0 x1, (f5 a fa at').2 x x0 x1]
  generalize hpp : pad (D + 1) (y3 97) = pp
  have lpp : LR (D + 1) pp := by
    rw [← hpp]
    exact LR_p (by omega) (by omega) (fun k z1 z2 => by rw [l97a k z1 z2]; exact LR_in la z1 (by omega))
  have app : ∀ k, 0 ≤ k → k < D + 1 → pp k = rp h 5 a k := fun k z1 z2 => by rw [← hpp, pad_in z1 z2]; exact l97a k z1 z2
  have gpp : ∀ x j, 0 ≤ x → x ≤ D + 1 → 0 ≤ j → j ≤ h 81 23 → Gs h (pB h) pp x j = Gs h (pB h) (rp h 5 a) x j := fun x j x0 x1 j0 j1 => Gs_agr hP hS lpp la (LR_B hB) (Int.le_refl _) (by omega) app x0 x1 j0 j1
  have wd : ∀ s3, s3 = (if D + 1 = h 7 a then 1 else 0) → ∃ g, f_Md_walk_217 b (D + 1) a e (D + 1) b s3 y3 = some (Sum.inl (D + 1, g)) ∧ D + 1 ≤ 12 ∧ WI h b (D + 1) g ∧ MK h g b (g 120 (D + 1)) (g 119 (D + 1)) (D + 1) ∧ (g 120 (D + 1) = a ∧ a < g 119 (D + 1) ∨ a < g 120 (D + 1)) := by
    intro s3' hs3
    have psb := ps_b (q := pB h) (m := h 81 23) (b := b) W (w := a) (d := D + 1) (by omega) (by omega) (by omega) (by unfold dpt; omega)
    have pse : ps h (pB h) (h 81 23) b a (D + 1) = bs h (pB h) (h 81 23) b a + (D + 1 - shW h a - 1) := rfl
    obtain ⟨lf, g, t1, t2, t3, t4, t5, ⟨t6, t7, t8, t9, t10, t11⟩, t12, t13⟩ := m_meets (h := h) (y := y3) (b := b) (d := D + 1) (wd := s3') (i := ps h (pB h) (h 81 23) b a (D + 1)) o3 hP hS W hB (by omega) (by omega) (by rw [y3r 81 (by decide) (by decide)]; omega) psb.1 psb.2.2.2 (by rw [y3r 81 (by decide) (by decide)]; omega) (by rw [hs3]; split <;> omega) (fun k z1 z2 => by rw [l97a k z1 z2]; exact LR_in la z1 (by omega)) (fun x j x0 x1 j0 j1 => by
      rw [hpp, y3r 116 (by decide) (by decide), i6 x j x0 (by omega) j0 j1]
      refine Gs_agr (k := D) hP hS (LR_w W f0 (by omega)) lpp (LR_B hB) (f5 _ (Int.le_refl _) f1).1 (by omega) (fun k z1 z2 => ?_) x0 (by omega) j0 j1
      rw [app k z1 (by omega), (f5 _ (Int.le_refl _) f1).2 k z1 z2, (f5 a fa at').2 k z1 z2])
    rw [hpp] at t2 t8 t11 t13
    have t2' : lf = 1 ∧ lft h (pB h) (h 81 23) b (rp h 5 a) (D + 1) ∨ lf = 0 ∧ ¬ lft h (pB h) (h 81 23) b (rp h 5 a) (D + 1) := by
      have := lft_agr (b := b) hP hS (LR_B hB) lpp la (Int.le_refl _) (show D + 1 ≤ h 7 a by omega) app (d := D + 1) (Int.le_refl _)
      rcases t2 with ⟨u1, u2⟩ | ⟨u1, u2⟩
      · exact Or.inl ⟨u1, this.1 u2⟩
      · exact Or.inr ⟨u1, fun z => u2 (this.2 z)⟩
    -- the new frame
    generalize hg4 : xup (xup (xup g 118 (D + 1) a) 119 (D + 1) e) 120 (D + 1) (if lf = 0 then a else e) = g4
    have g4r : ∀ o, o ≠ 118 → o ≠ 119 → o ≠ 120 → g4 o = g o := fun o z1 z2 z3 => by rw [← hg4, xup_row z3, xup_row z2, xup_row z1]
    have e217 : f_Md_walk_217 b (D + 1) a e (D + 1) b s3' y3 = some (Sum.inl (D + 1, g4)) := by
      unfold f_Md_walk_217
      rw [t1, xc2_some, xgd_pos (by omega) (by omega), xlet_eq, xgd_pos (by omega) (by omega), xlet_eq]
      unfold f_Md_walk_253
      rcases t2 with ⟨u1, u2⟩ | ⟨u1, u2⟩
      · rw [if_neg (by omega)] at hg4
        rw [if_neg (by omega), xgd_pos (by omega) (by omega), xlet_eq, hg4]
      · rw [if_pos u1] at hg4
        rw [if_pos u1, xgd_pos (by omega) (by omega), xlet_eq, hg4]
    have og4 : off [97, 110, 111, 112, 113, 114, 115, 116, 118, 119, 120] [22, 39, 40, 47, 83, 84] h g4 := by
      rw [← hg4]
      exact off_w (off_tr o3 (off_tr t3 (off_tr (off_up (by decide)) (off_tr (off_up (by decide)) (off_up (by decide)))))) (by decide) (by decide)
    have q118 : g4 118 (D + 1) = a := by rw [← hg4, xup_row (by decide), xup_row (by decide), xup_same]
    have q119 : g4 119 (D + 1) = e := by rw [← hg4, xup_row (by decide), xup_same]
    have q120 : g4 120 (D + 1) = if lf = 0 then a else e := by rw [← hg4, xup_same]
    have p118 : ∀ d, d ≤ D → g4 118 d = y 118 d := fun d z => by rw [← hg4, xup_row (by decide), xup_row (by decide), xup_ne_j (by omega), t3.1 118 (by decide) (by decide), y3r 118 (by decide) (by decide)]
    have p119 : ∀ d, d ≤ D → g4 119 d = y 119 d := fun d z => by rw [← hg4, xup_row (by decide), xup_ne_j (by omega), xup_row (by decide), t3.1 119 (by decide) (by decide), y3r 119 (by decide) (by decide)]
    have p120 : ∀ d, d ≤ D → g4 120 d = if d = D then e else y 120 d := fun d z => by
      rw [← hg4, xup_ne_j (by omega), xup_row (by decide), xup_row (by decide), t3.1 120 (by decide) (by decide), ← hy3, xup_row (by decide)]
      by_cases c : d = D
      · rw [c, xup_same, if_pos rfl]
      · rw [xup_ne_j c, if_neg c]
    have p97 : g4 97 = y3 97 := by rw [g4r 97 (by decide) (by decide) (by decide), t3.1 97 (by decide) (by decide)]
    have mk := MK_new (h := h) (y := g) (b := b) (a := a) (e := e) (D := D + 1) (lf := lf) hP hS W hB (by omega) s2 (by omega) (by omega) sub (by omega) (by omega) t2' t4 (by rw [t5, y3r 81 (by decide) (by decide), k2]) (fun v d v0 v1 v2 v3 v4 => by
      by_cases c : v = a ∧ d = D + 1
      · obtain ⟨rfl, rfl⟩ := c
        refine ⟨t6, ?_, ?_, ?_, ?_, fun j j0 j1 => ?_⟩
        · rw [t7, if_neg (by omega), if_neg (by omega), show D + 1 - 1 = D by omega, l97D]
        · rw [t8]
          exact lsG_agr hP hS (LR_B hB) lpp la (Int.le_refl _) (by omega) app (by omega) (Int.le_refl _)
        · rw [t9]
          rcases t2' with ⟨u1, u2⟩ | ⟨u1, u2⟩
          · have ec : ct h (pB h) (h 81 23) b v = D + 1 := ct_eq la.2.1 (by omega) (by omega) (fun x x0 x1 => ct_not x0 (by omega) (by omega)) u2
            rw [if_pos ec.symm, u1]
          · have hne : ¬ (D + 1 = ct h (pB h) (h 81 23) b v) := fun z => u2 (by
              have := ct_lft (h := h) (q := pB h) (m := h 81 23) (b := b) (w := v) (by omega) la.2.1
              rw [← z] at this
              exact this)
            rw [if_neg hne, u1]
        · rw [t10, hs3]
        · rw [t11 j j0 j1]
          exact gpp _ j (by omega) (Int.le_refl _) j0 j1
      · have pv := ps_b (q := pB h) (m := h 81 23) (b := b) W v0 v1 v2 v3
        have lt2 : ps h (pB h) (h 81 23) b v d < ps h (pB h) (h 81 23) b a (D + 1) := by
          by_cases c' : v = a
          · have hd : d ≠ D + 1 := fun z => c ⟨c', z⟩
            subst c'
            unfold ps
            omega
          · have := bs_mono (h := h) (q := pB h) (m := h 81 23) (b := b) (v := v + 1) (w := a) (by omega) (by omega)
            omega
        obtain ⟨n1, n2, n3, n4, n5, n6⟩ := t12 _ pv.1 lt2
        obtain ⟨z1, z2, z3, z4, z5, z6⟩ := k3 v d v0 v1 v2 v3 (by
          by_cases c' : v = a
          · have hd : d ≠ D + 1 := fun z => c ⟨c', z⟩
            exact Or.inr ⟨c', at', by omega⟩
          · exact Or.inl (by omega))
        unfold MNd
        rw [n1, n2, n3, n4, n5, y3r 110 (by decide) (by decide), y3r 111 (by decide) (by decide), y3r 112 (by decide) (by decide), y3r 113 (by decide) (by decide), y3r 114 (by decide) (by decide)]
        exact ⟨z1, z2, z3, z4, z5, fun j j0 j1 => by rw [n6 j j0 j1, y3r 115 (by decide) (by decide)]; exact z6 j j0 j1⟩)
    obtain ⟨mk1, mk2⟩ := mk
    have wordsD : ∀ d, 0 ≤ d → d ≤ D → ∀ w, y 118 d ≤ w → w < y 119 d → d ≤ h 7 w ∧ ∀ k, 0 ≤ k → k < d → rp h 5 w k = y3 97 k := fun d d0 d1 w w0 w1 => by
      obtain ⟨u1, u2⟩ := (i3 d d0 d1).2.2.2.2.2.1 w w0 w1
      exact ⟨u1, fun k z1 z2 => by rw [l97 k z1 (by omega)]; exact u2 k z1 z2⟩
    refine ⟨g4, e217, by omega, ⟨og4, ?_, fun d d0 d1 => ?_, fun d d0 d1 => ?_, ?_, fun x j x0 x1 j0 j1 => ?_⟩, ?_, ?_⟩
    · rw [g4r 81 (by decide) (by decide) (by decide), t3.2 47 (by decide), y3r 81 (by decide) (by decide)]; exact i2
    · by_cases c : d = D + 1
      · subst c
        unfold FR
        rw [q118, q119, q120, p97]
        refine ⟨by omega, s2, by omega, by split <;> omega, by split <;> omega, fun w w0 w1 => ?_, by omega, by omega, fun z => ?_⟩
        · obtain ⟨u1, u2⟩ := sub w w0 w1
          exact ⟨u1, fun k z1 z2 => by rw [u2 k z1 z2, l97a k z1 z2]⟩
        · by_cases c : lf = 0
          · rw [if_pos c]
            exact ⟨mk2 c, by omega⟩
          · rw [if_neg c] at z
            omega
      · obtain ⟨u0, u1, u2, u3, u4, u5, u6, u7, u8⟩ := i3 d d0 (by omega)
        unfold FR
        rw [p118 d (by omega), p119 d (by omega), p120 d (by omega), p97]
        by_cases c' : d = D
        · subst c'
          rw [if_pos rfl]
          refine ⟨u0, u1, u2, by omega, s3, wordsD d d0 (Int.le_refl _), u6, u7, fun z => ⟨c1, ?_⟩⟩
          refine shW_le W (by omega) (by omega) d0 ?_
          rw [s4' (e - 1) (by omega) (by omega), ← let' e (by omega) z]
          exact fun z' => s5 z z'.symm
        · rw [if_neg c']
          exact ⟨u0, u1, u2, u3, u4, wordsD d d0 (by omega), u6, u7, u8⟩
    · by_cases c : d = D
      · subst c
        rw [p120 d (Int.le_refl _), if_pos rfl, q119, p118 d (Int.le_refl _), q118]
        exact ⟨rfl, fa⟩
      · rw [p120 d (by omega), if_neg c, p119 (d + 1) (by omega), p118 d (by omega), p118 (d + 1) (by omega)]
        exact i4 d d0 (by omega)
    · rw [p119 0 D0]; exact i5
    · rw [q118, g4r 116 (by decide) (by decide) (by decide), t13 x j x0 x1 j0 j1]
      exact gpp x j x0 x1 j0 j1
    · rw [q119, q120]
      exact MK_cg (fun o z1 z2 => g4r o (by omega) (by omega) (by omega)) (by rw [g4r 81 (by decide) (by decide) (by decide)]) (by rw [g4r 81 (by decide) (by decide) (by decide)]) mk1
    · rw [q119, q120]
      by_cases c : lf = 0
      · rw [if_pos c]; exact Or.inl ⟨rfl, s2⟩
      · rw [if_neg c]; exact Or.inr s2
  have e85 : y3 85 a = h 7 a := by rw [y3r 85 (by decide) (by decide), r10]; exact (W.2.2.1 a (by omega) (by omega)).1
  rw [xgd_pos (by omega) (by omega), e85]
  by_cases c : h 7 a = D + 1
  · rw [if_pos c]
    exact wd 1 (by rw [if_pos c.symm])
  · rw [if_neg c]
    exact wd 0 (by rw [if_neg (fun z => c z.symm)])
def wmu (N D a t : Int) : Nat := if D < 0 then 0 else ((N - a) * 40 + (if a < t then 13 - D else 14 + D) + 1).toNat
theorem wmu_o {N D a t : Int} (h0 : 0 ≤ D) (h1 : a < t) : wmu N D a t = ((N - a) * 40 + (13 - D) + 1).toNat := by
  unfold wmu
  rw [if_neg (by omega), if_pos h1]
theorem wmu_c {N D a t : Int} (h0 : 0 ≤ D) (h1 : ¬ a < t) : wmu N D a t = ((N - a) * 40 + (14 + D) + 1).toNat := by
  unfold wmu
  rw [if_neg (by omega), if_neg h1]
theorem wmu_l {N D a t : Int} (h0 : 0 ≤ D) (h1 : a ≤ N) : wmu N D a t ≤ ((N - a) * 40 + (14 + D) + 1).toNat := by
  by_cases z : a < t
  · rw [wmu_o h0 z]; omega
  · rw [wmu_c h0 z]; omega
theorem wmu_n {N D a t : Int} (h0 : D < 0) : wmu N D a t = 0 := by
  unfold wmu
  rw [if_pos h0]
theorem m_walk {h : xH} {b : Int} (hP : Pr h) (hS : So h) (W : Wd0 h) (hB : MB h) : ∃ g, f_Md_walk b h = some g ∧ WE h b g := by
  have N200 := Wd_n W
  obtain ⟨m0, m1, -⟩ := id hB
  unfold f_Md_walk
  rw [xlet_eq, xlet_eq, xlet_eq]
  generalize hy : xup (xup (xup h 81 39 0) 81 40 0) 81 47 (xup (xup h 81 39 0) 81 40 0 81 23) = y
  have oy : off [97, 110, 111, 112, 113, 114, 115, 116, 118, 119, 120] [22, 39, 40, 47, 83, 84] h y := by rw [← hy]; exact off_w (off_tr off_um (off_tr off_um off_um)) (by decide) (by decide)
  have y39 : y 81 39 = 0 := by rw [← hy]; simp (disch := omega) only [↓if_pos, ↓if_neg, ↓xgd_pos, ↓xgb_pos, ↓xgc_pos, ↓xlet_eq, xc1_some, xc2_some, w32_id, xup_same, xup_row, xup_ne_j, xsw_l, xsw_r]
  have y40 : y 81 40 = 0 := by rw [← hy]; simp (disch := omega) only [↓if_pos, ↓if_neg, ↓xgd_pos, ↓xgb_pos, ↓xgc_pos, ↓xlet_eq, xc1_some, xc2_some, w32_id, xup_same, xup_row, xup_ne_j, xsw_l, xsw_r]
  have y47 : y 81 47 = h 81 23 := by rw [← hy]; simp (disch := omega) only [↓if_pos, ↓if_neg, ↓xgd_pos, ↓xgb_pos, ↓xgc_pos, ↓xlet_eq, xc1_some, xc2_some, w32_id, xup_same, xup_row, xup_ne_j, xsw_l, xsw_r]
  have y5 : y 81 5 = h 5 2 := by rw [oy.2 5 (by decide)]; exact W.2.1
  rw [y5]
  by_cases z : h 5 2 = 0
  · rw [if_pos z]
    exact ⟨y, rfl, oy, y47, by rw [y39, z, bs_0], by rw [y40, z, lfs_0], fun v d v0 v1 => by omega⟩
  · rw [if_neg z]
    have l0 := LR_w W (show (0 : Int) ≤ 0 by omega) (show 0 < h 5 2 by omega)
    have sh0 : shW h 0 = -1 := by unfold shW; rw [if_pos rfl]
    have ct0 := ct_b (h := h) (q := pB h) (m := h 81 23) (b := b) (w := 0) l0.2.1
    have ps0 : ps h (pB h) (h 81 23) b 0 0 = 0 := by unfold ps; rw [bs_0, sh0]; rfl
    generalize hpp : pad 0 (y 97) = pp
    have lpp : LR 0 pp := by rw [← hpp]; exact LR_p (by omega) (by omega) (fun k z1 z2 => by omega)
    obtain ⟨lf, g, t1, t2, t3, t4, t5, ⟨t6, t7, t8, t9, t10, t11⟩, -, t13⟩ := m_meets (h := h) (y := y) (b := b) (d := 0) (wd := 0) (i := 0) oy hP hS W hB (by omega) (by omega) y39 (by omega) (by omega) (by omega) (by omega) (fun k z1 z2 => by omega) (fun x j x0 x1 => by omega)
    rw [hpp] at t2 t8 t11 t13
    have app : ∀ k, 0 ≤ k → k < 0 → pp k = rp h 5 0 k := fun k z1 z2 => by omega
    have gpp : ∀ j, 0 ≤ j → j ≤ h 81 23 → Gs h (pB h) pp 0 j = Gs h (pB h) (rp h 5 0) 0 j := fun j j0 j1 => Gs_agr hP hS lpp l0 (LR_B hB) (Int.le_refl _) l0.1 app (by omega) (by omega) j0 j1
    have t2' : lf = 1 ∧ lft h (pB h) (h 81 23) b (rp h 5 0) 0 ∨ lf = 0 ∧ ¬ lft h (pB h) (h 81 23) b (rp h 5 0) 0 := by
      have := lft_agr (b := b) hP hS (LR_B hB) lpp l0 (Int.le_refl _) l0.1 app (d := 0) (Int.le_refl _)
      rcases t2 with ⟨u1, u2⟩ | ⟨u1, u2⟩
      · exact Or.inl ⟨u1, this.1 u2⟩
      · exact Or.inr ⟨u1, fun z => u2 (this.2 z)⟩
    obtain ⟨mk1, mk2⟩ := MK_new (h := h) (y := g) (b := b) (a := 0) (e := h 5 2) (D := 0) (lf := lf) hP hS W hB (by omega) (by omega) (by omega) (by omega) (fun w w0 w1 => ⟨(LR_w W w0 w1).1, fun x x0 x1 => by omega⟩) (by omega) ct0.1 t2' (by rw [ps0]; exact t4) (by rw [t5, y40, lfs_0]) (fun v d v0 v1 v2 v3 v4 => by
      have hv : v = 0 ∧ d = 0 := by
        by_cases c : v = 0
        · subst c; omega
        · omega
      obtain ⟨rfl, rfl⟩ := hv
      rw [ps0]
      refine ⟨t6, by rw [t7, if_pos rfl, if_pos rfl], ?_, ?_, ?_, fun j j0 j1 => ?_⟩
      · rw [t8]
        exact lsG_agr hP hS (LR_B hB) lpp l0 (Int.le_refl _) l0.1 app (by omega) (Int.le_refl _)
      · rw [t9]
        rcases t2' with ⟨u1, u2⟩ | ⟨u1, u2⟩
        · have ec : ct h (pB h) (h 81 23) b 0 = 0 := ct_eq l0.2.1 (by omega) l0.1 (fun x x0 x1 => by omega) u2
          rw [if_pos ec.symm, u1]
        · have hne : ¬ (0 = ct h (pB h) (h 81 23) b 0) := fun z => u2 (by
            have := ct_lft (h := h) (q := pB h) (m := h 81 23) (b := b) (w := 0) (by rw [← z]; exact l0.1) l0.2.1
            rw [← z] at this
            exact this)
          rw [if_neg hne, u1]
      · rw [t10, if_neg (by have := (Wd_len W (show (0 : Int) ≤ 0 by omega) (show 0 < h 5 2 by omega)).1; omega)]
      · rw [t11 j j0 j1]
        exact gpp j j0 j1)
    generalize hg4 : xup (xup (xup g 118 0 0) 119 0 (h 5 2)) 120 0 (if lf = 0 then 0 else h 5 2) = g4
    have g4r : ∀ o, o ≠ 118 → o ≠ 119 → o ≠ 120 → g4 o = g o := fun o z1 z2 z3 => by rw [← hg4, xup_row z3, xup_row z2, xup_row z1]
    have q118 : g4 118 0 = 0 := by rw [← hg4, xup_row (by decide), xup_row (by decide), xup_same]
    have q119 : g4 119 0 = h 5 2 := by rw [← hg4, xup_row (by decide), xup_same]
    have q120 : g4 120 0 = if lf = 0 then 0 else h 5 2 := by rw [← hg4, xup_same]
    have og4 : off [97, 110, 111, 112, 113, 114, 115, 116, 118, 119, 120] [22, 39, 40, 47, 83, 84] h g4 := by
      rw [← hg4]
      exact off_w (off_tr oy (off_tr t3 (off_tr (off_up (by decide)) (off_tr (off_up (by decide)) (off_up (by decide)))))) (by decide) (by decide)
    have go : (xc2 (f_Md_meets 0 b 0 y) (fun r4 h5 => xgd 0 13 (xlet (xup h5 118 0 0) (fun h6 => xgd 0 13 (xlet (xup h6 119 0 (h6 81 5)) (fun h7 => if r4 = 0 then (f_Md_walk_70 b 0 0 0 h7) else (f_Md_walk_70 b 0 0 (h7 81 5) h7)))))) : Option xH) = f_Md_walk_71 b 0 g4 := by
      have g5 : g 81 5 = h 5 2 := by rw [t3.2 5 (by decide)]; exact y5
      rw [t1, xc2_some, xgd_pos (by decide) (by decide), xlet_eq, xgd_pos (by decide) (by decide), xlet_eq, xup_row (o' := 81) (by decide), xup_row (o' := 81) (by decide), xup_row (o' := 81) (by decide), g5]
      unfold f_Md_walk_70
      rcases t2' with ⟨u1, u2⟩ | ⟨u1, u2⟩
      · rw [if_neg (by omega)] at hg4
        rw [if_neg (by omega), xgd_pos (by decide) (by decide), xlet_eq, hg4]
      · rw [if_pos u1] at hg4
        rw [if_pos u1, xgd_pos (by decide) (by decide), xlet_eq, hg4]
    have i47 : g4 81 47 = h 81 23 := by
      rw [g4r 81 (by decide) (by decide) (by decide), t3.2 47 (by decide)]; exact y47
    have iF : ∀ d, 0 ≤ d → d ≤ 0 → FR h g4 b d := fun d d0 d1 => by
      have : d = 0 := by omega
      subst this
      unfold FR
      rw [q118, q119, q120]
      refine ⟨by omega, by omega, by omega, by split <;> omega, by split <;> omega, fun w w0 w1 => ⟨(LR_w W w0 w1).1, fun k k0 k1 => by omega⟩, by omega, ct0.1, fun c => ?_⟩
      by_cases c' : lf = 0
      · rw [if_pos c']
        exact ⟨mk2 c', by omega⟩
      · rw [if_neg c'] at c
        omega
    have iR : ∀ x j, 0 ≤ x → x ≤ 0 → 0 ≤ j → j ≤ h 81 23 → g4 116 (13 * x + j) = Gs h (pB h) (rp h 5 (g4 118 0)) x j := fun x j x0 x1 j0 j1 => by
      have : x = 0 := by omega
      subst this
      rw [q118, g4r 116 (by decide) (by decide) (by decide), t13 0 j x0 x1 j0 j1]
      exact gpp j j0 j1
    have iK : MK h g4 b (g4 120 0) (g4 119 0) 0 := by
      rw [q119, q120]
      exact MK_cg (fun o z1 z2 => g4r o (by omega) (by omega) (by omega)) (by rw [g4r 81 (by decide) (by decide) (by decide)]) (by rw [g4r 81 (by decide) (by decide) (by decide)]) mk1
    rw [go]
    unfold f_Md_walk_71
    obtain ⟨r, e, hr⟩ := xloop_W (step := fun s : Int × xH => f_Md_walk_s71 b s.1 s.2) (I := fun s => s.1 = -1 ∧ WE h b s.2 ∨ 0 ≤ s.1 ∧ s.1 ≤ 12 ∧ WI h b s.1 s.2 ∧ MK h s.2 b (s.2 120 s.1) (s.2 119 s.1) s.1) (fun s => wmu (h 5 2) s.1 (s.2 120 s.1) (s.2 119 s.1)) (post := fun r => WE h b r) (s := (0, g4)) (by
      rintro ⟨D, y⟩ hI
      dsimp only at hI ⊢
      unfold f_Md_walk_s71
      rcases hI with ⟨rfl, hE⟩ | ⟨D0, D1, hI, hk⟩
      · right
        exact ⟨y, by rw [if_pos (by decide)], hE⟩
      · left
        have hf := hI.2.2.1 D D0 (Int.le_refl _)
        obtain ⟨P1, S1, W1, B1, r1, r2, r3, r4, r5, r6, r7, r8, r9, r10, r11⟩ := wm_fr hI.1 hP hS W hB
        obtain ⟨a0, s1, s2, s3, s4, s5⟩ := w_skip W hf hk D0
        obtain ⟨f0, f1, f2, f3, f4, f5, f6, f7, f8⟩ := hf
        have e0 : (if D < 0 then some (Sum.inr y) else xgd D 13 (xlet (y 120 D) (fun x1 => xgd D 13 (if x1 < y 119 D then (xgd x1 200 (if y 85 x1 = D then (xlet (w32 (x1 + 1)) (fun x2 => f_Md_walk_108 b D x2 y)) else (f_Md_walk_108 b D x1 y))) else (f_Md_walk_108 b D x1 y)))) : Option ((Int × xH) ⊕ xH)) = f_Md_walk_108 b D a0 y := by
          rw [if_neg (by omega), xgd_pos D0 (by omega), xlet_eq, xgd_pos D0 (by omega)]
          have e85 : y 120 D < y 119 D → y 85 (y 120 D) = h 7 (y 120 D) := fun z => by rw [r10]; exact (W.2.2.1 _ (by omega) (by omega)).1
          rcases s1 with ⟨u1, u2⟩ | ⟨u1, u2, u3⟩
          · by_cases c : y 120 D < y 119 D
            · rw [if_pos c, xgd_pos (by omega) (by omega), e85 c, if_neg (fun z => u2 ⟨c, z⟩), u1]
            · rw [if_neg c, u1]
          · rw [if_pos u2, xgd_pos (by omega) (by omega), e85 u2, if_pos u3, w32_id (by omega) (by omega), xlet_eq, u1]
        rw [e0]
        by_cases c : a0 < y 119 D
        · obtain ⟨c1, c2, c3⟩ := s4 c
          obtain ⟨g', d1, d2, d3, d4, d5⟩ := w_down hP hS W hB D0 D1 hI s2 (by omega) c c1 c2 c3
          have hf' := d3.2.2.1 (D + 1) (by omega) (Int.le_refl _)
          obtain ⟨f0', f1', f2', f3', f4', -⟩ := hf'
          refine ⟨(D + 1, g'), d1, Or.inr ⟨by dsimp only; omega, d2, d3, d4⟩, ?_⟩
          dsimp only
          have old : wmu (h 5 2) D (y 120 D) (y 119 D) = ((h 5 2 - y 120 D) * 40 + (13 - D) + 1).toNat := wmu_o D0 (by omega)
          rcases d5 with ⟨d5, d6⟩ | d5
          · rw [wmu_o (by omega) (by omega), d5, old]
            omega
          · have := wmu_l (N := h 5 2) (D := D + 1) (a := g' 120 (D + 1)) (t := g' 119 (D + 1)) (by omega) (by omega)
            omega
        · have ea : a0 = y 119 D := by omega
          rw [ea] at s2
          refine ⟨(D - 1, y), ?_, ?_, ?_⟩
          · unfold f_Md_walk_108
            rw [xgd_pos D0 (by omega), if_neg c, w32_id (by omega) (by omega), xlet_eq]
            rfl
          · dsimp only
            rcases w_pop hP hS W hB D0 D1 hI s2 with ⟨u1, u2⟩ | ⟨u1, u2, u3, u4⟩
            · exact Or.inl ⟨by omega, u2⟩
            · exact Or.inr ⟨by omega, by omega, u2, u4⟩
          · dsimp only
            rcases w_pop hP hS W hB D0 D1 hI s2 with ⟨u1, u2⟩ | ⟨u1, u2, u3, u4⟩
            · rw [wmu_n (by omega)]
              by_cases z : y 120 D < y 119 D
              · rw [wmu_o D0 z]; omega
              · rw [wmu_c D0 z]; omega
            · have hf' := u2.2.2.1 (D - 1) (by omega) (Int.le_refl _)
              obtain ⟨f0', f1', f2', f3', f4', -⟩ := hf'
              have new := wmu_l (N := h 5 2) (D := D - 1) (a := y 120 (D - 1)) (t := y 119 (D - 1)) (by omega) (by omega)
              rcases s1 with ⟨v1, v2⟩ | ⟨v1, v2, v3⟩
              · rw [wmu_c (D := D) D0 (by omega)]
                omega
              · rw [wmu_o (D := D) D0 v2]
                omega) (Or.inr ⟨by dsimp only; omega, by dsimp only; omega, ⟨og4, i47, iF, fun d d0 d1 => by dsimp only at d1; omega, q119, iR⟩, iK⟩)
    rw [e, xc1_some]
    exact ⟨r, rfl, hr⟩
