/-! THE CLASS'S WALK: from a depth on, down one word -/
noncomputable def CR (h g : xH) (p : Int → Int) (x : Int) : Prop := ∀ d, 0 ≤ d → d < x → (∀ j, 0 ≤ j → j ≤ h 23 1 → g 57 (d * 13 + j) = Gs h (tp h 23) p d j) ∧ g 58 d = lsG h (tp h 23) (h 23 1) p d ∧ g 59 d = mnf (fun k => Gs h (tp h 23) p k (h 23 1)) (d + 1).toNat
noncomputable def CNd (h g : xH) (b i w d : Int) : Prop := g 50 i = d ∧ g 51 i = (if d = 0 then -1 else rp h 5 w (d - 1)) ∧ g 52 i = (if d = h 7 w then 1 else 0) ∧ g 53 i = (if d = ct h (tp h 23) (h 23 1) b w then 1 else 0) ∧ ∀ j, 0 ≤ j → j ≤ h 23 1 → g 54 (i * 13 + j) = Gs h (tp h 23) (rp h 5 w) d j
noncomputable def CK (h g : xH) (b w x : Int) : Prop := g 49 7 = h 23 1 + 1 ∧ ∀ v d, 0 ≤ v → v ≤ w → v < h 5 2 → shW h v < d → d ≤ dpt h (tp h 23) (h 23 1) b v → (v = w → d < x) → CNd h g b (ps h (tp h 23) (h 23 1) b v d) v d
theorem CR_cg {h g g' : xH} {p : Int → Int} {x : Int} (e1 : g' 57 = g 57) (e2 : g' 58 = g 58) (e3 : g' 59 = g 59) (hc : CR h g p x) : CR h g' p x := by
  unfold CR
  rw [e1, e2, e3]
  exact hc
theorem CK_cg {h g g' : xH} {b w x : Int} (e : ∀ y, 49 ≤ y → y ≤ 54 → g' y = g y) (hc : CK h g b w x) : CK h g' b w x := by
  unfold CK CNd
  rw [e 49 (by decide) (by decide), e 50 (by decide) (by decide), e 51 (by decide) (by decide), e 52 (by decide) (by decide), e 53 (by decide) (by decide), e 54 (by decide) (by decide)]
  exact hc
/-- what the walk doesn't change -/
theorem wk_fr {h g : xH} (og : off [49, 50, 51, 52, 53, 54, 55, 56, 57, 58, 59, 60, 61] [] h g) (hP : Pr h) (hS : So h) (W : Wd0 h) (hT : TQ 23 h) : Pr g ∧ So g ∧ Wd0 g ∧ TQ 23 g ∧ sp g = sp h ∧ tA g = tA h ∧ tB g = tB h ∧ tp g 23 = tp h 23 ∧ g 14 = h 14 ∧ g 23 = h 23 ∧ g 5 = h 5 ∧ g 6 = h 6 ∧ g 7 = h 7 := by
  have e : ∀ x, x ≤ 48 → g x = h x := fun x a => og.1 x (by omega) (fun z => by simp at z; omega)
  have e2 : ∀ x, 10 ≤ x → x ≤ 20 → g x = h x := fun x a b => e x (by omega)
  refine ⟨Pr_off og (by decide) hP, So_off og (by decide) hS, Wd0_off og (by decide) W, ?_, sp_cg e2, tA_cg e2, tB_cg e2, ?_, e 14 (by decide), e 23 (by decide), e 5 (by decide), e 6 (by decide), e 7 (by decide)⟩
  · unfold TQ; rw [e 23 (by decide), e (23 + 1) (by decide)]; exact hT
  · unfold tp; rw [e 23 (by decide), e (23 + 1) (by decide)]
theorem s_descend {h g : xH} {w b kp : Int} (hP : Pr h) (hS : So h) (W : Wd0 h) (hT : TQ 23 h) (w0 : 0 ≤ w) (w1 : w < h 5 2) (og : off [49, 50, 51, 52, 53, 54, 55, 56, 57, 58, 59, 60, 61] [] h g) (e55 : g 55 1 = h 7 w) (p55 : tp g 55 = rp h 5 w) (hR : CR h g (rp h 5 w) (shW h w + 1))
    (hN : ∀ d, 0 ≤ d → d ≤ shW h w → ¬ lft h (tp h 23) (h 23 1) b (rp h 5 w) d)
    (hK : kp ≠ 0 → CK h g b w (shW h w + 1) ∧ g 49 5 = bs h (tp h 23) (h 23 1) b w ∧ g 49 6 = lfs h (tp h 23) (h 23 1) b w) :
    ∃ g', f_Walk_descend (shW h w + 1) 23 b kp g = some (ct h (tp h 23) (h 23 1) b w, g') ∧ off [49, 50, 51, 52, 53, 54, 55, 56, 57, 58, 59, 60, 61] [] h g' ∧ (g' 55 = g 55 ∧ g' 56 = g 56 ∧ g' 60 = g 60 ∧ g' 61 = g 61) ∧ CR h g' (rp h 5 w) (dpt h (tp h 23) (h 23 1) b w + 1) ∧
      (kp ≠ 0 → CK h g' b w 14 ∧ g' 49 5 = bs h (tp h 23) (h 23 1) b (w + 1) ∧ g' 49 6 = lfs h (tp h 23) (h 23 1) b (w + 1)) ∧ (kp = 0 → ∀ x, 49 ≤ x → x ≤ 54 → g' x = g x) := by
  have lw := LR_w W w0 w1
  have lq := LR_t hT
  have ls := shW_lt W w0 w1
  have dw := dpt_b (q := tp h 23) (m := h 23 1) (b := b) W w0 w1
  have cb := ct_b (h := h) (q := tp h 23) (m := h 23 1) (b := b) (w := w) lw.2.1
  have m0 := lq.1
  have m1 := lq.2.1
  have N200 := Wd_n W
  have lf0 := lfs_bd (h := h) (q := tp h 23) (m := h 23 1) (b := b) w0
  generalize hm : h 23 1 = m at *
  generalize hqq : tp h 23 = q at *
  unfold f_Walk_descend f_Walk_descend_7
  rw [show max (shW h w + 1) 0 = shW h w + 1 by omega, xlet_eq]
  obtain ⟨r, e, hr⟩ := xloop_W (step := fun s : Int × xH => f_Walk_descend_s7 23 b kp s.1 s.2)
    (I := fun s => shW h w + 1 ≤ s.1 ∧ s.1 ≤ h 7 w + 1 ∧ off [49, 50, 51, 52, 53, 54, 55, 56, 57, 58, 59, 60, 61] [] h s.2 ∧ (s.2 55 = g 55 ∧ s.2 56 = g 56 ∧ s.2 60 = g 60 ∧ s.2 61 = g 61) ∧ CR h s.2 (rp h 5 w) s.1 ∧ (∀ d, 0 ≤ d → d < s.1 → ¬ lft h q m b (rp h 5 w) d) ∧ (kp ≠ 0 → CK h s.2 b w s.1 ∧ s.2 49 5 = bs h q m b w + (s.1 - shW h w - 1) ∧ s.2 49 6 = lfs h q m b w) ∧ (kp = 0 → ∀ x, 49 ≤ x → x ≤ 54 → s.2 x = g x)) (fun s => (h 7 w + 1 - s.1).toNat)
    (post := fun r => ∃ g', (r = Sum.inl g' ∧ ct h q m b w = 13 ∨ r = Sum.inr (ct h q m b w, g')) ∧ off [49, 50, 51, 52, 53, 54, 55, 56, 57, 58, 59, 60, 61] [] h g' ∧ (g' 55 = g 55 ∧ g' 56 = g 56 ∧ g' 60 = g 60 ∧ g' 61 = g 61) ∧ CR h g' (rp h 5 w) (dpt h q m b w + 1) ∧
      (kp ≠ 0 → CK h g' b w 14 ∧ g' 49 5 = bs h q m b (w + 1) ∧ g' 49 6 = lfs h q m b (w + 1)) ∧ (kp = 0 → ∀ x, 49 ≤ x → x ≤ 54 → g' x = g x)) (s := (shW h w + 1, g)) (by
      rintro ⟨x, y⟩ hI
      dsimp only at hI ⊢
      obtain ⟨x0, x1, oy, ⟨f1, f2, f3, f4⟩, yR, yN, yK, yZ⟩ := hI
      obtain ⟨P1, S1, W1, T1, r1, r2, r3, r4, r5, r6, r7, r8, r9⟩ := wk_fr oy hP hS W hT
      have y55 : y 55 1 = h 7 w := by rw [f1]; exact e55
      have yp : tp y 55 = rp h 5 w := by unfold tp at p55 ⊢; rw [f1, show (55 + 1 : Int) = 56 from rfl, f2]; exact p55
      unfold f_Walk_descend_s7
      rw [y55]
      by_cases z : h 7 w < x
      · right
        have c13 : ct h q m b w = 13 := ct_13 lw.2.1 (fun d d0 d1 => yN d d0 (by omega))
        have ed : dpt h q m b w = h 7 w := by unfold dpt; omega
        have es := bs_s (h := h) (q := q) (m := m) (b := b) w0
        have el := lfs_s (h := h) (q := q) (m := m) (b := b) w0
        rw [if_neg (by omega)] at el
        refine ⟨Sum.inl y, by rw [if_pos z], y, Or.inl ⟨rfl, c13⟩, oy, ⟨f1, f2, f3, f4⟩, by rw [ed, show h 7 w + 1 = x by omega]; exact yR, fun k0 => ?_, yZ⟩
        obtain ⟨k1, k2, k3⟩ := yK k0
        refine ⟨⟨k1.1, fun v d v0 v1 v2 v3 v4 v5 => k1.2 v d v0 v1 v2 v3 v4 (fun e => ?_)⟩, by omega, by omega⟩
        subst e
        rw [hqq, hm] at v4
        omega
      · rw [if_neg z, if_pos (by omega)]
        have T55 : TQ 55 y := by
          refine ⟨by omega, by omega, fun k k0 k1 => ?_⟩
          rw [y55] at k1
          have a := LR_in lw k0 k1
          rw [← yp] at a
          unfold tp at a
          rw [pad_in k0 (by omega)] at a
          exact a
        have eF : Fc y 23 = Gs h q (rp h 5 w) := by unfold Fc Gs; rw [r1, r2, r3, r4, r5, yp, hqq]
        have ym : y 23 1 = m := by rw [r6]; exact hm
        obtain ⟨y1, k1, k2, k3, k4⟩ := s_fill (h := y) (d := x) (u := 23) P1 S1 T55 T1 (by decide) (by decide) (by omega) (by omega) (fun a c a0 a1 c0 c1 => by
          rw [eF]
          have := (yR a a0 a1).1 c c0 (by rw [hm, ← ym]; exact c1)
          rw [hqq] at this
          exact this)
        rw [eF, ym] at k4
        have T1' : TQ 23 y1 := by unfold TQ; rw [k2 23 (by decide), k2 (23 + 1) (by decide)]; exact T1
        have y1m : y1 23 1 = m := by rw [k2 23 (by decide)]; exact ym
        have su := s_sumUp (h := y1) (d := x) (u := 23) T1' (by omega) (by omega)
        rw [k1, xc1_some, su, xc1_some]
        have v1 : mnf (fun j => y1 57 (x * 13 + j)) (y1 23 1 + 1).toNat = lsG h q m (rp h 5 w) x := by
          rw [y1m]
          unfold lsG
          exact mnf_ext fun j j0 j1 => k4 j j0 (by omega)
        have v2 : (if 0 < x then min (y1 57 (x * 13 + y1 23 1)) (y1 59 (x - 1)) else y1 57 (x * 13 + y1 23 1)) = mnf (fun k => Gs h q (rp h 5 w) k m) (x + 1).toNat := by
          have bd := Gs_b hP hS lw lq (i := x) (j := m) (by omega) (by omega) m0 (Int.le_refl _)
          rw [y1m, k4 m m0 (Int.le_refl _), k2 59 (by decide), show (x + 1).toNat = x.toNat + 1 by omega]
          show _ = min (mnf (fun k => Gs h q (rp h 5 w) k m) x.toNat) (Gs h q (rp h 5 w) ((x.toNat : Nat) : Int) m)
          rw [show ((x.toNat : Nat) : Int) = x by omega]
          by_cases c : 0 < x
          · have := (yR (x - 1) (by omega) (by omega)).2.2
            rw [hqq, hm, show x - 1 + 1 = x by omega] at this
            rw [if_pos c, this]
            omega
          · rw [if_neg c, show x = 0 by omega]
            show _ = min 1000000 _
            rw [show x = 0 by omega] at bd
            omega
        rw [v1, v2]
        generalize hy2 : xup (xup y1 58 x (lsG h q m (rp h 5 w) x)) 59 x (mnf (fun k => Gs h q (rp h 5 w) k m) (x + 1).toNat) = y2
        have z1 : ∀ o, o ≠ 57 → o ≠ 58 → o ≠ 59 → y2 o = y o := fun o a c e => by rw [← hy2, xup_row e, xup_row c, k2 o a]
        have R2 : CR h y2 (rp h 5 w) (x + 1) := fun d d0 d1 => by
          rw [hqq, hm]
          by_cases c : d = x
          · subst c
            refine ⟨fun j j0 j1 => ?_, ?_, ?_⟩
            · rw [← hy2, xup_row (by decide), xup_row (by decide)]; exact k4 j j0 j1
            · rw [← hy2, xup_row (by decide), xup_same]
            · rw [← hy2, xup_same]
          · obtain ⟨a1, a2, a3⟩ := yR d d0 (by omega)
            rw [hqq, hm] at a1 a2 a3
            refine ⟨fun j j0 j1 => ?_, ?_, ?_⟩
            · rw [← hy2, xup_row (by decide), xup_row (by decide), k3 _ (fun i i0 i1 => by rw [ym] at i1; omega)]; exact a1 j j0 j1
            · rw [← hy2, xup_row (by decide), xup_ne_j c, k2 58 (by decide)]; exact a2
            · rw [← hy2, xup_ne_j c, xup_row (by decide), k2 59 (by decide)]; exact a3
        have o2 : off [49, 50, 51, 52, 53, 54, 55, 56, 57, 58, 59, 60, 61] [] h y2 := ⟨fun o h0 hn => by rw [z1 o (fun z => hn (by simp [z])) (fun z => hn (by simp [z])) (fun z => hn (by simp [z]))]; exact oy.1 o h0 hn, fun j hj => by rw [z1 81 (by decide) (by decide) (by decide)]; exact oy.2 j hj⟩
        obtain ⟨lf, i1, i2⟩ := s_isLeft (h := y2) (d := x) (b := b) (by omega) (by omega)
        have i3 : (lf = 1 ∧ lft h q m b (rp h 5 w) x) ∨ (lf = 0 ∧ ¬ lft h q m b (rp h 5 w) x) := by
          rcases i2 with ⟨a, c⟩ | ⟨a, k, c1, c2, c3⟩
          · refine Or.inl ⟨a, fun k k0 k1 => ?_⟩
            have := c k k0 k1
            have d2 := (R2 k (by omega) (by omega)).2.1
            rw [hqq, hm] at d2
            rw [d2] at this
            exact this
          · refine Or.inr ⟨a, fun c => ?_⟩
            have := c k c1 c2
            have d2 := (R2 k (by omega) (by omega)).2.1
            rw [hqq, hm] at d2
            omega
        rw [i1, xc1_some]
        have cL : lf = 1 → ct h q m b w = x := fun a => by
          rcases i3 with ⟨_, c⟩ | ⟨c, _⟩
          · exact ct_eq lw.2.1 (by omega) (by omega) yN c
          · omega
        have cN : lf = 0 → x < ct h q m b w := fun a => by
          rcases i3 with ⟨c, _⟩ | ⟨_, c⟩
          · omega
          · have := ct_ge (h := h) (q := q) (m := m) (b := b) (w := w) (d := x + 1) lw.2.1 (by omega) (fun d d0 d1 d2 => by
              by_cases c' : d = x
              · rw [c']; exact c
              · exact yN d d0 (by omega))
            omega
        -- what the end of a depth does
        have fin : ∀ y3 : xH, off [49, 50, 51, 52, 53, 54, 55, 56, 57, 58, 59, 60, 61] [] h y3 → (∀ o, 55 ≤ o → o ≤ 61 → y3 o = y2 o) → (kp ≠ 0 → CK h y3 b w (x + 1) ∧ y3 49 5 = bs h q m b w + (x + 1 - shW h w - 1) ∧ y3 49 6 = lfs h q m b w + lf) → (kp = 0 → ∀ o, 49 ≤ o → o ≤ 54 → y3 o = y2 o) →
            (∃ s', f_Walk_descend_97 23 b kp x lf y3 = some (Sum.inl s') ∧ (shW h w + 1 ≤ s'.1 ∧ s'.1 ≤ h 7 w + 1 ∧ off [49, 50, 51, 52, 53, 54, 55, 56, 57, 58, 59, 60, 61] [] h s'.2 ∧ (s'.2 55 = g 55 ∧ s'.2 56 = g 56 ∧ s'.2 60 = g 60 ∧ s'.2 61 = g 61) ∧ CR h s'.2 (rp h 5 w) s'.1 ∧ (∀ d, 0 ≤ d → d < s'.1 → ¬ lft h q m b (rp h 5 w) d) ∧ (kp ≠ 0 → CK h s'.2 b w s'.1 ∧ s'.2 49 5 = bs h q m b w + (s'.1 - shW h w - 1) ∧ s'.2 49 6 = lfs h q m b w) ∧ (kp = 0 → ∀ x, 49 ≤ x → x ≤ 54 → s'.2 x = g x)) ∧ (h 7 w + 1 - s'.1).toNat < (h 7 w + 1 - x).toNat) ∨
            (∃ r, f_Walk_descend_97 23 b kp x lf y3 = some (Sum.inr r) ∧ ∃ g', (r = Sum.inl g' ∧ ct h q m b w = 13 ∨ r = Sum.inr (ct h q m b w, g')) ∧ off [49, 50, 51, 52, 53, 54, 55, 56, 57, 58, 59, 60, 61] [] h g' ∧ (g' 55 = g 55 ∧ g' 56 = g 56 ∧ g' 60 = g 60 ∧ g' 61 = g 61) ∧ CR h g' (rp h 5 w) (dpt h q m b w + 1) ∧
      (kp ≠ 0 → CK h g' b w 14 ∧ g' 49 5 = bs h q m b (w + 1) ∧ g' 49 6 = lfs h q m b (w + 1)) ∧ (kp = 0 → ∀ x, 49 ≤ x → x ≤ 54 → g' x = g x)) := by
          intro y3 o3 e3 K3 Z3
          have g3 : y3 55 = g 55 ∧ y3 56 = g 56 ∧ y3 60 = g 60 ∧ y3 61 = g 61 := ⟨by rw [e3 55 (by decide) (by decide), z1 55 (by decide) (by decide) (by decide)]; exact f1, by rw [e3 56 (by decide) (by decide), z1 56 (by decide) (by decide) (by decide)]; exact f2, by rw [e3 60 (by decide) (by decide), z1 60 (by decide) (by decide) (by decide)]; exact f3, by rw [e3 61 (by decide) (by decide), z1 61 (by decide) (by decide) (by decide)]; exact f4⟩
          have R3 : CR h y3 (rp h 5 w) (x + 1) := CR_cg (e3 57 (by decide) (by decide)) (e3 58 (by decide) (by decide)) (e3 59 (by decide) (by decide)) R2
          have Z4 : kp = 0 → ∀ o, 49 ≤ o → o ≤ 54 → y3 o = g o := fun k o a c => by rw [Z3 k o a c, z1 o (by omega) (by omega) (by omega)]; exact yZ k o a c
          unfold f_Walk_descend_97
          rcases i3 with ⟨a, c⟩ | ⟨a, c⟩
          · right
            have ec := cL a
            have ed : dpt h q m b w = x := by unfold dpt; omega
            have es := bs_s (h := h) (q := q) (m := m) (b := b) w0
            have el := lfs_s (h := h) (q := q) (m := m) (b := b) w0
            rw [if_pos (by omega)] at el
            refine ⟨Sum.inr (x, y3), by rw [if_neg (by omega)], y3, Or.inr (by rw [ec]), o3, g3, by rw [ed]; exact R3, fun k0 => ?_, Z4⟩
            obtain ⟨k1, k2, k3⟩ := K3 k0
            refine ⟨⟨k1.1, fun v d v0 v1 v2 v3 v4 v5 => k1.2 v d v0 v1 v2 v3 v4 (fun e => ?_)⟩, by omega, by omega⟩
            subst e
            rw [hqq, hm] at v4
            omega
          · left
            refine ⟨(x + 1, y3), by rw [if_pos a, w32_id (by omega) (by omega), xlet_eq], ⟨by dsimp only; omega, by dsimp only; omega, o3, g3, R3, fun d d0 d1 => ?_, fun k0 => ?_, Z4⟩, by dsimp only; omega⟩
            · dsimp only at d1
              by_cases c' : d = x
              · rw [c']; exact c
              · exact yN d d0 (by omega)
            · obtain ⟨k1, k2, k3⟩ := K3 k0
              exact ⟨k1, k2, by dsimp only; omega⟩
        by_cases k0 : kp = 0
        · rw [if_pos k0]
          exact fin y2 o2 (fun _ _ _ => rfl) (fun k => absurd k0 k) (fun _ _ _ _ => rfl)
        · rw [if_neg k0, w32_id (z := x - 1) (by omega) (by omega), s_Row_at, xc1_some]
          obtain ⟨K1, K2, K3⟩ := yK k0
          have y2m : y2 49 7 = m + 1 := by rw [z1 49 (by decide) (by decide) (by decide), ← hm]; exact K1.1
          have y255 : y2 55 1 = h 7 w := by rw [z1 55 (by decide) (by decide) (by decide)]; exact y55
          have lt : (if 0 ≤ x - 1 ∧ x - 1 < y2 55 1 ∧ x - 1 < 12 then y2 (55 + 1) (x - 1) else -1) = (if x = 0 then -1 else rp h 5 w (x - 1)) := by
            by_cases c : x = 0
            · rw [if_neg (by omega), if_pos c]
            · rw [if_pos (by omega), if_neg c, ← yp]
              unfold tp
              rw [pad_in (by omega) (by omega), z1 (55 + 1) (by decide) (by decide) (by decide)]
          rw [lt, y255]
          have wd : ∀ s3, s3 = (if x = h 7 w then 1 else 0) → ∃ y3, f_Walk_descend_88 23 b kp x lf x (if x = 0 then -1 else rp h 5 w (x - 1)) s3 y2 = f_Walk_descend_97 23 b kp x lf y3 ∧ off [49, 50, 51, 52, 53, 54, 55, 56, 57, 58, 59, 60, 61] [] h y3 ∧ (∀ o, 55 ≤ o → o ≤ 61 → y3 o = y2 o) ∧ (CK h y3 b w (x + 1) ∧ y3 49 5 = bs h q m b w + (x + 1 - shW h w - 1) ∧ y3 49 6 = lfs h q m b w + lf) := by
            intro s3 hs3
            have hdx : x ≤ dpt h q m b w := by
              unfold dpt
              rcases i3 with ⟨a, c⟩ | ⟨a, c⟩
              · have := cL a; omega
              · have := cN a; omega
            have pb := ps_b (q := q) (m := m) (b := b) W w0 w1 (d := x) (by omega) hdx
            have pe : ps h q m b w x = bs h q m b w + (x - shW h w - 1) := rfl
            obtain ⟨y3, l1, l2, l3, l4, l5, ⟨l6, l7, l8, l9, l10⟩, l11⟩ := s_keep (g := y2) (d := x) (lt := if x = 0 then -1 else rp h 5 w (x - 1)) (wd := s3) (lf := lf) (i := ps h q m b w x) (m := m) (by rw [z1 49 (by decide) (by decide) (by decide), K2, pe]) pb.1 pb.2.2.2 y2m m0 m1 (by rw [z1 49 (by decide) (by decide) (by decide), K3]; omega) (by omega) (by omega) (by rw [hs3]; split <;> omega) (by rcases i3 with ⟨a, _⟩ | ⟨a, _⟩ <;> omega)
            refine ⟨y3, by unfold f_Walk_descend_88; rw [l1, xc1_some], ⟨fun o h0 hn => ?_, fun j hj => ?_⟩, fun o a c => l2 o (by omega) (by omega) (by omega) (by omega) (by omega) (by omega), ⟨by rw [hm]; exact l5, fun v d v0 v1 v2 v3 v4 v5 => ?_⟩, by omega, ?_⟩
            · rw [l2 o (fun z => hn (by simp [z])) (fun z => hn (by simp [z])) (fun z => hn (by simp [z])) (fun z => hn (by simp [z])) (fun z => hn (by simp [z])) (fun z => hn (by simp [z]))]
              exact o2.1 o h0 hn
            · rw [l2 81 (by decide) (by decide) (by decide) (by decide) (by decide) (by decide)]
              exact o2.2 j hj
            · rw [hqq, hm] at v4 ⊢
              unfold CNd
              rw [hqq, hm]
              by_cases c : v = w ∧ d = x
              · obtain ⟨rfl, rfl⟩ := c
                refine ⟨l6, l7, by rw [l8, hs3], ?_, fun j j0 j1 => ?_⟩
                · rw [l9]
                  rcases i3 with ⟨a, _⟩ | ⟨a, _⟩
                  · rw [if_pos (cL a).symm, a]
                  · rw [if_neg (by have := cN a; omega), a]
                · rw [l10 j j0 j1]
                  have := (R2 d (by omega) (by omega)).1 j j0 (by rw [hm]; exact j1)
                  rw [hqq] at this
                  exact this
              · have pv := ps_b (q := q) (m := m) (b := b) W v0 v2 v3 v4
                have lt2 : ps h q m b v d < ps h q m b w x := by
                  by_cases c' : v = w
                  · have := v5 c'
                    have hd : d ≠ x := fun z => c ⟨c', z⟩
                    subst c'
                    unfold ps
                    omega
                  · have := bs_mono (h := h) (q := q) (m := m) (b := b) (v := v + 1) (w := w) (by omega) (by omega)
                    omega
                obtain ⟨n1, n2, n3, n4, n5⟩ := l11 _ pv.1 lt2
                have old := K1.2 v d v0 v1 v2 v3 (by rw [hqq, hm]; exact v4) (fun c' => by
                  have := v5 c'
                  have hd : d ≠ x := fun z => c ⟨c', z⟩
                  omega)
                unfold CNd at old
                rw [hqq, hm] at old
                rw [n1, n2, n3, n4, z1 50 (by decide) (by decide) (by decide), z1 51 (by decide) (by decide) (by decide), z1 52 (by decide) (by decide) (by decide), z1 53 (by decide) (by decide) (by decide)]
                refine ⟨old.1, old.2.1, old.2.2.1, old.2.2.2.1, fun j j0 j1 => ?_⟩
                rw [n5 j j0 j1, z1 54 (by decide) (by decide) (by decide)]
                exact old.2.2.2.2 j j0 j1
            · rw [l4, z1 49 (by decide) (by decide) (by decide), K3]
          by_cases c : x = h 7 w
          · rw [if_pos c]
            obtain ⟨y3, u1, u2, u3, u4⟩ := wd 1 (by rw [if_pos c])
            rw [u1]
            exact fin y3 u2 u3 (fun _ => u4) (fun k => absurd k k0)
          · rw [if_neg c]
            obtain ⟨y3, u1, u2, u3, u4⟩ := wd 0 (by rw [if_neg c])
            rw [u1]
            exact fin y3 u2 u3 (fun _ => u4) (fun k => absurd k k0)) ⟨Int.le_refl _, by dsimp only; omega, og, ⟨rfl, rfl, rfl, rfl⟩, hR, fun d d0 d1 => hN d d0 (by dsimp only at d1; omega), fun k => by
          obtain ⟨k1, k2, k3⟩ := hK k
          exact ⟨k1, by dsimp only; omega, k3⟩, fun _ _ _ _ => rfl⟩
  rw [e, xc1_some]
  obtain ⟨g', hr1, hr2⟩ := hr
  rcases hr1 with ⟨rfl, c13⟩ | rfl
  · refine ⟨g', ?_, hr2⟩
    rw [xsw_l, c13]
    rfl
  · exact ⟨g', by rw [xsw_r], hr2⟩
