/-! THE CLASS'S WALK: word by word -/
noncomputable def WH (h : xH) (q : Int → Int) (m b w : Int) : Int := if h 7 w ≤ ct h q m b w then Gs h q (rp h 5 w) (h 7 w) m else 1000000
noncomputable def BG (h : xH) (q : Int → Int) (m b w : Int) : Int := mnf (fun k => Gs h q (rp h 5 w) k m) (dpt h q m b w + 1).toNat
theorem shW_cg {h g : xH} (e6 : g 6 = h 6) (e7 : g 7 = h 7) {w : Int} : shW g w = shW h w := by
  unfold shW
  rw [rp_congr (h := h) (h' := g) (o := 5) (r := w) e6 e7, rp_congr (h := h) (h' := g) (o := 5) (r := w - 1) e6 e7, e7]
theorem CR_agr {h g : xH} (hP : Pr h) (hS : So h) (hT : TQ 23 h) {n n' k x : Int} {p p' : Int → Int} (hp : LR n p) (hp' : LR n' p') (k1 : k ≤ n) (k2 : k ≤ n') (ha : ∀ x, 0 ≤ x → x < k → p x = p' x) (hx : x ≤ k + 1) (hc : CR h g p x) : CR h g p' x := by
  have lq := LR_t hT
  intro d d0 d1
  obtain ⟨a1, a2, a3⟩ := hc d d0 d1
  refine ⟨fun j j0 j1 => ?_, ?_, ?_⟩
  · rw [a1 j j0 j1]
    exact Gs_agr hP hS hp hp' lq k1 k2 ha d0 (by omega) j0 j1
  · rw [a2]
    exact lsG_agr hP hS lq hp hp' k1 k2 ha d0 (by omega)
  · rw [a3]
    exact mnf_ext fun y y0 y1 => Gs_agr hP hS hp hp' lq k1 k2 ha y0 (by omega) lq.1 (Int.le_refl _)
theorem s_go109 {h g : xH} {w b kp : Int} (W : Wd0 h) (hT : TQ 23 h) (w0 : 0 ≤ w) (w1 : w < h 5 2) (og : off [49, 50, 51, 52, 53, 54, 55, 56, 57, 58, 59, 60, 61] [] h g) (e55 : g 55 1 = h 7 w) (hR : CR h g (rp h 5 w) (dpt h (tp h 23) (h 23 1) b w + 1)) :
    f_Walk_go_109 23 b kp (ct h (tp h 23) (h 23 1) b w) w g = some (Sum.inl (ct h (tp h 23) (h 23 1) b w, w + 1, xup (xup g 60 w (WH h (tp h 23) (h 23 1) b w)) 61 w (BG h (tp h 23) (h 23 1) b w))) := by
  have lq := LR_t hT
  have dw := dpt_b (q := tp h 23) (m := h 23 1) (b := b) W w0 w1
  have N200 := Wd_n W
  have m0 := lq.1
  have m1 := lq.2.1
  have e23 : g 23 1 = h 23 1 := by rw [og.1 23 (by decide) (by decide)]
  obtain ⟨r1, r2, r3⟩ := hR (dpt h (tp h 23) (h 23 1) b w) dw.1 (by omega)
  have r4 := r1 (h 23 1) m0 (Int.le_refl _)
  generalize hm : h 23 1 = m at *
  generalize hqq : tp h 23 = q at *
  have ed : min (ct h q m b w) (h 7 w) = dpt h q m b w := rfl
  unfold f_Walk_go_109
  rw [e55, e23, ed, xlet_eq, w32_id (z := dpt h q m b w * 13) (by omega) (by omega), w32_id (z := dpt h q m b w * 13 + m) (by omega) (by omega), xlet_eq]
  have hb : BG h q m b w = g 59 (dpt h q m b w) := r3.symm
  have tl : ∀ v, f_Walk_go_192 23 b kp (ct h q m b w) w (dpt h q m b w) w v g = some (Sum.inl (ct h q m b w, w + 1, xup (xup g 60 w v) 61 w (BG h q m b w))) := fun v => by
    unfold f_Walk_go_192 f_Walk_go_226
    rw [xgd_pos (by omega) (by omega), xlet_eq, if_neg (by omega), if_pos (by omega), xgd_pos (by omega) (by omega), xgd_pos (by omega) (by omega), xlet_eq, w32_id (by omega) (by omega), xlet_eq, xup_row (by decide), hb]
  by_cases z : dpt h q m b w = h 7 w
  · have e : WH h q m b w = g 57 (dpt h q m b w * 13 + m) := by
      unfold WH
      rw [if_pos (by unfold dpt at z; omega), r4, z]
    rw [if_pos z, if_neg (by omega), if_pos (by omega)]
    unfold f_Walk_go_167
    rw [if_neg (by omega), xgd_pos (by omega) (by omega), tl, e]
  · have e : WH h q m b w = 1000000 := by
      unfold WH
      rw [if_neg (by unfold dpt at z; omega)]
    rw [if_neg z]
    unfold f_Walk_go_166 f_Walk_go_167
    rw [if_pos rfl, tl, e]
theorem s_go {h : xH} {b kp : Int} (hP : Pr h) (hS : So h) (W : Wd0 h) (hT : TQ 23 h) : ∃ g, f_Walk_go 23 b kp h = some g ∧ off [49, 50, 51, 52, 53, 54, 55, 56, 57, 58, 59, 60, 61] [] h g ∧ (∀ v, 0 ≤ v → v < h 5 2 → g 60 v = WH h (tp h 23) (h 23 1) b v ∧ g 61 v = BG h (tp h 23) (h 23 1) b v) ∧
    (kp ≠ 0 → CK h g b (h 5 2 - 1) 14 ∧ g 49 5 = bs h (tp h 23) (h 23 1) b (h 5 2) ∧ g 49 6 = lfs h (tp h 23) (h 23 1) b (h 5 2)) ∧ (kp = 0 → ∀ x, 49 ≤ x → x ≤ 54 → g x = h x) := by
  have lq := LR_t hT
  have N200 := Wd_n W
  have m0 := lq.1
  have m1 := lq.2.1
  have main : ∀ g0 : xH, off [49, 50, 51, 52, 53, 54, 55, 56, 57, 58, 59, 60, 61] [] h g0 → (kp ≠ 0 → g0 49 7 = h 23 1 + 1 ∧ g0 49 5 = 0 ∧ g0 49 6 = 0) → (kp = 0 → ∀ x, 49 ≤ x → x ≤ 54 → g0 x = h x) → ∃ g, f_Walk_go_17 23 b kp g0 = some g ∧ off [49, 50, 51, 52, 53, 54, 55, 56, 57, 58, 59, 60, 61] [] h g ∧ (∀ v, 0 ≤ v → v < h 5 2 → g 60 v = WH h (tp h 23) (h 23 1) b v ∧ g 61 v = BG h (tp h 23) (h 23 1) b v) ∧
    (kp ≠ 0 → CK h g b (h 5 2 - 1) 14 ∧ g 49 5 = bs h (tp h 23) (h 23 1) b (h 5 2) ∧ g 49 6 = lfs h (tp h 23) (h 23 1) b (h 5 2)) ∧ (kp = 0 → ∀ x, 49 ≤ x → x ≤ 54 → g x = h x) := by
    intro g0 o0 K0 Z0
    unfold f_Walk_go_17 f_Walk_go_24
    obtain ⟨r, e, hr⟩ := xloop_W (step := fun s : Int × Int × xH => f_Walk_go_s24 23 b kp s.1 s.2.1 s.2.2)
      (I := fun s => 0 ≤ s.2.1 ∧ s.2.1 ≤ h 5 2 ∧ off [49, 50, 51, 52, 53, 54, 55, 56, 57, 58, 59, 60, 61] [] h s.2.2 ∧ (s.2.1 = 0 ∧ s.1 = 13 ∨ 1 ≤ s.2.1 ∧ s.1 = ct h (tp h 23) (h 23 1) b (s.2.1 - 1) ∧ CR h s.2.2 (rp h 5 (s.2.1 - 1)) (dpt h (tp h 23) (h 23 1) b (s.2.1 - 1) + 1)) ∧ (∀ v, 0 ≤ v → v < s.2.1 → s.2.2 60 v = WH h (tp h 23) (h 23 1) b v ∧ s.2.2 61 v = BG h (tp h 23) (h 23 1) b v) ∧
        (kp ≠ 0 → CK h s.2.2 b (s.2.1 - 1) 14 ∧ s.2.2 49 5 = bs h (tp h 23) (h 23 1) b s.2.1 ∧ s.2.2 49 6 = lfs h (tp h 23) (h 23 1) b s.2.1) ∧ (kp = 0 → ∀ x, 49 ≤ x → x ≤ 54 → s.2.2 x = h x)) (fun s => (h 5 2 - s.2.1).toNat)
      (post := fun g => off [49, 50, 51, 52, 53, 54, 55, 56, 57, 58, 59, 60, 61] [] h g ∧ (∀ v, 0 ≤ v → v < h 5 2 → g 60 v = WH h (tp h 23) (h 23 1) b v ∧ g 61 v = BG h (tp h 23) (h 23 1) b v) ∧
        (kp ≠ 0 → CK h g b (h 5 2 - 1) 14 ∧ g 49 5 = bs h (tp h 23) (h 23 1) b (h 5 2) ∧ g 49 6 = lfs h (tp h 23) (h 23 1) b (h 5 2)) ∧ (kp = 0 → ∀ x, 49 ≤ x → x ≤ 54 → g x = h x)) (s := (13, 0, g0)) (by
        rintro ⟨c, w, y⟩ hI
        dsimp only at hI ⊢
        obtain ⟨w0, w1, oy, yC, yV, yK, yZ⟩ := hI
        obtain ⟨P1, S1, W1, T1, r1, r2, r3, r4, r5, r6, r7, r8, r9⟩ := wk_fr oy hP hS W hT
        unfold f_Walk_go_s24
        rw [r7]
        by_cases z : w < h 5 2
        · left
          have lw := LR_w W w0 z
          have ls := shW_lt W w0 z
          have dw := dpt_b (q := tp h 23) (m := h 23 1) (b := b) W w0 z
          have cb := ct_b (h := h) (q := tp h 23) (m := h 23 1) (b := b) (w := w) lw.2.1
          rw [if_pos z, if_pos (by omega), if_pos (by omega), s_Rows_copyTo (t := 55) W1.1 w0 (by rw [r7]; exact z) (by unfold apart; decide), xc1_some]
          generalize hy1 : hRow 55 (y (5 + 2) w) (fun k => y (5 + 1) (w * 12 + k)) y = y1
          have z1 : ∀ x, x ≠ 55 → x ≠ 56 → y1 x = y x := fun x a c => by rw [← hy1]; exact hRow_row a c
          have o1 : off [49, 50, 51, 52, 53, 54, 55, 56, 57, 58, 59, 60, 61] [] h y1 := ⟨fun x h0 hn => by rw [z1 x (fun z => hn (by simp [z])) (fun z => hn (by simp [z]))]; exact oy.1 x h0 hn, fun j hj => by rw [z1 81 (by decide) (by decide)]; exact oy.2 j hj⟩
          have e55 : y1 55 1 = h 7 w := by rw [← hy1, hRow_size, show (5 + 2 : Int) = 7 from rfl, r9]
          have p55 : tp y1 55 = rp h 5 w := by
            unfold tp rp
            rw [e55]
            refine pad_ext rfl (fun k k0 k1 => ?_)
            rw [← hy1, hRow_let k0 (by rw [show (5 + 2 : Int) = 7 from rfl, r9]; exact k1), show (5 + 1 : Int) = 6 from rfl, r8]
          obtain ⟨-, -, W1', -⟩ := wk_fr o1 hP hS W hT
          rw [s_shared W1' w0 (by rw [z1 5 (by decide) (by decide), r7]; exact z), xc1_some, shW_cg (h := h) (by rw [z1 6 (by decide) (by decide), r8]) (by rw [z1 7 (by decide) (by decide), r9])]
          -- what the end of a word does
          have fin : ∀ y2 : xH, off [49, 50, 51, 52, 53, 54, 55, 56, 57, 58, 59, 60, 61] [] h y2 → y2 55 = y1 55 → y2 60 = y1 60 → y2 61 = y1 61 → CR h y2 (rp h 5 w) (dpt h (tp h 23) (h 23 1) b w + 1) → (kp ≠ 0 → CK h y2 b w 14 ∧ y2 49 5 = bs h (tp h 23) (h 23 1) b (w + 1) ∧ y2 49 6 = lfs h (tp h 23) (h 23 1) b (w + 1)) → (kp = 0 → ∀ x, 49 ≤ x → x ≤ 54 → y2 x = y1 x) →
              ∃ s', f_Walk_go_109 23 b kp (ct h (tp h 23) (h 23 1) b w) w y2 = some (Sum.inl s') ∧ (0 ≤ s'.2.1 ∧ s'.2.1 ≤ h 5 2 ∧ off [49, 50, 51, 52, 53, 54, 55, 56, 57, 58, 59, 60, 61] [] h s'.2.2 ∧ (s'.2.1 = 0 ∧ s'.1 = 13 ∨ 1 ≤ s'.2.1 ∧ s'.1 = ct h (tp h 23) (h 23 1) b (s'.2.1 - 1) ∧ CR h s'.2.2 (rp h 5 (s'.2.1 - 1)) (dpt h (tp h 23) (h 23 1) b (s'.2.1 - 1) + 1)) ∧ (∀ v, 0 ≤ v → v < s'.2.1 → s'.2.2 60 v = WH h (tp h 23) (h 23 1) b v ∧ s'.2.2 61 v = BG h (tp h 23) (h 23 1) b v) ∧
        (kp ≠ 0 → CK h s'.2.2 b (s'.2.1 - 1) 14 ∧ s'.2.2 49 5 = bs h (tp h 23) (h 23 1) b s'.2.1 ∧ s'.2.2 49 6 = lfs h (tp h 23) (h 23 1) b s'.2.1) ∧ (kp = 0 → ∀ x, 49 ≤ x → x ≤ 54 → s'.2.2 x = h x)) ∧ (h 5 2 - s'.2.1).toNat < (h 5 2 - w).toNat := by
            intro y2 o2 e1 e2 e3 R2 K2 Z2
            refine ⟨_, s_go109 W hT w0 z o2 (by rw [e1]; exact e55) R2, ⟨by dsimp only; omega, by dsimp only; omega, off_w (off_tr o2 (off_tr (off_up (by decide)) (off_up (by decide)))) (by decide) (by decide), Or.inr ⟨by dsimp only; omega, ?_, ?_⟩, fun v v0 v1 => ?_, fun k0 => ?_, fun k0 x a c => ?_⟩, by dsimp only; omega⟩
            · dsimp only; rw [show w + 1 - 1 = w by omega]
            · dsimp only
              rw [show w + 1 - 1 = w by omega]
              exact CR_cg (by rw [xup_row (by decide), xup_row (by decide)]) (by rw [xup_row (by decide), xup_row (by decide)]) (by rw [xup_row (by decide), xup_row (by decide)]) R2
            · dsimp only at v1 ⊢
              by_cases c' : v = w
              · subst c'
                exact ⟨by rw [xup_row (by decide), xup_same], by rw [xup_same]⟩
              · obtain ⟨a1, a2⟩ := yV v v0 (by omega)
                exact ⟨by rw [xup_row (by decide), xup_ne_j c', e2, z1 60 (by decide) (by decide)]; exact a1, by rw [xup_ne_j c', xup_row (by decide), e3, z1 61 (by decide) (by decide)]; exact a2⟩
            · dsimp only
              obtain ⟨k1, k2, k3⟩ := K2 k0
              refine ⟨?_, ?_, ?_⟩
              · rw [show w + 1 - 1 = w by omega]
                exact CK_cg (fun o a c => by rw [xup_row (by omega), xup_row (by omega)]) k1
              · rw [xup_row (by decide), xup_row (by decide)]; exact k2
              · rw [xup_row (by decide), xup_row (by decide)]; exact k3
            · dsimp only
              rw [xup_row (by omega), xup_row (by omega), Z2 k0 x a c, z1 x (by omega) (by omega)]
              exact yZ k0 x a c
          have KC : kp ≠ 0 → CK h y1 b w (shW h w + 1) ∧ y1 49 5 = bs h (tp h 23) (h 23 1) b w ∧ y1 49 6 = lfs h (tp h 23) (h 23 1) b w := fun k0 => by
            obtain ⟨k1, k2, k3⟩ := yK k0
            have k1' := CK_cg (g' := y1) (fun o a c => z1 o (by omega) (by omega)) k1
            refine ⟨⟨k1'.1, fun v d v0 v1 v2 v3 v4 v5 => ?_⟩, by rw [z1 49 (by decide) (by decide)]; exact k2, by rw [z1 49 (by decide) (by decide)]; exact k3⟩
            by_cases c' : v = w
            · have := v5 c'
              subst c'
              omega
            · have dv := dpt_b (q := tp h 23) (m := h 23 1) (b := b) W v0 v2
              exact k1'.2 v d v0 (by omega) v2 v3 v4 (fun _ => by omega)
          by_cases c2 : shW h w < c
          · have hd := s_descend (h := h) (g := y1) (w := w) (b := b) (kp := kp) hP hS W hT w0 z o1 e55 p55 (by
              rcases yC with ⟨a1, a2⟩ | ⟨a1, a2, a3⟩
              · have : shW h w = -1 := by rw [a1]; unfold shW; rw [if_pos rfl]
                intro d d0 d1
                omega
              · obtain ⟨s1, s2, s3, s4, -⟩ := shW_agr W a1 z
                have lv := LR_w W (show 0 ≤ w - 1 by omega) (by omega)
                have hc := CR_cg (g' := y1) (z1 57 (by decide) (by decide)) (z1 58 (by decide) (by decide)) (z1 59 (by decide) (by decide)) a3
                refine CR_agr (k := shW h w) hP hS hT lv lw s3 (by omega) s4 (by omega) (fun d d0 d1 => hc d d0 ?_)
                unfold dpt
                omega) (by
              intro d d0 d1
              refine ct_not d0 (by omega) ?_
              rcases yC with ⟨a1, a2⟩ | ⟨a1, a2, a3⟩
              · have : shW h w = -1 := by rw [a1]; unfold shW; rw [if_pos rfl]
                omega
              · have := (ct_sh (b := b) hP hS W lq a1 z).2 (by omega)
                omega) KC
            obtain ⟨y2, d1, d2, ⟨d3, d4, d5, d6⟩, d7, d8, d9⟩ := hd
            rw [if_pos c2, w32_id (by omega) (by omega), d1, xc2_some]
            exact fin y2 d2 d3 d5 d6 d7 d8 d9
          · rw [if_neg c2]
            rcases yC with ⟨a1, a2⟩ | ⟨a1, a2, a3⟩
            · have : shW h w = -1 := by rw [a1]; unfold shW; rw [if_pos rfl]
              omega
            · obtain ⟨s1, s2, s3, s4, -⟩ := shW_agr W a1 z
              have ec := (ct_sh (b := b) hP hS W lq a1 z).1 (by omega)
              have lv := LR_w W (show 0 ≤ w - 1 by omega) (by omega)
              have hc := CR_cg (g' := y1) (z1 57 (by decide) (by decide)) (z1 58 (by decide) (by decide)) (z1 59 (by decide) (by decide)) a3
              have ed : dpt h (tp h 23) (h 23 1) b w = c := by unfold dpt; omega
              have ed' : dpt h (tp h 23) (h 23 1) b (w - 1) = c := by unfold dpt; omega
              have es := bs_s (h := h) (q := tp h 23) (m := h 23 1) (b := b) w0
              have el := lfs_s (h := h) (q := tp h 23) (m := h 23 1) (b := b) w0
              rw [if_neg (by omega)] at el
              rw [a2, ← ec]
              refine fin y1 o1 rfl rfl rfl ?_ (fun k0 => ?_) (fun _ _ _ _ => rfl)
              · rw [ed]
                rw [ed'] at hc
                exact CR_agr (k := shW h w) hP hS hT lv lw s3 (by omega) s4 (by omega) hc
              · obtain ⟨k1, k2, k3⟩ := KC k0
                refine ⟨⟨k1.1, fun v d v0 v1 v2 v3 v4 v5 => k1.2 v d v0 v1 v2 v3 v4 (fun c' => ?_)⟩, by omega, by omega⟩
                subst c'
                omega
        · right
          have ew : w = h 5 2 := by omega
          subst ew
          exact ⟨y, by rw [if_neg z], oy, yV, yK, yZ⟩) ⟨Int.le_refl _, by dsimp only; omega, o0, Or.inl ⟨rfl, rfl⟩, fun v v0 v1 => by dsimp only at v1; omega, fun k0 => by
          obtain ⟨k1, k2, k3⟩ := K0 k0
          refine ⟨⟨k1, fun v d v0 v1 => by dsimp only at v1; omega⟩, ?_, ?_⟩
          · dsimp only; rw [k2, bs_0]
          · dsimp only; rw [k3, lfs_0], Z0⟩
    rw [e, xc1_some]
    exact ⟨r, rfl, hr⟩
  unfold f_Walk_go
  by_cases k0 : kp = 0
  · rw [if_pos k0]
    exact main h off_rf (fun k => absurd k0 k) (fun _ _ _ _ => rfl)
  · rw [if_neg k0]
    unfold f_Met_clear
    rw [w32_id (by omega) (by omega), xlet_eq, xlet_eq, xlet_eq, xc1_some]
    exact main _ (off_w (off_tr (off_up (by decide)) (off_tr (off_up (by decide)) (off_up (by decide)))) (by decide) (by decide)) (fun _ => ⟨by rw [xup_same]; omega, by simp (disch := omega) only [↓if_pos, ↓if_neg, ↓xgd_pos, ↓xgb_pos, ↓xgc_pos, ↓xlet_eq, xc1_some, xc2_some, w32_id, xup_same, xup_row, xup_ne_j, xsw_l, xsw_r], by simp (disch := omega) only [↓if_pos, ↓if_neg, ↓xgd_pos, ↓xgb_pos, ↓xgc_pos, ↓xlet_eq, xc1_some, xc2_some, w32_id, xup_same, xup_row, xup_ne_j, xsw_l, xsw_r]⟩) (fun k => absurd k k0)
