/-! SPREAD -/
noncomputable def pD (h : xH) (p : Int) : Int := DS (sp h (rp h 40 p) (rp h 43 p)) (tA h) (tB h) (7 + h 14 2).toNat (h 42 p) (h 45 p) 0 0
noncomputable def pS (h : xH) : Nat → Int
  | 0 => 0
  | n + 1 => pS h n + pD h n
theorem RO_let {o N r : Int} {h : xH} (hR : RO o N h) (h1 : 0 ≤ r) (h2 : r < h o 2) : 1 ≤ h (o + 2) r ∧ h (o + 2) r ≤ 12 ∧ ∀ k, 0 ≤ k → k < h (o + 2) r → 0 ≤ h (o + 1) (r * 12 + k) ∧ h (o + 1) (r * 12 + k) ≤ 25 := hR.2.2.2.2.2 r h1 h2
theorem pr_ok {h : xH} (hP : Pr h) (hS : So h) (hA : Pa h) {p : Int} (p0 : 0 ≤ p) (p1 : p < h 40 2) : SPok (sp h (rp h 40 p) (rp h 43 p)) (tA h) (tB h) (7 + h 14 2).toNat (h 42 p) (h 45 p) := by
  obtain ⟨R1, R2, e1, -⟩ := hA
  obtain ⟨a1, a2, a3⟩ := RO_let R1 p0 p1
  obtain ⟨b1, b2, b3⟩ := RO_let R2 p0 (by rw [e1]; exact p1)
  simp only [Int.reduceAdd] at a1 a2 a3 b1 b2 b3
  have a0 : 0 ≤ h 42 p := by omega
  have b0 : 0 ≤ h 45 p := by omega
  exact sp_ok hP hS a0 a2 b0 b2 a3 b3
theorem pS_b {h : xH} (hP : Pr h) (hS : So h) (hA : Pa h) : ∀ {n : Nat}, (n : Int) ≤ h 40 2 → 0 ≤ pS h n ∧ pS h n ≤ 239976 * n
  | 0, _ => by show (0 : Int) ≤ 0 ∧ (0 : Int) ≤ _; omega
  | n + 1, hn => by
    have a := pS_b hP hS hA (n := n) (by omega)
    have H := pr_ok hP hS hA (p := n) (by omega) (by omega)
    have b := DS_b H (i := 0) (j := 0) (by omega) H.1 (by omega) H.2.2.1
    change 0 ≤ pD h n ∧ pD h n ≤ _ at b
    show 0 ≤ pS h n + pD h n ∧ pS h n + pD h n ≤ _
    omega
theorem s_readPair {h : xH} (hA : Pa h) {p : Int} (p0 : 0 ≤ p) (p1 : p < h 40 2) : ∃ h', f_WM_readPair p h = some h' ∧ off [21, 22, 23, 24] [] h h' ∧ TO 21 h' ∧ TO 23 h' ∧ h' 21 1 = h 42 p ∧ h' 23 1 = h 45 p ∧ tp h' 21 = rp h 40 p ∧ tp h' 23 = rp h 43 p := by
  obtain ⟨R1, R2, e1, -⟩ := hA
  obtain ⟨a1, a2, a3⟩ := RO_let R1 p0 p1
  obtain ⟨b1, b2, b3⟩ := RO_let R2 p0 (by rw [e1]; exact p1)
  simp only [Int.reduceAdd] at a1 a2 a3 b1 b2 b3
  have c1 := s_Rows_copyTo (t := 21) R1 p0 p1 (by unfold apart; decide)
  simp only [Int.reduceAdd] at c1
  generalize hy : hRow 21 (h 42 p) (fun k => h 41 (p * 12 + k)) h = y at c1
  have oy : off [21, 22] [] h y := by rw [← hy]; exact off_hRow (by decide) (by decide)
  have R2' : RO 43 40 y := RO_off oy (by decide) R2
  have c2 := s_Rows_copyTo (t := 23) R2' p0 (by rw [oy.1 43 (by decide) (by decide), e1]; exact p1) (by unfold apart; decide)
  simp only [Int.reduceAdd] at c2
  rw [oy.1 45 (by decide) (by decide), oy.1 44 (by decide) (by decide)] at c2
  refine ⟨hRow 23 (h 45 p) (fun k => h 44 (p * 12 + k)) y, by unfold f_WM_readPair; rw [c1, xc1_some, c2, xc1_some], off_w (off_tr oy (off_hRow (by decide) (by decide))) (by decide) (by decide), ?_, TO_hRow b1 b2 b3, ?_, hRow_size, ?_, tp_hRow⟩
  · unfold TO
    rw [hRow_row (by decide) (by decide), hRow_row (o' := 21 + 1) (by decide) (by decide), ← hy]
    exact TO_hRow (t := 21) a1 a2 a3
  · rw [hRow_row (by decide) (by decide), ← hy, hRow_size]
  · unfold tp
    rw [hRow_row (by decide) (by decide), hRow_row (o' := 21 + 1) (by decide) (by decide), ← hy]
    exact tp_hRow (t := 21)
theorem m_takePair {h : xH} {p : Int} (p0 : 0 ≤ p) (p1 : p < 40) : ∃ h', f_Md_takePair p h = some h' ∧ off [97, 98] [22, 23] h h' ∧ h' 81 22 = h 127 p ∧ h' 81 23 = h 129 p ∧ ∀ k, 0 ≤ k → k < 12 → h' 97 k = h 128 (12 * p + k) ∧ h' 98 k = h 130 (12 * p + k) := by
  unfold f_Md_takePair f_Md_takePair_22
  rw [xgd_pos p0 p1, xlet_eq, xgd_pos p0 p1, xlet_eq, xup_row (o' := 129) (by decide)]
  obtain ⟨b, e, b1, b2⟩ := xloop_W (step := fun s : Int × xH => f_Md_takePair_s22 p s.1 s.2) (I := fun s => 0 ≤ s.1 ∧ s.1 ≤ 12 ∧ off [97, 98] [] (xup (xup h 81 22 (h 127 p)) 81 23 (h 129 p)) s.2 ∧ ∀ k, 0 ≤ k → k < s.1 → s.2 97 k = h 128 (12 * p + k) ∧ s.2 98 k = h 130 (12 * p + k)) (fun s => (12 - s.1).toNat)
    (post := fun b => off [97, 98] [] (xup (xup h 81 22 (h 127 p)) 81 23 (h 129 p)) b ∧ ∀ k, 0 ≤ k → k < 12 → b 97 k = h 128 (12 * p + k) ∧ b 98 k = h 130 (12 * p + k)) (s := (0, xup (xup h 81 22 (h 127 p)) 81 23 (h 129 p))) (by
      rintro ⟨i, g⟩ hI
      dsimp only at hI ⊢
      obtain ⟨i0, i1, hg, hx⟩ := hI
      unfold f_Md_takePair_s22
      by_cases q : i < 12
      · left
        have e1 : g 128 = h 128 := by rw [hg.1 128 (by decide) (by decide), xup_row (by decide), xup_row (by decide)]
        have e2 : g 130 = h 130 := by rw [hg.1 130 (by decide) (by decide), xup_row (by decide), xup_row (by decide)]
        refine ⟨(i + 1, xup (xup g 97 i (h 128 (12 * p + i))) 98 i (h 130 (12 * p + i))), ?_, ⟨by dsimp only; omega, by dsimp only; omega, off_w (off_tr hg (off_tr (off_up (by decide)) (off_up (by decide)))) (by decide) (by decide), fun k k0 k1 => ?_⟩, by dsimp only; omega⟩
        · rw [if_pos q, w32_id (z := 12 * p) (by omega) (by omega), w32_id (z := 12 * p + i) (by omega) (by omega), xgd_pos (by omega) (by omega), xgd_pos (by omega) (by omega), xlet_eq, xgd_pos (by omega) (by omega), xgd_pos (by omega) (by omega), xlet_eq, xup_row (o' := 130) (by decide), e1, e2, w32_id (by omega) (by omega)]
          rfl
        · dsimp only at k1 ⊢
          by_cases z : k = i
          · subst z
            rw [xup_row (by decide), xup_same, xup_same]
            exact ⟨rfl, rfl⟩
          · rw [xup_row (by decide), xup_ne_j (by omega), xup_ne_j (by omega), xup_row (by decide)]
            exact hx k k0 (by omega)
      · right
        exact ⟨g, by rw [if_neg q], hg, fun k k0 k1 => hx k k0 (by omega)⟩) ⟨by dsimp only; omega, by dsimp only; omega, off_rf, fun k a b => by dsimp only at b; omega⟩
  rw [e, xc1_some]
  refine ⟨b, rfl, off_w (off_tr (off_tr off_um off_um) b1) (by decide) (by decide), ?_, ?_, b2⟩
  · rw [b1.2 22 (by decide), xup_ne_j (by decide), xup_same]
  · rw [b1.2 23 (by decide), xup_same]
theorem s_spread {h : xH} (hP : Pr h) (hS : So h) (hA : Pa h) : ∃ h', f_WM_spread h = some (pS h (h 40 2).toNat, h') ∧ off [21, 22, 23, 24, 35] [] h h' := by
  have c40 : h 40 2 ≤ 40 := hA.1.2.2.2.2.1
  have c0 : 0 ≤ h 40 2 := hA.1.2.2.2.1
  unfold f_WM_spread f_WM_spread_4
  obtain ⟨b, e, b1, b2⟩ := xloop_W (step := fun s : Int × Int × xH => f_WM_spread_s4 s.1 s.2.1 s.2.2) (I := fun s => 0 ≤ s.2.1 ∧ s.2.1 ≤ h 40 2 ∧ s.1 = pS h s.2.1.toNat ∧ off [21, 22, 23, 24, 35] [] h s.2.2) (fun s => (h 40 2 - s.2.1).toNat)
    (post := fun b => b.1 = pS h (h 40 2).toNat ∧ off [21, 22, 23, 24, 35] [] h b.2) (s := (0, 0, h)) (by
      rintro ⟨v, p, g⟩ hI
      dsimp only at hI ⊢
      obtain ⟨p0, p1, rfl, hg⟩ := hI
      unfold f_WM_spread_s4
      rw [hg.1 40 (by decide) (by decide)]
      by_cases q : p < h 40 2
      · left
        have P1 : Pr g := Pr_off hg (by decide) hP
        have S1 : So g := So_off hg (by decide) hS
        have A1 : Pa g := Pa_off hg (by decide) hA
        obtain ⟨y, k1, k2, k3, k4, k5, k6, k7, k8⟩ := s_readPair A1 p0 (by rw [hg.1 40 (by decide) (by decide)]; exact q)
        have oy := off_tr hg k2
        obtain ⟨y', l1, l2, -⟩ := s_measure (o := 34) (Or.inr rfl) (Pr_off oy (by decide) hP) (So_off oy (by decide) hS) (TQ_of k3) (TQ_of k4) (by decide) (by decide) (by decide) (by decide)
        have c1 : ∀ x, 10 ≤ x → x ≤ 20 → y x = h x := fun x a b => oy.1 x (by omega) (fun z => by simp at z; omega)
        have D : Dc y 21 23 0 0 = pD h p := by
          unfold Dc pD
          rw [sp_cg c1, tA_cg c1, tB_cg c1, c1 14 (by decide) (by decide), k5, k6, k7, k8, rp_congr (o := 40) (hg.1 (40 + 1) (by decide) (by decide)) (hg.1 (40 + 2) (by decide) (by decide)), rp_congr (o := 43) (hg.1 (43 + 1) (by decide) (by decide)) (hg.1 (43 + 2) (by decide) (by decide)), hg.1 42 (by decide) (by decide), hg.1 45 (by decide) (by decide)]
        have nx : pS h (p + 1).toNat = pS h p.toNat + pD h p := by
          rw [show (p + 1).toNat = p.toNat + 1 by omega]
          show _ + pD h ((p.toNat : Nat) : Int) = _
          rw [show ((p.toNat : Nat) : Int) = p by omega]
        have bb := pS_b hP hS hA (n := (p + 1).toNat) (by omega)
        have ol : off [35] [] y y' := ⟨fun x h0 hn => l2 x (fun z => hn (by simp [z])), fun x _ => by rw [l2 81 (by decide)]⟩
        refine ⟨(pS h (p + 1).toNat, p + 1, y'), ?_, ⟨by dsimp only; omega, by dsimp only; omega, rfl, off_w (off_tr oy ol) (by decide) (by decide)⟩, by dsimp only; omega⟩
        rw [if_pos q, k1, xc1_some, l1, xc2_some, D, w32_id (z := pS h p.toNat + pD h p) (by omega) (by omega), w32_id (by omega) (by omega), xlet_eq, xlet_eq, nx]
      · right
        refine ⟨(pS h p.toNat, g), by rw [if_neg q], ?_, hg⟩
        dsimp only
        rw [show p = h 40 2 by omega]) ⟨by dsimp only; omega, by dsimp only; omega, rfl, off_rf⟩
  rw [e, xc1_some]
  refine ⟨b.2, ?_, b2⟩
  unfold f_WM_spread_44
  rw [b1]
theorem m_spread {h : xH} (hP : Pr h) (hS : So h) (hA : Pa h) : ∃ h', f_Md_spread h = some (pS h (h 40 2).toNat, h') ∧ off [97, 98, 99] [22, 23, 83, 84] h h' := by
  have c40 : h 40 2 ≤ 40 := hA.1.2.2.2.2.1
  have c0 : 0 ≤ h 40 2 := hA.1.2.2.2.1
  obtain ⟨R1, R2, f1, f2, f3⟩ := id hA
  unfold f_Md_spread f_Md_spread_4
  obtain ⟨b, e, b1, b2⟩ := xloop_W (step := fun s : Int × Int × xH => f_Md_spread_s4 s.1 s.2.1 s.2.2) (I := fun s => 0 ≤ s.2.1 ∧ s.2.1 ≤ h 40 2 ∧ s.1 = pS h s.2.1.toNat ∧ off [97, 98, 99] [22, 23, 83, 84] h s.2.2) (fun s => (h 40 2 - s.2.1).toNat)
    (post := fun b => b.1 = pS h (h 40 2).toNat ∧ off [97, 98, 99] [22, 23, 83, 84] h b.2) (s := (0, 0, h)) (by
      rintro ⟨v, p, g⟩ hI
      dsimp only at hI ⊢
      obtain ⟨p0, p1, rfl, hg⟩ := hI
      unfold f_Md_spread_s4
      rw [hg.2 61 (by decide), f2]
      by_cases q : p < h 40 2
      · left
        obtain ⟨y, k1, k2, k3, k4, k5⟩ := m_takePair (h := g) p0 (by omega)
        rw [hg.1 127 (by decide) (by decide)] at k3
        rw [hg.1 129 (by decide) (by decide)] at k4
        rw [hg.1 128 (by decide) (by decide), hg.1 130 (by decide) (by decide)] at k5
        obtain ⟨u1, u2, u3, u4⟩ := f3 p p0 q
        rw [u1] at k3
        rw [u2] at k4
        obtain ⟨a1, a2, a3⟩ := RO_let R1 p0 q
        obtain ⟨b1, b2, b3⟩ := RO_let R2 p0 (by rw [f1]; exact q)
        simp only [Int.reduceAdd] at a1 a2 a3 b1 b2 b3
        have oy := off_tr hg k2
        have e97 : ∀ k, 0 ≤ k → k < h 42 p → y 97 k = h 41 (p * 12 + k) := fun k x0 x1 => by rw [(k5 k x0 (by omega)).1]; exact u3 k x0 x1
        have e98 : ∀ k, 0 ≤ k → k < h 45 p → y 98 k = h 44 (p * 12 + k) := fun k x0 x1 => by rw [(k5 k x0 (by omega)).2]; exact u4 k x0 x1
        have A4 : MA y := ⟨by omega, by omega, fun k x0 x1 => by rw [k3] at x1; rw [e97 k x0 x1]; exact a3 k x0 x1⟩
        have B4 : MB y := ⟨by omega, by omega, fun k x0 x1 => by rw [k4] at x1; rw [e98 k x0 x1]; exact b3 k x0 x1⟩
        obtain ⟨y', l1, l2, l3⟩ := m_sums (Pr_off oy (by decide) hP) (So_off oy (by decide) hS) A4 B4
        have c1 : ∀ x, 10 ≤ x → x ≤ 20 → y x = h x := fun x a b => oy.1 x (by omega) (fun z => by simp at z; omega)
        have ep : pA y = rp h 40 p := pad_ext k3 e97
        have eq : pB y = rp h 43 p := pad_ext k4 e98
        have D : Dm y 0 0 = pD h p := by
          unfold Dm pD
          rw [sp_cg c1, tA_cg c1, tB_cg c1, c1 14 (by decide) (by decide), k3, k4, ep, eq]
        have nx : pS h (p + 1).toNat = pS h p.toNat + pD h p := by
          rw [show (p + 1).toNat = p.toNat + 1 by omega]
          show _ + pD h ((p.toNat : Nat) : Int) = _
          rw [show ((p.toNat : Nat) : Int) = p by omega]
        have bb := pS_b hP hS hA (n := (p + 1).toNat) (by omega)
        have l0 := l3 0 0 (by omega) (by omega) (by omega) (by omega)
        rw [show (13 * 0 + 0 : Int) = 0 from rfl, D] at l0
        refine ⟨(pS h (p + 1).toNat, p + 1, y'), ?_, ⟨by dsimp only; omega, by dsimp only; omega, rfl, off_w (off_tr oy l2) (by decide) (by decide)⟩, by dsimp only; omega⟩
        rw [if_pos q, k1, xc1_some, l1, xc1_some, xgd_pos (by omega) (by omega), l0, w32_id (z := pS h p.toNat + pD h p) (by omega) (by omega), w32_id (by omega) (by omega), xlet_eq, xlet_eq, nx]
      · right
        refine ⟨(pS h p.toNat, g), by rw [if_neg q], ?_, hg⟩
        dsimp only
        rw [show p = h 40 2 by omega]) ⟨by dsimp only; omega, by dsimp only; omega, rfl, off_rf⟩
  rw [e, xc1_some]
  refine ⟨b.2, ?_, b2⟩
  unfold f_Md_spread_36
  rw [b1]
theorem op_spread : Op2 f_WM_spread f_Md_spread := by
  refine op2_of (fun _ _ => loc_Md_spread) (fun h hI => ?_)
  obtain ⟨h1, e1, o1⟩ := s_spread hI.2.2.2.1 hI.2.2.2.2.1 hI.2.2.2.2.2.1
  obtain ⟨h2, e2, o2⟩ := m_spread hI.2.2.2.1 hI.2.2.2.2.1 hI.2.2.2.2.2.1
  exact ⟨_, h1, h2, e1, off_hi o1 (by decide) rfl, e2, inv_mk (off_mx o1 o2) hI⟩
