/-! THE MODEL'S DISTANCE to a word, and that of its beginnings -/
theorem m_wordA {y : xH} {w : Int} (W : Wd0 y) (w0 : 0 ≤ w) (w1 : w < y 5 2) : ∃ g, f_Md_wordA w y = some g ∧ off [97] [22] y g ∧ g 81 22 = y 7 w ∧ ∀ k, 0 ≤ k → k < y 7 w → g 97 k = rp y 5 w k := by
  have N200 := Wd_n W
  obtain ⟨l1, l2, l3⟩ := Wd_len W w0 w1
  obtain ⟨e85, e86⟩ := W.2.2.1 w w0 w1
  unfold f_Md_wordA f_Md_wordA_12
  rw [xgd_pos w0 (by omega), e85, xlet_eq]
  have key := xloop_T (step := fun s : Int × xH => f_Md_wordA_s12 w s.1 s.2) (fun k => ((k : Int), hLay 97 0 k (fun k => y 86 (12 * w + k)) (xup y 81 22 (y 7 w)))) (y 7 w).toNat (s0 := (0, xup y 81 22 (y 7 w))) (b := hLay 97 0 (y 7 w) (fun k => y 86 (12 * w + k)) (xup y 81 22 (y 7 w))) (by rw [show ((0 : Nat) : Int) = 0 from rfl, hLay_0])
    (fun k hk => by
      dsimp only [f_Md_wordA_s12]
      have sc := hLay_succ (o := 97) (p := 0) (n := k) (f := fun k => y 86 (12 * w + k)) (h := xup y 81 22 (y 7 w)) (by omega)
      rw [Int.zero_add] at sc
      rw [hLay_row (o' := 81) (by decide), xup_same, if_pos (by omega), hLay_row (o' := 86) (by decide), xup_row (o' := 86) (by decide), w32_id (z := 12 * w) (by omega) (by omega), w32_id (z := 12 * w + (k : Int)) (by omega) (by omega), xgd_pos (by omega) (by omega), xgd_pos (by omega) (by omega), xlet_eq, w32_id (by omega) (by omega), xlet_eq, sc]
      rfl)
    (by
      dsimp only [f_Md_wordA_s12]
      rw [hLay_row (o' := 81) (by decide), xup_same, if_neg (by omega), show (((y 7 w).toNat : Nat) : Int) = y 7 w by omega])
  rw [key, xc1_some]
  refine ⟨_, rfl, off_w (off_tr off_um (off_lay (by decide))) (by decide) (by decide), by rw [hLay_row (by decide), xup_same], fun k k0 k1 => ?_⟩
  rw [hLay_in k0 (by omega), Int.sub_zero, e86 k k0 k1]
  unfold rp
  rw [show (5 + 2 : Int) = 7 from rfl, show (5 + 1 : Int) = 6 from rfl, pad_in k0 k1]
/-- what the trying doesn't change -/
theorem wt_fr {h g : xH} (og : off [97, 99, 116, 124, 125, 126] [22, 57, 83, 84] h g) (hP : Pr h) (hS : So h) (W : Wd0 h) (hB : MB h) : Pr g ∧ So g ∧ Wd0 g ∧ MB g ∧ g 81 23 = h 81 23 ∧ pB g = pB h ∧ sp g = sp h ∧ tA g = tA h ∧ tB g = tB h ∧ g 14 = h 14 ∧ g 5 = h 5 ∧ g 6 = h 6 ∧ g 7 = h 7 ∧ rp g 5 = rp h 5 := by
  have e : ∀ x, x ≤ 80 → g x = h x := fun x a => og.1 x (by omega) (fun z => by simp at z; omega)
  have e2 : ∀ x, 10 ≤ x → x ≤ 20 → g x = h x := fun x a b => e x (by omega)
  have e23 := og.2 23 (by decide)
  have e98 := og.1 98 (by decide) (by decide)
  refine ⟨Pr_off og (by decide) hP, So_off og (by decide) hS, Wd0_off og (by decide) W, ?_, e23, ?_, sp_cg e2, tA_cg e2, tB_cg e2, e 14 (by decide), e 5 (by decide), e 6 (by decide), e 7 (by decide), ?_⟩
  · unfold MB; rw [e23, e98]; exact hB
  · unfold pB; rw [e23, e98]
  · funext w
    exact rp_congr (e 6 (by decide)) (e 7 (by decide))
theorem m_wordA' {h y : xH} {w : Int} (oy : off [97, 99, 116, 124, 125, 126] [22, 57, 83, 84] h y) (hP : Pr h) (hS : So h) (W : Wd0 h) (hB : MB h) (w0 : 0 ≤ w) (w1 : w < h 5 2) : ∃ g, f_Md_wordA w y = some g ∧ off [97] [22] y g ∧ g 81 22 = h 7 w ∧ ∀ k, 0 ≤ k → k < h 7 w → g 97 k = rp h 5 w k := by
  obtain ⟨P1, S1, W1, B1, r1, r2, r3, r4, r5, r6, r7, r8, r9, r10⟩ := wt_fr oy hP hS W hB
  obtain ⟨g, a1, a2, a3, a4⟩ := m_wordA W1 w0 (by rw [r7]; exact w1)
  rw [r9] at a3 a4
  rw [r10] at a4
  exact ⟨g, a1, a2, a3, a4⟩
theorem m_distTo {h y : xH} {w : Int} (oy : off [97, 99, 116, 124, 125, 126] [22, 57, 83, 84] h y) (hP : Pr h) (hS : So h) (W : Wd0 h) (hB : MB h) (w0 : 0 ≤ w) (w1 : w < h 5 2) : ∃ g, f_Md_distanceTo w y = some (Gs h (pB h) (rp h 5 w) (h 7 w) (h 81 23), g) ∧ off [97, 99] [22, 83, 84] y g := by
  have lw := LR_w W w0 w1
  obtain ⟨y1, a1, a2, a3, a4⟩ := m_wordA' oy hP hS W hB w0 w1
  have o1 : off [97, 99, 116, 124, 125, 126] [22, 57, 83, 84] h y1 := off_w (off_tr oy a2) (by decide) (by decide)
  obtain ⟨P1, S1, W1, B1, r1, r2, r3, r4, r5, r6, r7, r8, r9, r10⟩ := wt_fr o1 hP hS W hB
  have A1 : MA y1 := ⟨by rw [a3]; exact lw.1, by rw [a3]; exact lw.2.1, fun k k0 k1 => by rw [a3] at k1; rw [a4 k k0 k1]; exact LR_in lw k0 k1⟩
  have pe : pA y1 = rp h 5 w := by
    unfold pA rp
    rw [a3]
    refine pad_ext rfl (fun k k0 k1 => ?_)
    rw [a4 k k0 k1]
    unfold rp
    rw [pad_in k0 k1]
  obtain ⟨g, s1, s2, s3⟩ := m_sums P1 S1 A1 B1
  have s0 := s3 0 0 (by omega) (by rw [a3]; exact lw.1) (by omega) (by rw [r1]; exact hB.1)
  unfold f_Md_distanceTo
  rw [a1, xc1_some, s1, xc1_some, xgd_pos (by decide) (by decide)]
  refine ⟨g, ?_, off_w (off_tr a2 s2) (by decide) (by decide)⟩
  have H := LR_ok hP hS lw (LR_B hB)
  have eD : Dm y1 0 0 = Gs h (pB h) (rp h 5 w) (h 7 w) (h 81 23) := by
    unfold Dm Gs
    rw [r1, r2, r3, r4, r5, r6, a3, pe]
    exact (FD H (FS_F H) (DS_D H)).symm
  rw [show (13 * 0 + 0 : Int) = 0 from rfl] at s0
  rw [s0, eD]
theorem m_begTo {h y : xH} {w : Int} (oy : off [97, 99, 116, 124, 125, 126] [22, 57, 83, 84] h y) (hP : Pr h) (hS : So h) (W : Wd0 h) (hB : MB h) (w0 : 0 ≤ w) (w1 : w < h 5 2) : ∃ g, f_Md_beginningTo w y = some (mnf (fun k => Gs h (pB h) (rp h 5 w) k (h 81 23)) (h 7 w + 1).toNat, g) ∧ off [97, 116] [22, 83, 84] y g := by
  have lw := LR_w W w0 w1
  obtain ⟨m0, m1, -⟩ := id hB
  have l0 := lw.1
  have l1 := lw.2.1
  obtain ⟨y1, a1, a2, a3, a4⟩ := m_wordA' oy hP hS W hB w0 w1
  have o1 : off [97, 99, 116, 124, 125, 126] [22, 57, 83, 84] h y1 := off_w (off_tr oy a2) (by decide) (by decide)
  unfold f_Md_beginningTo
  rw [a1, xc1_some, a3, xlet_eq]
  unfold f_Md_beginningTo_17 f_Md_beginningTo_60
  obtain ⟨⟨v, g⟩, e, e1, e2⟩ := xloop_W (step := fun s : Int × Int × xH => f_Md_beginningTo_s17 (h 7 w) s.1 s.2.1 s.2.2)
    (I := fun s => 0 ≤ s.2.1 ∧ s.2.1 ≤ h 7 w + 1 ∧ off [116] [22, 83, 84] y1 s.2.2 ∧ s.1 = mnf (fun k => Gs h (pB h) (rp h 5 w) k (h 81 23)) s.2.1.toNat ∧ ∀ x j, 0 ≤ x → x < s.2.1 → 0 ≤ j → j ≤ h 81 23 → s.2.2 116 (13 * x + j) = Gs h (pB h) (rp h 5 w) x j) (fun s => (h 7 w + 1 - s.2.1).toNat)
    (post := fun s => s.1 = mnf (fun k => Gs h (pB h) (rp h 5 w) k (h 81 23)) (h 7 w + 1).toNat ∧ off [116] [22, 83, 84] y1 s.2) (s := (1000000, 0, y1)) (by
      rintro ⟨v, d, z⟩ hI
      dsimp only at hI ⊢
      obtain ⟨d0, d1, zo, ev, zr⟩ := hI
      subst ev
      unfold f_Md_beginningTo_s17
      by_cases q : h 7 w < d
      · right
        exact ⟨_, by rw [if_pos q], by dsimp only; rw [show h 7 w + 1 = d by omega], zo⟩
      · left
        have o2 : off [97, 99, 116, 124, 125, 126] [22, 57, 83, 84] h (xup (xup z 81 22 (h 7 w)) 81 22 d) := off_w (off_tr o1 (off_tr zo (off_tr off_um off_um))) (by decide) (by decide)
        obtain ⟨P1, S1, W1, B1, r1, r2, r3, r4, r5, r6, r7, r8, r9, r10⟩ := wt_fr o2 hP hS W hB
        have e97 : ∀ k, 0 ≤ k → k < d → (xup (xup z 81 22 (h 7 w)) 81 22 d) 97 k = rp h 5 w k := fun k k0 k1 => by
          rw [xup_row (by decide), xup_row (by decide), zo.1 97 (by decide) (by decide)]
          exact a4 k k0 (by omega)
        generalize hz2 : xup (xup z 81 22 (h 7 w)) 81 22 d = z2 at *
        have e22 : z2 81 22 = d := by rw [← hz2, xup_same]
        have e116 : z2 116 = z 116 := by rw [← hz2, xup_row (by decide), xup_row (by decide)]
        have A1 : MA z2 := ⟨by omega, by omega, fun k k0 k1 => by rw [e97 k k0 (by omega)]; exact LR_in lw k0 (by omega)⟩
        have lp : LR d (pA z2) := by
          unfold pA
          rw [e22]
          exact LR_p d0 (by omega) (fun k k0 k1 => by rw [e97 k k0 k1]; exact LR_in lw k0 (by omega))
        have ap : ∀ k, 0 ≤ k → k < d → pA z2 k = rp h 5 w k := fun k k0 k1 => by
          unfold pA
          rw [e22, pad_in k0 k1]
          exact e97 k k0 k1
        have eG : ∀ x j, 0 ≤ x → x ≤ d → 0 ≤ j → j ≤ h 81 23 → Fm z2 x j = Gs h (pB h) (rp h 5 w) x j := fun x j x0 x1 j0 j1 => by
          have : Fm z2 = Gs h (pB h) (pA z2) := by unfold Fm Gs; rw [r2, r3, r4, r5, r6]
          rw [this]
          exact Gs_agr hP hS lp lw (LR_B hB) (Int.le_refl _) (by omega) ap x0 x1 j0 j1
        obtain ⟨z3, s1, s2, s3, s4⟩ := m_stateRow7 P1 S1 A1 B1 e22 d0 (by omega) (fun x j x0 x1 j0 j1 => by
          rw [r1] at j1
          rw [e116, eG x j x0 (by omega) j0 j1]
          exact zr x j x0 x1 j0 j1)
        rw [r1] at s3 s4
        have z323 : z3 81 23 = h 81 23 := by rw [s2.2 23 (by decide)]; exact r1
        have o32 : off [116] [22, 83, 84] y1 z3 := by
          have : off [] [22] z z2 := by rw [← hz2]; exact off_w (off_tr off_um off_um) (by decide) (by decide)
          exact off_w (off_tr zo (off_tr this s2)) (by decide) (by decide)
        have nx : mnf (fun k => Gs h (pB h) (rp h 5 w) k (h 81 23)) (d + 1).toNat = min (mnf (fun k => Gs h (pB h) (rp h 5 w) k (h 81 23)) d.toNat) (Gs h (pB h) (rp h 5 w) d (h 81 23)) := by
          rw [show (d + 1).toNat = d.toNat + 1 by omega]
          show min _ (Gs h (pB h) (rp h 5 w) ((d.toNat : Nat) : Int) (h 81 23)) = _
          rw [show ((d.toNat : Nat) : Int) = d by omega]
        refine ⟨(mnf (fun k => Gs h (pB h) (rp h 5 w) k (h 81 23)) (d + 1).toNat, d + 1, z3), ?_, ⟨by dsimp only; omega, by dsimp only; omega, o32, rfl, fun x j x0 x1 j0 j1 => ?_⟩, by dsimp only; omega⟩
        · rw [if_neg q, xlet_eq]
          unfold f_Md_stateRow
          rw [xlet_eq, hz2, s1, xc1_some, z323, w32_id (z := 13 * d) (by omega) (by omega), w32_id (z := 13 * d + h 81 23) (by omega) (by omega), xgd_pos (by omega) (by omega), min_s, xc1_some, w32_id (by omega) (by omega), xlet_eq, s4 (h 81 23) m0 (Int.le_refl _), eG d (h 81 23) d0 (Int.le_refl _) m0 (Int.le_refl _), nx]
        · dsimp only at x1 ⊢
          by_cases c : x = d
          · rw [c, s4 j j0 j1]
            exact eG d j d0 (Int.le_refl _) j0 j1
          · rw [s3 _ (fun t t0 t1 => by omega), e116]
            exact zr x j x0 (by omega) j0 j1) ⟨Int.le_refl _, by dsimp only; omega, off_rf, rfl, fun x j x0 x1 => by dsimp only at x1; omega⟩
  dsimp only at e1 e2
  rw [e, xc1_some]
  exact ⟨g, by rw [e1], off_w (off_tr a2 e2) (by decide) (by decide)⟩
/-- the distance that the trying goes by -/
noncomputable def DW (h : xH) (q : Int → Int) (m md w : Int) : Int := if md = 0 then Gs h q (rp h 5 w) (h 7 w) m else mnf (fun k => Gs h q (rp h 5 w) k m) (h 7 w + 1).toNat
theorem DW_b {h : xH} {q : Int → Int} {m md w : Int} (hP : Pr h) (hS : So h) (W : Wd0 h) (hq : LR m q) (w0 : 0 ≤ w) (w1 : w < h 5 2) : 0 ≤ DW h q m md w ∧ DW h q m md w ≤ 239976 := by
  have lw := LR_w W w0 w1
  have b := Gs_b hP hS lw hq (i := h 7 w) (j := m) lw.1 (Int.le_refl _) hq.1 (Int.le_refl _)
  unfold DW
  split
  · exact b
  · constructor
    · exact mnf_ge (by decide) (fun c c0 c1 => (Gs_b hP hS lw hq c0 (by omega) hq.1 (Int.le_refl _)).1)
    · have l0 := lw.1
      have := mnf_le (f := fun k => Gs h q (rp h 5 w) k m) (n := (h 7 w + 1).toNat) (c := h 7 w) lw.1 (by omega)
      omega
theorem m_tries {h : xH} {b md : Int} {C S : Int → Int} (hP : Pr h) (hS : So h) (W : Wd0 h) (hB : MB h) (hC : ∀ w, 0 ≤ w → w < h 5 2 → h 87 w = C w) (hSh : ∀ w, 0 ≤ w → w < h 5 2 → (∀ g : xH, g 81 15 = h 81 15 → f_Md_share (C w) g = some (S w)) ∧ 0 ≤ S w ∧ S w ≤ 67108864) :
    ∃ g, f_Md_tries b md h = some g ∧ off [97, 99, 116, 124, 125, 126] [22, 57, 83, 84] h g ∧ g 81 57 = (fl C (DW h (pB h) (h 81 23) md) S b (h 5 2).toNat).2 ∧ lst g 123 (fl C (DW h (pB h) (h 81 23) md) S b (h 5 2).toNat).2 (fl C (DW h (pB h) (h 81 23) md) S b (h 5 2).toNat).1 (DW h (pB h) (h 81 23) md) S := by
  have N200 := Wd_n W
  have DB := fun w w0 w1 => DW_b (md := md) (w := w) hP hS W (LR_B hB) w0 w1
  unfold f_Md_tries f_Md_tries_7
  rw [xlet_eq]
  obtain ⟨g, e, e1, e2, e3⟩ := xloop_W (step := fun s : Int × xH => f_Md_tries_s7 b md s.1 s.2)
    (I := fun s => 0 ≤ s.1 ∧ s.1 ≤ h 5 2 ∧ off [97, 99, 116, 124, 125, 126] [22, 57, 83, 84] h s.2 ∧ s.2 81 57 = (fl C (DW h (pB h) (h 81 23) md) S b s.1.toNat).2 ∧ lst s.2 123 (fl C (DW h (pB h) (h 81 23) md) S b s.1.toNat).2 (fl C (DW h (pB h) (h 81 23) md) S b s.1.toNat).1 (DW h (pB h) (h 81 23) md) S) (fun s => (h 5 2 - s.1).toNat)
    (post := fun g => off [97, 99, 116, 124, 125, 126] [22, 57, 83, 84] h g ∧ g 81 57 = (fl C (DW h (pB h) (h 81 23) md) S b (h 5 2).toNat).2 ∧ lst g 123 (fl C (DW h (pB h) (h 81 23) md) S b (h 5 2).toNat).2 (fl C (DW h (pB h) (h 81 23) md) S b (h 5 2).toNat).1 (DW h (pB h) (h 81 23) md) S) (s := (0, xup h 81 57 0)) (by
      rintro ⟨w, y⟩ hI
      dsimp only at hI ⊢
      obtain ⟨w0, w1, yo, y57, yl⟩ := hI
      unfold f_Md_tries_s7
      rw [yo.2 5 (by decide), W.2.1]
      by_cases z : w < h 5 2
      · left
        rw [if_pos z]
        have dist : ∃ y2, (if md = 0 then (xc2 (f_Md_distanceTo w y) (fun r1 h2 => f_Md_tries_32 b md w r1 h2)) else (xc2 (f_Md_beginningTo w y) (fun r3 h4 => f_Md_tries_32 b md w r3 h4))) = f_Md_tries_32 b md w (DW h (pB h) (h 81 23) md w) y2 ∧ off [97, 99, 116] [22, 83, 84] y y2 := by
          unfold DW
          by_cases c : md = 0
          · obtain ⟨y2, a1, a2⟩ := m_distTo yo hP hS W hB w0 z
            exact ⟨y2, by rw [if_pos c, if_pos c, a1, xc2_some], off_w a2 (by decide) (by decide)⟩
          · obtain ⟨y2, a1, a2⟩ := m_begTo yo hP hS W hB w0 z
            exact ⟨y2, by rw [if_neg c, if_neg c, a1, xc2_some], off_w a2 (by decide) (by decide)⟩
        obtain ⟨y2, d1, d2⟩ := dist
        rw [d1]
        have F := fl_ok (C := C) (D := DW h (pB h) (h 81 23) md) (S := S) (b := b) w.toNat
        have ew : ((w.toNat : Nat) : Int) = w := by omega
        have en : (w + 1).toNat = w.toNat + 1 := by omega
        rw [ew] at F
        obtain ⟨F0, F1, F2, F3⟩ := F
        have lb := DB w w0 z
        unfold f_Md_tries_32
        have oy2 : off [97, 99, 116, 124, 125, 126] [22, 57, 83, 84] h y2 := off_w (off_tr yo d2) (by decide) (by decide)
        have y257 : y2 81 57 = (fl C (DW h (pB h) (h 81 23) md) S b w.toNat).2 := by rw [d2.2 57 (by decide)]; exact y57
        have yl2 : lst y2 123 (fl C (DW h (pB h) (h 81 23) md) S b w.toNat).2 (fl C (DW h (pB h) (h 81 23) md) S b w.toNat).1 (DW h (pB h) (h 81 23) md) S := fun k k0 k1 => by
          have := yl k k0 k1
          simp only [Int.reduceAdd] at this ⊢
          rw [d2.1 124 (by decide) (by decide), d2.1 125 (by decide) (by decide), d2.1 126 (by decide) (by decide)]
          exact this
        by_cases q : b < DW h (pB h) (h 81 23) md w
        · have nd : ¬ DW h (pB h) (h 81 23) md ((w.toNat : Nat) : Int) ≤ b := by rw [ew]; omega
          refine ⟨(w + 1, y2), ?_, ⟨by dsimp only; omega, by dsimp only; omega, oy2, ?_, ?_⟩, by dsimp only; omega⟩
          · rw [if_pos q]
            unfold f_Md_tries_169
            rw [w32_id (by omega) (by omega), xlet_eq]
          · dsimp only; rw [en, fl_no nd]; exact y257
          · dsimp only; rw [en, fl_no nd]; exact yl2
        · have hd : DW h (pB h) (h 81 23) md w ≤ b := by omega
          have c87 : ∀ x, 0 ≤ x → x < h 5 2 → y2 87 x = C x := fun x x0 x1 => by rw [oy2.1 87 (by decide) (by decide)]; exact hC x x0 x1
          rw [if_neg q, xgd_pos w0 (by omega), c87 w w0 z, (hSh w w0 z).1 y2 (oy2.2 15 (by decide)), xc1_some, y257, w32_id (by omega) (by omega), xlet_eq, xlet_eq]
          generalize hy3 : xup y2 81 57 ((fl C (DW h (pB h) (h 81 23) md) S b w.toNat).2 + 1) = y3
          have y3r : ∀ o, o ≠ 81 → y3 o = y2 o := fun o ho => by rw [← hy3, xup_row ho]
          obtain ⟨y', p, l1, l2, l3, l4⟩ := m_lay (g := y3) (w := w) (n := (fl C (DW h (pB h) (h 81 23) md) S b w.toNat).2) (b := b) (md := md) (a := (fl C (DW h (pB h) (h 81 23) md) S b w.toNat).1) (D := DW h (pB h) (h 81 23) md) (S := S) F0 (by omega) w0 (by omega) (fun k k0 k1 => by
            have := yl2 k k0 k1
            simp only [Int.reduceAdd] at this ⊢
            rw [y3r 124 (by decide), y3r 125 (by decide), y3r 126 (by decide)]
            exact this) (fun x x0 x1 => by have := DB x x0 (by omega); omega) (fun x x0 x1 => (hSh x x0 (by omega)).2) F2
          have l3' := lays_C (C' := C) (fun k k0 k1 => by
            have := F2 k k0 k1
            rw [y3r 87 (by decide)]
            exact c87 _ this.1 (by omega)) (by rw [y3r 87 (by decide)]; exact c87 w w0 z) l3
          have fy := fl_yes (C := C) (D := DW h (pB h) (h 81 23) md) (S := S) (b := b) (n := w.toNat) (p := p) (by rw [ew]; exact hd) (by rw [ew]; exact l3')
          rw [ew] at fy
          refine ⟨(w + 1, y'), l1, ⟨by dsimp only; omega, by dsimp only; omega, ?_, ?_, ?_⟩, by dsimp only; omega⟩
          · dsimp only
            have : off [] [57] y2 y3 := by rw [← hy3]; exact off_um
            exact off_w (off_tr oy2 (off_tr this l2)) (by decide) (by decide)
          · dsimp only; rw [en, fy, l2.2 57 (by decide), ← hy3, xup_same]
          · dsimp only; rw [en, fy]; exact l4
      · right
        refine ⟨y, by rw [if_neg z], yo, ?_, ?_⟩
        · rw [show h 5 2 = w by omega]; exact y57
        · rw [show h 5 2 = w by omega]; exact yl) ⟨Int.le_refl _, N200.1, off_w off_um (by decide) (by decide), by dsimp only; rw [xup_same]; rfl, fun k k0 k1 => by
        exact absurd k1 (by show ¬ k < 0; omega)⟩
  rw [e, xc1_some]
  exact ⟨g, rfl, e1, e2, e3⟩
