/-! MENDING: the model's loops -/
theorem fl_le {C D S : Int → Int} {b : Int} : ∀ n : Nat, ∀ k, 0 ≤ k → k < (fl C D S b n).2 → D ((fl C D S b n).1 k) ≤ b
  | 0, k, _, k1 => absurd k1 (by show ¬ k < 0; omega)
  | n + 1, k, k0, k1 => by
    by_cases z : D n ≤ b
    · have F := fl_ok (C := C) (D := D) (S := S) (b := b) n
      obtain ⟨p, hp⟩ := lays_ex (C := C) (D := D) (S := S) (a := (fl C D S b n).1) (w := n) (fl C D S b n).2.toNat
      rw [show (((fl C D S b n).2.toNat : Nat) : Int) = (fl C D S b n).2 by omega] at hp
      have ih := fl_le (C := C) (D := D) (S := S) (b := b) n
      rw [fl_yes z hp] at k1 ⊢
      dsimp only at k1 ⊢
      unfold insAt
      have := hp.2.1
      by_cases a : k < p
      · rw [if_pos a]; exact ih k k0 (by omega)
      · rw [if_neg a]
        by_cases d : k = p
        · rw [if_pos d]; exact z
        · rw [if_neg d]; exact ih (k - 1) (by have := hp.1; omega) (by omega)
    · rw [fl_no z] at k1 ⊢
      exact fl_le n k k0 k1
theorem ffl_le {c : xH} {b r : Int} (h : 0 < (ffl c b r).2) : DW c (tX c r) (c 27 r) 0 ((ffl c b r).1 0) ≤ b := fl_le _ 0 (by omega) h
section
variable {c m : xH} {b : Int}
/-- which word each row is led back to -/
theorem m_nearW (hT : TX c m) (b0 : 0 ≤ b) : ∃ y, xloop (fun s : Int × xH => f_Md_mend_s31 b s.1 s.2) (0, m) = some y ∧ off [97, 98, 99, 116, 124, 125, 126, 140, 141] [22, 23, 57, 83, 84] m y ∧ ∀ r, 0 ≤ r → r < c 25 2 → M140 c y b r := by
  obtain ⟨hR, hx, h2, hP, hS, hW, ⟨hWt, hPc, hSc, hWc, hWtc⟩, e20, hn⟩ := id hT
  have n12 := hR.2.2.2.2.1
  have n0 := hR.2.2.2.1
  obtain ⟨y, e, a1, a2⟩ := xloop_W (step := fun s : Int × xH => f_Md_mend_s31 b s.1 s.2) (I := fun s => 0 ≤ s.1 ∧ s.1 ≤ c 25 2 ∧ off [97, 98, 99, 116, 124, 125, 126, 140, 141] [22, 23, 57, 83, 84] m s.2 ∧ ∀ r, 0 ≤ r → r < s.1 → M140 c s.2 b r) (fun s => (c 25 2 - s.1).toNat)
    (post := fun y => off [97, 98, 99, 116, 124, 125, 126, 140, 141] [22, 23, 57, 83, 84] m y ∧ ∀ r, 0 ≤ r → r < c 25 2 → M140 c y b r) (s := (0, m)) (by
      rintro ⟨r, y⟩ hI
      dsimp only at hI ⊢
      obtain ⟨r0, r1, yo, ym⟩ := hI
      unfold f_Md_mend_s31
      rw [yo.2 2 (by decide), h2]
      by_cases q : r < c 25 2
      · left
        obtain ⟨l1, l2, l3, l4⟩ := tl_b hR r0 q
        rw [if_pos q, xgd_pos r0 (by omega), xlet_eq]
        generalize hy1 : xup y 140 r (-1) = y1
        have o1 : off [140] [] y y1 := by rw [← hy1]; exact off_up (by decide)
        have oy1 : off [97, 98, 99, 116, 124, 125, 126, 140, 141] [22, 23, 57, 83, 84] m y1 := off_w (off_tr yo o1) (by decide) (by decide)
        have e140 : y1 140 r = -1 := by rw [← hy1, xup_same]
        have n140 : ∀ j, j ≠ r → y1 140 j = y 140 j := fun j hj => by rw [← hy1, xup_ne_j hj]
        have e100 : ∀ w, f_Md_mend_100 b r w = some (Sum.inl (r + 1, w)) := fun w => by
          unfold f_Md_mend_100
          rw [w32_id (by omega) (by omega), xlet_eq]
        rw [m_isWord hT (off_w oy1 (by decide) (by decide)) r0 q, xc1_some]
        have fin : ∀ y' : xH, off [97, 98, 99, 116, 124, 125, 126, 140, 141] [22, 23, 57, 83, 84] m y' → (∀ j, j ≠ r → y' 140 j = y 140 j ∧ y' 141 j = y 141 j) → M140 c y' b r → (0 ≤ r + 1 ∧ r + 1 ≤ c 25 2 ∧ off [97, 98, 99, 116, 124, 125, 126, 140, 141] [22, 23, 57, 83, 84] m y' ∧ ∀ r', 0 ≤ r' → r' < r + 1 → M140 c y' b r') := fun y' x1 x2 x3 => ⟨by omega, by omega, x1, fun r' x4 x5 => by
          by_cases z : r' = r
          · rw [z]; exact x3
          · have := ym r' x4 (by omega)
            obtain ⟨u1, u2⟩ := x2 r' z
            unfold M140 at this ⊢
            rw [u1, u2]
            exact this⟩
        by_cases a : nW c (tX c r) = -1
        · rw [if_pos a]
          obtain ⟨x1, x2⟩ := hx r r0 q
          have e83 : y1 83 r = c 27 r := by rw [oy1.1 83 (by decide) (by decide)]; exact x1
          have tkB := m_takeB (h := y1) (l := r) r0 (by omega) e83 (by omega) l2
          generalize hy2 : hLay 98 0 (c 27 r) (fun k => y1 84 (12 * r + k)) (xup y1 81 23 (c 27 r)) = y2 at tkB
          have o2 : off [98] [23] y1 y2 := by rw [← hy2]; exact off_w (off_tr off_um (off_lay (by decide))) (by decide) (by decide)
          have oy2 : off [97, 98, 99, 116, 124, 125, 126, 134, 135, 136, 137, 138, 139, 140, 141, 145] [22, 23, 57, 69, 70, 83, 84] m y2 := off_w (off_tr oy1 o2) (by decide) (by decide)
          obtain ⟨P2, S2, W2, en2, f83, f84, f2, f13, f14, f20⟩ := mm_fr oy2 hP hS hW.1
          have b23 : y2 81 23 = c 27 r := by rw [← hy2, hLay_row (by decide), xup_same]
          have b98 : ∀ k, 0 ≤ k → k < c 27 r → y2 98 k = c 26 (r * 12 + k) := fun k k0 k1 => by
            rw [← hy2, hLay_in k0 (by omega), oy1.1 84 (by decide) (by decide), show 12 * r + (k - 0) = 12 * r + k by omega]
            exact x2 k k0 k1
          have B2 : MB y2 := ⟨by omega, by omega, fun k k0 k1 => by rw [b23] at k1; rw [b98 k k0 k1]; exact l4 k k0 k1⟩
          have q2 : pB y2 = tX c r := pad_ext b23 b98
          have ec : ∀ x, 4 ≤ x → x ≤ 20 → y2 x = c x := fun x x3 x4 => by rw [f20 x x3 x4]; exact e20 x x3 x4
          obtain ⟨y3, t1, t2, t3, t4⟩ := m_tries (h := y2) (b := b) (md := 0) (C := c 8) (S := SW c) P2 S2 W2 B2 (fun w w0 w1 => by
            rw [ec 5 (by decide) (by decide)] at w1
            rw [oy2.1 87 (by decide) (by decide), (hW.2 w w0 (by rw [e20 5 (by decide) (by decide)]; exact w1)).1, e20 8 (by decide) (by decide)]) (fun w w0 w1 => by
            rw [ec 5 (by decide) (by decide)] at w1
            obtain ⟨c1, c2, c3, c4⟩ := SW_d hWc hWtc rfl rfl w0 w1
            refine ⟨fun z hz => c4 z ?_, c2, c3⟩
            rw [hz, oy2.2 15 (by decide), hWt.1, e20 4 (by decide) (by decide), hWtc.1])
          rw [q2, b23, ec 5 (by decide) (by decide), DW_cg (fun x x3 x4 => ec x (by omega) x4)] at t3 t4
          have eff : fl (c 8) (DW c (tX c r) (c 27 r) 0) (SW c) b (c 5 2).toNat = ffl c b r := rfl
          rw [eff] at t3 t4
          have o3 : off [97, 98, 99, 116, 124, 125, 126] [22, 23, 57, 83, 84] y1 y3 := off_w (off_tr o2 t2) (by decide) (by decide)
          have F := fl_ok (C := c 8) (D := DW c (tX c r) (c 27 r) 0) (S := SW c) (b := b) (c 5 2).toNat
          rw [eff] at F
          have N200 := Wd_n hWc.1
          rw [tkB, xc1_some, t1, xc1_some, t3]
          by_cases d : 0 < (ffl c b r).2
          · obtain ⟨u1, u2, -⟩ := t4 0 (by omega) d
            simp only [Int.reduceAdd] at u1 u2
            have fa := F.2.2.1 0 (by omega) d
            rw [if_pos d, xgd_pos (by decide) (by decide), xgd_pos r0 (by omega), xlet_eq, xgd_pos (by decide) (by decide), xgd_pos r0 (by omega), xlet_eq, e100, u1, xup_row (o' := 125) (by decide), u2]
            refine ⟨_, rfl, fin _ (off_w (off_tr oy1 (off_tr o3 (off_tr (off_up (by decide)) (off_up (by decide))))) (by decide) (by decide)) (fun j hj => ⟨?_, ?_⟩) ⟨?_, fun _ _ => ⟨?_, ?_⟩⟩, by dsimp only; omega⟩
            · dsimp only
              rw [xup_nk hj, xup_nk hj, o3.1 140 (by decide) (by decide)]; exact n140 j hj
            · dsimp only
              rw [xup_nk hj, xup_nk hj, o3.1 141 (by decide) (by decide), o1.1 141 (by decide) (by decide)]
            · dsimp only
              rw [xup_row (by decide), xup_same]
              exact ⟨fun z => by omega, fun z => absurd ⟨a, d⟩ z⟩
            · dsimp only
              rw [xup_row (by decide), xup_same]
            · dsimp only
              rw [xup_same]
          · rw [if_neg d, e100]
            refine ⟨_, rfl, fin _ (off_w (off_tr oy1 o3) (by decide) (by decide)) (fun j hj => ⟨?_, ?_⟩) ⟨?_, fun _ z => absurd z d⟩, by dsimp only; omega⟩
            · dsimp only
              rw [o3.1 140 (by decide) (by decide)]; exact n140 j hj
            · dsimp only
              rw [o3.1 141 (by decide) (by decide), o1.1 141 (by decide) (by decide)]
            · dsimp only
              rw [o3.1 140 (by decide) (by decide), e140]
              exact ⟨fun _ z => d z.2, fun _ => rfl⟩
        · rw [if_neg a, e100]
          refine ⟨_, rfl, fin _ oy1 (fun j hj => ⟨n140 j hj, by dsimp only; rw [o1.1 141 (by decide) (by decide)]⟩) ⟨?_, fun z _ => absurd z a⟩, by dsimp only; omega⟩
          dsimp only
          rw [e140]
          exact ⟨fun _ z => a z.1, fun _ => rfl⟩
      · right
        exact ⟨y, by rw [if_neg q], yo, fun r' x0 x1 => ym r' x0 (by omega)⟩) ⟨Int.le_refl _, n0, off_rf, fun r x0 x1 => by dsimp only at x1; omega⟩
  exact ⟨y, e, a1, a2⟩
theorem PK_MP (hT : TX c m) (b0 : 0 ≤ b) (b1 : b ≤ 99999) : PK (c 25 2) (MP c b) := by
  obtain ⟨hR, hx, h2, hP, hS, hW, ⟨hWt, hPc, hSc, hWc, hWtc⟩, e20, hn⟩ := id hT
  have n12 := hR.2.2.2.2.1
  have n0 := hR.2.2.2.1
  have q8 := hPc.2.1.2
  have q9 := hPc.2.2.1.2
  refine ⟨n0, n12, fun r r0 r1 => ?_, fun r hr => ?_, fun k r k0 k1 r0 r1 hk => ?_⟩
  · by_cases a : nW c (tX c r) = -1
    · exact ⟨4, by decide, by decide, by rw [MP_4, if_pos a]; omega⟩
    · exact ⟨0, by decide, by decide, by rw [MP_0, if_neg a]; decide⟩
  · by_cases z : r + 1 < c 25 2 ∧ ¬ (nW c (tX c r) ≠ -1 ∧ nW c (tX c (r + 1)) ≠ -1) ∧ c 27 r + c 27 (r + 1) ≤ 12 ∧ nW c (catX c r) ≠ -1
    · omega
    · rw [MP_2, if_neg z] at hr
      exact absurd rfl hr
  · obtain ⟨l1, l2, l3, l4⟩ := tl_b hR r0 r1
    have kk : k = 0 ∨ k = 1 ∨ k = 2 ∨ k = 3 ∨ k = 4 := by omega
    rcases kk with rfl | rfl | rfl | rfl | rfl
    · rw [MP_0] at hk ⊢
      by_cases z : nW c (tX c r) = -1
      · rw [if_pos z] at hk; exact absurd rfl hk
      · rw [if_neg z]; omega
    · rw [MP_1] at hk ⊢
      by_cases a : nW c (tX c r) = -1
      · rw [if_pos a] at hk ⊢
        by_cases d : 0 < (ffl c b r).2
        · rw [if_pos d]
          have hq : LR (c 27 r) (tX c r) := ⟨by omega, l2, fun k => c 26 (r * 12 + k), rfl, l4⟩
          have F := fl_ok (C := c 8) (D := DW c (tX c r) (c 27 r) 0) (S := SW c) (b := b) (c 5 2).toNat
          have eff : fl (c 8) (DW c (tX c r) (c 27 r) 0) (SW c) b (c 5 2).toNat = ffl c b r := rfl
          rw [eff] at F
          have fa := F.2.2.1 0 (by omega) d
          have fb := ffl_le (r := r) (b := b) (c := c) d
          have N200 := Wd_n hWc.1
          have := DW_b (md := 0) (w := (ffl c b r).1 0) (h := c) (q := tX c r) (m := c 27 r) hPc hSc hWc.1 hq fa.1 (by omega)
          omega
        · rw [if_neg d] at hk; exact absurd rfl hk
      · rw [if_neg a] at hk; exact absurd rfl hk
    · by_cases z : r + 1 < c 25 2 ∧ ¬ (nW c (tX c r) ≠ -1 ∧ nW c (tX c (r + 1)) ≠ -1) ∧ c 27 r + c 27 (r + 1) ≤ 12 ∧ nW c (catX c r) ≠ -1
      · rw [MP_2, if_pos z]; omega
      · rw [MP_2, if_neg z] at hk
        exact absurd rfl hk
    · rw [MP_3] at hk ⊢
      by_cases a : nW c (tX c r) = -1
      · rw [if_pos a] at hk ⊢
        by_cases d : jn c r = -1
        · rw [if_pos d] at hk; exact absurd rfl hk
        · rw [if_neg d]; omega
      · rw [if_neg a] at hk; exact absurd rfl hk
    · rw [MP_4] at hk ⊢
      by_cases a : nW c (tX c r) = -1
      · rw [if_pos a]; omega
      · rw [if_neg a] at hk; exact absurd rfl hk
end
