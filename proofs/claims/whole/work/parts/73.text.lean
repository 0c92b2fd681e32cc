/-! A WHOLE TEXT is read -/
/-- the model holds the class's rows of the text -/
def TXT (c y : xH) : Prop := ∀ r, 0 ≤ r → r < c 25 2 → y 83 r = c 27 r ∧ ∀ k, 0 ≤ k → k < c 27 r → y 84 (12 * r + k) = c 26 (r * 12 + k)
noncomputable def cstp (n : Int) : Int × Int × xH → Option ((Int × Int × xH) ⊕ ((Int × xH) ⊕ (Int × xH))) := fun s => f_Tape_takeText_s20 25 23 n s.1 s.2.1 s.2.2
theorem rdT {n : Int} {t : Int → Int} (n1 : n ≤ 240) (hb : byt t n) : ∀ (m : Nat) (a i : Int) (C M : xH), (n + 1 - a).toNat = m → 0 ≤ a → a ≤ n + 1 → 0 ≤ i → i ≤ 12 → (i < 12 ∨ a = n + 1) → (∀ k, 0 ≤ k → k < n → C 3 k = t k) → (∀ k, 0 ≤ k → k < n → M 82 k = t k) → RO 25 12 C → C 25 2 = i → M 81 2 = i → TXT C M →
    (∃ C' M', xloop (cstp n) (a, i, C) = some (Sum.inl (n + 1, C')) ∧ xloop (mstep 32 12 12 n) (0, a, M) = some (Sum.inl M') ∧ off [23, 24, 25, 26, 27] [] C C' ∧ (∀ o, o ≠ 81 → o ≠ 83 → o ≠ 84 → M' o = M o) ∧ (∀ j, j ≠ 2 → M' 81 j = M 81 j) ∧ RO 25 12 C' ∧ M' 81 2 = C' 25 2 ∧ TXT C' M' ∧ (a ≤ n → i + 1 ≤ C' 25 2)) ∨
    (∃ q C' M', xloop (cstp n) (a, i, C) = some q ∧ xsw q (fun b => f_Tape_takeText_77 n b.1 b.2) (fun r => some r) = some (0, C') ∧ xloop (mstep 32 12 12 n) (0, a, M) = some (Sum.inr (0, M')) ∧ off [23, 24, 25, 26, 27] [] C C' ∧ (∀ o, o ≠ 81 → o ≠ 83 → o ≠ 84 → M' o = M o) ∧ ∀ j, j ≠ 2 → M' 81 j = M 81 j) := by
  intro m
  induction m using Nat.strongRecOn with
  | ind m ih =>
    intro a i C M hm a0 a1 i0 i1 hi hC hM hR hCi hMi hT
    by_cases z : n < a
    · left
      have ea : a = n + 1 := by omega
      subst ea
      refine ⟨C, M, xloop_out ?_, mexit, off_rf, fun _ _ _ _ => rfl, fun _ _ => rfl, hR, by rw [hMi, hCi], hT, fun c => by omega⟩
      unfold cstp f_Tape_takeText_s20
      dsimp only
      by_cases y : i < 12
      · rw [if_pos y, if_pos z]
      · rw [if_neg y]
    · have i12 : i < 12 := by omega
      obtain ⟨e, s1, s2⟩ := s_Tape_seek (sg := 32) (a := a) (n := n) (h := C) a0 (by omega) n1
      have s3 : fstP (M 82) 32 a n e := fst_ext (fun k k0 k1 => by rw [hM k k0 k1, hC k k0 k1]) a0 s2
      obtain ⟨f1, f2, f3, f4⟩ := id s2
      obtain ⟨b, D, d1, d2, d3⟩ := s_Tape_read (n := n) (a := a) (e := e) (lo := 12) (t := 23) (h := C) a0 (by omega) (by omega) (by omega) (by omega) (by decide) (fun k k0 k1 => by rw [hC k k0 (by omega)]; exact hb k k0 (by omega))
      have oD : off [23, 24] [] C D := ⟨fun o _ hn => d2 o (fun z => hn (by simp [z])) (fun z => hn (by simp [z])), fun j _ => by rw [d2 81 (by decide) (by decide)]⟩
      have mr := mread (sg := 32) (most := 12) (lo := 12) (n := n) (a := a) (e := e) (h := M) (by omega) (by omega) (by omega) a0 n1 (fun k k0 k1 => by rw [hM k k0 k1]; exact hb k k0 k1) s3
      have sg : seg (M 82) a e 12 ↔ seg (C 3) a e 12 := seg_ext (n := n) (fun k k0 k1 => by rw [hM k k0 k1, hC k k0 k1]) a0 f2
      rw [hMi, sg] at mr
      have step0 : cstp n (a, i, C) = xc2 (f_Tape_read a e 12 23 C) (fun r2 h3 => if r2 = 0 then (some (Sum.inr (Sum.inr (0, h3)))) else (xc1 (f_Rows_append 25 23 h3) (fun h4 => xlet (w32 (e + 1)) (fun x5 => xlet (w32 (i + 1)) (fun x6 => some (Sum.inl (x5, x6, h4))))))) := by
        unfold cstp f_Tape_takeText_s20
        dsimp only
        rw [if_pos i12, if_neg z, s1, xc1_some]
      rcases d3 with ⟨rfl, d3, d4⟩ | ⟨rfl, d3⟩
      · have T23 : TO 23 D := by rw [d4]; exact TO_hRow d3.1 d3.2.1 (fun k k0 k1 => by have := d3.2.2 (a + k) (by omega) (by omega); omega)
        have RD : RO 25 12 D := RO_off oD (by decide) hR
        have D25 : D 25 2 = i := by rw [oD.1 25 (by decide) (by decide)]; exact hCi
        obtain ⟨E, g1, g2, g3, g4, g5, g6, g7⟩ := RO_append RD T23 (by rw [D25]; exact i12) (by unfold apart; decide)
        rw [D25] at g3 g5 g6 g7
        simp only [Int.reduceAdd] at g2 g5 g6 g7
        have oE : off [23, 24, 25, 26, 27] [] C E := ⟨fun o o0 hn => by rw [g2 o (fun z => hn (by simp [z])) (fun z => hn (by simp [z])) (fun z => hn (by simp [z]))]; exact oD.1 o o0 (fun z => hn (by simp at z ⊢; omega)), fun j _ => by rw [g2 81 (by decide) (by decide) (by decide)]; exact oD.2 j (by simp)⟩
        have step : cstp n (a, i, C) = some (Sum.inl (e + 1, i + 1, E)) := by
          rw [step0, d1, xc2_some, if_neg (by decide), g1, xc1_some, w32_id (by omega) (by omega), xlet_eq, w32_id (by omega) (by omega), xlet_eq]
        have D23 : D 23 1 = e - a := by rw [d4, hRow_size]
        have D24 : ∀ k, 0 ≤ k → k < e - a → D 24 k = C 3 (a + k) - 97 := fun k k0 k1 => by rw [d4]; exact hRow_let k0 k1
        have l12 := d3.2.1
        have TE : TXT E (mrow i a e M) := by
          intro r r0 r1
          rw [g3] at r1
          by_cases c : r = i
          · rw [c, mrow_len, g6, D23]
            refine ⟨rfl, fun k k0 k1 => ?_⟩
            rw [mrow_let k0 k1, g7 k k0 (by omega), D24 k k0 k1, hM _ (by omega) (by omega), hC _ (by omega) (by omega)]
          · obtain ⟨u1, u2⟩ := g5 r r0 (by omega)
            obtain ⟨v1, v2⟩ := hT r r0 (by omega)
            have D27 : D 27 = C 27 := oD.1 27 (by decide) (by decide)
            have D26 : D 26 = C 26 := oD.1 26 (by decide) (by decide)
            obtain ⟨x1, x2, x3⟩ := hR.2.2.2.2.2 r r0 (by omega)
            simp only [Int.reduceAdd] at x1 x2
            rw [mrow_len' c, u1, D27]
            refine ⟨v1, fun k k0 k1 => ?_⟩
            rw [mrow_let' (by omega), u2 k k0 (by omega), D26]
            exact v2 k k0 k1
        rw [xloop_in step]
        rcases mr with ⟨m1, m2, m3⟩ | ⟨m1, M', m2, m3, m4⟩
        · rw [m3]
          have eM : mrow i a e M 82 = M 82 := mrow_row (by decide) (by decide) (by decide)
          have := ih (n + 1 - (e + 1)).toNat (by omega) (e + 1) (i + 1) E (mrow i a e M) rfl (by omega) (by omega) (by omega) (by omega) (by omega) (fun k k0 k1 => by rw [oE.1 3 (by decide) (by decide)]; exact hC k k0 k1) (fun k k0 k1 => by rw [eM]; exact hM k k0 k1) g4 g3 mrow_n TE
          rcases this with ⟨C', M', c1, c2, c3, c4, c5, c6, c7, c8, c9⟩ | ⟨q, C', M', c1, c2, c3, c4, c5, c6⟩
          · refine Or.inl ⟨C', M', c1, c2, off_w (off_tr oE c3) (by decide) (by decide), fun o o1 o2 o3 => by rw [c4 o o1 o2 o3, mrow_row o1 o2 o3], fun j hj => by rw [c5 j hj, mrow_81 hj], c6, c7, c8, fun _ => ?_⟩
            by_cases y : e + 1 ≤ n
            · have := c9 y; omega
            · have ee : e + 1 = n + 1 := by omega
              have c1' : xloop (cstp n) (e + 1, i + 1, E) = some (Sum.inl (e + 1, E)) := xloop_out (by
                unfold cstp f_Tape_takeText_s20
                dsimp only
                by_cases x : i + 1 < 12
                · rw [if_pos x, if_pos (by omega)]
                · rw [if_neg x])
              rw [c1'] at c1
              have : E = C' := (Prod.mk.inj (Sum.inl.inj (Option.some.inj c1))).2
              rw [← this, g3]
              exact Int.le_refl _
          · exact Or.inr ⟨q, C', M', c1, c2, c3, off_w (off_tr oE c4) (by decide) (by decide), fun o o1 o2 o3 => by rw [c5 o o1 o2 o3, mrow_row o1 o2 o3], fun j hj => by rw [c6 j hj, mrow_81 hj]⟩
        · right
          have en : e < n ∧ i + 1 = 12 := by
            by_cases x : e = n
            · exact absurd ⟨d3, Or.inr x⟩ m1
            · by_cases y : i + 1 = 12
              · exact ⟨by omega, y⟩
              · exact absurd ⟨d3, Or.inl ⟨by omega, y⟩⟩ m1
          refine ⟨Sum.inl (e + 1, E), E, M', xloop_out ?_, ?_, m2, oE, m3, m4⟩
          · unfold cstp f_Tape_takeText_s20
            dsimp only
            rw [if_neg (by omega)]
          · rw [xsw_l]
            unfold f_Tape_takeText_77
            rw [if_neg (by omega)]
      · right
        rcases mr with ⟨m1, _⟩ | ⟨m1, M', m2, m3, m4⟩
        · exact absurd m1 d3
        · exact ⟨Sum.inr (0, D), D, M', xloop_out (by rw [step0, d1, xc2_some, if_pos rfl]), by rw [xsw_r], m2, off_w oD (by decide) (by decide), m3, m4⟩
theorem rdText {h : xH} (hT : Tp h) : (∃ c y, f_Tape_takeText 25 23 h = some (1, c) ∧ off [2, 23, 24, 25, 26, 27] [] h c ∧ c 2 1 = 0 ∧ RO 25 12 c ∧ 1 ≤ c 25 2 ∧ f_Md_reads 32 12 12 h = some (1, y) ∧ mfr h y ∧ y 81 2 = c 25 2 ∧ TXT c y) ∨
    ∃ c y, f_Tape_takeText 25 23 h = some (0, c) ∧ off [2, 23, 24, 25, 26, 27] [] h c ∧ c 2 1 = 0 ∧ f_Md_reads 32 12 12 h = some (0, y) ∧ mfr h y := by
  obtain ⟨t1, t2, t3, t4, t5⟩ := hT
  have e82 : xup (xup h 81 2 0) 81 1 0 82 = h 82 := by simp (disch := omega) only [↓if_pos, ↓if_neg, ↓xgd_pos, ↓xgb_pos, ↓xgc_pos, ↓xlet_eq, xc1_some, xc2_some, w32_id, xup_same, xup_row, xup_ne_j, xsw_l, xsw_r]
  have e81 : xup (xup h 81 2 0) 81 1 0 81 2 = 0 := by simp (disch := omega) only [↓if_pos, ↓if_neg, ↓xgd_pos, ↓xgb_pos, ↓xgc_pos, ↓xlet_eq, xc1_some, xc2_some, w32_id, xup_same, xup_row, xup_ne_j, xsw_l, xsw_r]
  have o0 : off [2, 25] [] h (xup (xup h 2 1 0) 25 2 0) := off_w (off_tr (off_up (by decide)) (off_up (by decide))) (by decide) (by decide)
  have key := rdT (n := h 2 1) (t := h 3) t2 t4 _ 0 0 (xup (xup h 2 1 0) 25 2 0) (xup (xup h 81 2 0) 81 1 0) rfl (by omega) (by omega) (by omega) (by omega) (by omega) (fun k _ _ => by rw [o0.1 3 (by decide) (by decide)]) (fun k k0 k1 => by rw [e82]; exact t5 k k0 k1) ⟨rfl, rfl, by omega, by rw [xup_same]; exact Int.le_refl _, by rw [xup_same]; omega, fun r r0 r1 => by rw [xup_same] at r1; omega⟩ xup_same e81 (fun r r0 r1 => by rw [xup_same] at r1; omega)
  have ecl : f_Tape_takeText 25 23 h = xc1 (xloop (cstp (h 2 1)) (0, 0, xup (xup h 2 1 0) 25 2 0)) (fun q => xsw q (fun b => f_Tape_takeText_77 (h 2 1) b.1 b.2) (fun r => some r)) := by
    unfold f_Tape_takeText f_Rows_clear
    rw [xlet_eq, xlet_eq, xlet_eq, xc1_some]
    rfl
  have mf : ∀ M' : xH, (∀ o, o ≠ 81 → o ≠ 83 → o ≠ 84 → M' o = xup (xup h 81 2 0) 81 1 0 o) → (∀ j, j ≠ 2 → M' 81 j = xup (xup h 81 2 0) 81 1 0 81 j) → mfr h M' := fun M' m1 m2 => ⟨fun o b1 b2 b3 => by rw [m1 o b1 b2 b3, xup_row b1, xup_row b1], fun j b1 b2 => by rw [m2 j b2, xup_ne_j b1, xup_ne_j b2], by rw [m2 1 (by decide), xup_same]⟩
  rcases key with ⟨C', M', c1, c2, c3, c4, c5, c6, c7, c8, c9⟩ | ⟨q, C', M', c1, c2, c3, c4, c5, c6⟩
  · left
    have o1 : off [2, 23, 24, 25, 26, 27] [] h C' := off_w (off_tr o0 c3) (by decide) (by decide)
    refine ⟨C', M', ?_, o1, ?_, c6, by have := c9 t1; omega, ?_, mf M' c4 c5, c7, c8⟩
    · rw [ecl, c1, xc1_some, xsw_l]
      unfold f_Tape_takeText_77
      rw [if_pos (by omega)]
    · rw [c3.1 2 (by decide) (by decide), xup_row (by decide), xup_same]
    · rw [← t3] at c2
      rw [s_Md_reads c2]
      rfl
  · right
    have o1 : off [2, 23, 24, 25, 26, 27] [] h C' := off_w (off_tr o0 c4) (by decide) (by decide)
    refine ⟨C', M', ?_, o1, ?_, ?_, mf M' c5 c6⟩
    · rw [ecl, c1, xc1_some, c2]
    · rw [c4.1 2 (by decide) (by decide), xup_row (by decide), xup_same]
    · rw [← t3] at c3
      rw [s_Md_reads c3]
      rfl
