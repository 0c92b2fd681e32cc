/-! PUT -/
noncomputable def tru (h : xH) (n k : Int) : Int := @ite _ (∃ j, 0 ≤ j ∧ j < h 7 n ∧ rp h 5 n j = k) (Classical.propDecidable _) 1 0
def SZ (h : xH) (w n : Int) : Int := if w = 1 then h 7 n else if w = 2 then h 49 7 else if w = 3 then 6 else if w = 4 then 26 else 0
noncomputable def FV (h : xH) (w n k : Int) : Int := if w = 1 then rp h 5 n k else if w = 2 then h 54 (n * 13 + k) else if w = 3 then h 10 (k + 1) else tru h n k
/-- a tray with its first cells -/
def LY (t k : Int) (f : Int → Int) (h : xH) : xH := xup (hLay 80 (t * 26) k f h) 79 t k
theorem LY_row {t k : Int} {f : Int → Int} {h : xH} {o : Int} (h1 : o ≠ 79) (h2 : o ≠ 80) : LY t k f h o = h o := by
  unfold LY
  rw [xup_row h1, hLay_row h2]
theorem LY_lay {t k : Int} {f : Int → Int} {h : xH} (t0 : 0 ≤ t) (t1 : t < 8) (k0 : 0 ≤ k) (k1 : k < 26) : f_Trays_lay t (f k) (LY t k f h) = some (LY t (k + 1) f h) := by
  have e79 : LY t k f h 79 t = k := by unfold LY; rw [xup_same]
  unfold f_Trays_lay
  rw [if_neg (by omega), if_pos t1, xgd_pos t0 t1, e79, if_neg (by omega), xgd_pos t0 t1, if_pos k1, xgd_pos t0 t1, w32_id (z := t * 26) (by omega) (by omega), w32_id (z := t * 26 + k) (by omega) (by omega), xgd_pos (by omega) (by omega), xlet_eq, xgd_pos t0 t1, xgd_pos t0 t1, xup_row (o' := 79) (by decide), e79, w32_id (by omega) (by omega), xlet_eq]
  unfold LY
  rw [xup_comm (o := 79) (o2 := 80) (Or.inl (by decide)), xup_idem, hLay_succ k0]
section
variable {h y : xH} {t n : Int}
theorem s_layLetters (W : Wd0 h) (t0 : 0 ≤ t) (t1 : t < 8) (n0 : 0 ≤ n) (n1 : n < h 5 2) (e : ∀ o, 5 ≤ o → o ≤ 7 → y o = h o) : f_WM_layLetters t n (xup y 79 t 0) = some (LY t (h 7 n) (rp h 5 n) y) := by
  obtain ⟨l1, l2, l3⟩ := Wd_len W n0 n1
  unfold f_WM_layLetters f_WM_layLetters_2 f_WM_layLetters_43
  have R : ∀ k : Int, RO 5 200 (LY t k (rp h 5 n) y) := fun k => RO_congr (by rw [LY_row (by decide) (by decide)]; exact e 5 (by decide) (by decide)) (by rw [LY_row (by decide) (by decide)]; exact e 6 (by decide) (by decide)) (by rw [LY_row (by decide) (by decide)]; exact e 7 (by decide) (by decide)) W.1
  have e5 : ∀ k : Int, LY t k (rp h 5 n) y 5 = h 5 := fun k => by rw [LY_row (by decide) (by decide)]; exact e 5 (by decide) (by decide)
  have e7 : ∀ k : Int, LY t k (rp h 5 n) y 7 = h 7 := fun k => by rw [LY_row (by decide) (by decide)]; exact e 7 (by decide) (by decide)
  have er : ∀ k : Int, rp (LY t k (rp h 5 n) y) 5 n = rp h 5 n := fun k => rp_congr (by rw [LY_row (by decide) (by decide)]; exact e 6 (by decide) (by decide)) (by rw [LY_row (by decide) (by decide)]; exact e 7 (by decide) (by decide))
  have key := xloop_T (step := fun s : Int × xH => f_WM_layLetters_s2 t n s.1 s.2) (fun k => ((k : Int), LY t k (rp h 5 n) y)) (h 7 n).toNat (s0 := (0, xup y 79 t 0)) (b := LY t (h 7 n) (rp h 5 n) y) (by rw [show ((0 : Nat) : Int) = 0 from rfl]; unfold LY; rw [hLay_0])
    (fun k hk => by
      dsimp only [f_WM_layLetters_s2]
      rw [s_Rows_sizeOf' (R k) n0 (by rw [e5]; exact n1), xc1_some, show (5 + 2 : Int) = 7 from rfl, e7, if_pos (by omega), s_Rows_at' (R k) (by omega) n0 (by rw [e5]; exact n1), xc1_some, er, LY_lay t0 t1 (by omega) (by omega), xc1_some, w32_id (by omega) (by omega), xlet_eq]
      rfl)
    (by
      dsimp only [f_WM_layLetters_s2]
      rw [s_Rows_sizeOf' (R _) n0 (by rw [e5]; exact n1), xc1_some, show (5 + 2 : Int) = 7 from rfl, e7, if_neg (by omega), show (((h 7 n).toNat : Nat) : Int) = h 7 n by omega])
  rw [key, xc1_some]
theorem s_layState (hM : 0 ≤ h 49 5 ∧ h 49 5 ≤ 2401 ∧ 1 ≤ h 49 7 ∧ h 49 7 ≤ 13) (t0 : 0 ≤ t) (t1 : t < 8) (n0 : 0 ≤ n) (n1 : n < h 49 5) (e : y 49 = h 49 ∧ y 54 = h 54) : f_WM_layState t n (xup y 79 t 0) = some (LY t (h 49 7) (fun k => h 54 (n * 13 + k)) y) := by
  unfold f_WM_layState f_WM_layState_2 f_WM_layState_42
  have e49 : ∀ k : Int, LY t k (fun k => h 54 (n * 13 + k)) y 49 = h 49 := fun k => by rw [LY_row (by decide) (by decide)]; exact e.1
  have e54 : ∀ k : Int, LY t k (fun k => h 54 (n * 13 + k)) y 54 = h 54 := fun k => by rw [LY_row (by decide) (by decide)]; exact e.2
  have key := xloop_T (step := fun s : Int × xH => f_WM_layState_s2 t n s.1 s.2) (fun k => ((k : Int), LY t k (fun k => h 54 (n * 13 + k)) y)) (h 49 7).toNat (s0 := (0, xup y 79 t 0)) (b := LY t (h 49 7) (fun k => h 54 (n * 13 + k)) y) (by rw [show ((0 : Nat) : Int) = 0 from rfl]; unfold LY; rw [hLay_0])
    (fun k hk => by
      dsimp only [f_WM_layState_s2]
      have la := LY_lay (f := fun k => h 54 (n * 13 + k)) (h := y) t0 t1 (show 0 ≤ (k : Int) by omega) (by omega)
      rw [e49, if_pos (by omega), s_Met_stateAt (by rw [e49]; omega) (by rw [e49]; omega) (by omega) (by rw [e49]; omega), xc1_some, e49, e54, if_pos (by omega), la, xc1_some, w32_id (by omega) (by omega), xlet_eq]
      rfl)
    (by
      dsimp only [f_WM_layState_s2]
      rw [e49, if_neg (by omega), show (((h 49 7).toNat : Nat) : Int) = h 49 7 by omega])
  rw [key, xc1_some]
theorem s_layPrices (t0 : 0 ≤ t) (t1 : t < 8) (e : y 10 = h 10) : f_WM_layPrices t (xup y 79 t 0) = some (LY t 6 (fun k => h 10 (k + 1)) y) := by
  unfold f_WM_layPrices f_WM_layPrices_2 f_WM_layPrices_30
  have e10 : ∀ k : Int, LY t k (fun k => h 10 (k + 1)) y 10 = h 10 := fun k => by rw [LY_row (by decide) (by decide)]; exact e
  have key := xloop_T (step := fun s : Int × xH => f_WM_layPrices_s2 t s.1 s.2) (fun k => ((k : Int) + 1, LY t k (fun k => h 10 (k + 1)) y)) 6 (s0 := (1, xup y 79 t 0)) (b := LY t 6 (fun k => h 10 (k + 1)) y) (by rw [show ((0 : Nat) : Int) = 0 from rfl]; unfold LY; rw [hLay_0]; rfl)
    (fun k hk => by
      dsimp only [f_WM_layPrices_s2]
      have la := LY_lay (f := fun k => h 10 (k + 1)) (h := y) t0 t1 (show 0 ≤ (k : Int) by omega) (by omega)
      have kp : f_Slips_kindPrice ((k : Int) + 1) (LY t k (fun k => h 10 (k + 1)) y) = some (h 10 ((k : Int) + 1)) := by
        unfold f_Slips_kindPrice
        rw [if_neg (by omega), if_pos (by omega), xgd_pos (by omega) (by omega), e10]
      rw [if_neg (by omega), kp, xc1_some, la, xc1_some, w32_id (by omega) (by omega), xlet_eq]
      rfl)
    (by
      dsimp only [f_WM_layPrices_s2]
      rw [if_pos (by omega)]
      rfl)
  rw [key, xc1_some]
theorem s_layTruths (W : Wd0 h) (t0 : 0 ≤ t) (t1 : t < 8) (n0 : 0 ≤ n) (n1 : n < h 5 2) (e : ∀ o, 5 ≤ o → o ≤ 7 → y o = h o) : f_WM_layTruths t n (xup y 79 t 0) = some (LY t 26 (tru h n) y) := by
  obtain ⟨l1, l2, l3⟩ := Wd_len W n0 n1
  unfold f_WM_layTruths f_WM_layTruths_2 f_WM_layTruths_72
  have R : ∀ k : Int, RO 5 200 (LY t k (tru h n) y) := fun k => RO_congr (by rw [LY_row (by decide) (by decide)]; exact e 5 (by decide) (by decide)) (by rw [LY_row (by decide) (by decide)]; exact e 6 (by decide) (by decide)) (by rw [LY_row (by decide) (by decide)]; exact e 7 (by decide) (by decide)) W.1
  have e5 : ∀ k : Int, LY t k (tru h n) y 5 = h 5 := fun k => by rw [LY_row (by decide) (by decide)]; exact e 5 (by decide) (by decide)
  have e7 : ∀ k : Int, LY t k (tru h n) y 7 = h 7 := fun k => by rw [LY_row (by decide) (by decide)]; exact e 7 (by decide) (by decide)
  have er : ∀ k : Int, rp (LY t k (tru h n) y) 5 n = rp h 5 n := fun k => rp_congr (by rw [LY_row (by decide) (by decide)]; exact e 6 (by decide) (by decide)) (by rw [LY_row (by decide) (by decide)]; exact e 7 (by decide) (by decide))
  have key := xloop_T (step := fun s : Int × xH => f_WM_layTruths_s2 t n s.1 s.2) (fun k => ((k : Int), LY t k (tru h n) y)) 26 (s0 := (0, xup y 79 t 0)) (b := LY t 26 (tru h n) y) (by rw [show ((0 : Nat) : Int) = 0 from rfl]; unfold LY; rw [hLay_0])
    (fun k hk => by
      dsimp only [f_WM_layTruths_s2]
      rw [if_pos (by omega)]
      unfold f_WM_layTruths_14
      obtain ⟨v, e1, e2⟩ := xloop_W (step := fun s : Int × Int => f_WM_layTruths_s14 t n k s.1 s.2 (LY t k (tru h n) y)) (I := fun s => 0 ≤ s.2 ∧ s.2 ≤ h 7 n ∧ (s.1 = 1 ∧ (∃ j, 0 ≤ j ∧ j < s.2 ∧ rp h 5 n j = k) ∨ s.1 = 0 ∧ ∀ j, 0 ≤ j → j < s.2 → rp h 5 n j ≠ k)) (fun s => (h 7 n - s.2).toNat)
        (post := fun v => v = tru h n k) (s := (0, 0)) (by
          rintro ⟨v, j⟩ hI
          dsimp only at hI ⊢
          obtain ⟨j0, j1, hv⟩ := hI
          unfold f_WM_layTruths_s14 f_WM_layTruths_50
          rw [s_Rows_sizeOf' (R k) n0 (by rw [e5]; exact n1), xc1_some, show (5 + 2 : Int) = 7 from rfl, e7]
          by_cases q : j < h 7 n
          · left
            rw [if_pos q, s_Rows_at' (R k) j0 n0 (by rw [e5]; exact n1), xc1_some, er, w32_id (by omega) (by omega), xlet_eq, xlet_eq]
            by_cases a : rp h 5 n j = k
            · exact ⟨(1, j + 1), by rw [if_pos a], ⟨by dsimp only; omega, by dsimp only; omega, Or.inl ⟨rfl, j, j0, by dsimp only; omega, a⟩⟩, by dsimp only; omega⟩
            · refine ⟨(v, j + 1), by rw [if_neg a], ⟨by dsimp only; omega, by dsimp only; omega, ?_⟩, by dsimp only; omega⟩
              dsimp only
              rcases hv with ⟨v1, i, i0, i1, i2⟩ | ⟨v1, v2⟩
              · exact Or.inl ⟨v1, i, i0, by omega, i2⟩
              · refine Or.inr ⟨v1, fun i i0 i1 => ?_⟩
                by_cases x : i = j
                · rw [x]; exact a
                · exact v2 i i0 (by omega)
          · right
            refine ⟨v, by rw [if_neg q], ?_⟩
            unfold tru
            rcases hv with ⟨v1, i, i0, i1, i2⟩ | ⟨v1, v2⟩
            · rw [if_pos ⟨i, i0, by omega, i2⟩, v1]
            · rw [if_neg (fun x => by obtain ⟨i, i0, i1, i2⟩ := x; exact v2 i i0 (by omega) i2), v1]) ⟨Int.le_refl _, by dsimp only; omega, Or.inr ⟨rfl, fun j j0 j1 => by dsimp only at j1; omega⟩⟩
      rw [e1, xc1_some, e2]
      unfold f_WM_layTruths_56
      rw [LY_lay t0 t1 (by omega) (by omega), xc1_some, w32_id (by omega) (by omega), xlet_eq]
      rfl)
    (by
      dsimp only [f_WM_layTruths_s2]
      rw [if_neg (by omega)]
      rfl)
  rw [key, xc1_some]
end
/-- a thing that can be laid -/
def thg (h : xH) (w n : Int) : Prop := w = 0 ∨ w = 3 ∨ (w = 1 ∨ w = 4) ∧ 0 ≤ n ∧ n < h 5 2 ∨ w = 2 ∧ 0 ≤ n ∧ n < h 49 5
theorem s_put {h : xH} {t w n : Int} (W : Wd0 h) (hM : 0 ≤ h 49 5 ∧ h 49 5 ≤ 2401 ∧ (0 < h 49 5 → 1 ≤ h 49 7 ∧ h 49 7 ≤ 13)) : (0 ≤ t ∧ t < 8 ∧ thg h w n → f_WM_put t w n h = some (1, xup (LY t (SZ h w n) (FV h w n) (xup h 78 t w)) 77 3 0)) ∧ (¬ (0 ≤ t ∧ t < 8 ∧ thg h w n) → f_WM_put t w n h = some (-1, xup h 77 3 1)) := by
  have ref : f_WM_put_19 h = some (-1, xup h 77 3 1) := by
    unfold f_WM_put_19 f_Trays_refuse
    rw [xlet_eq, xc2_some]
  have thg_d : f_WM_isThing w n h = some 1 ∧ thg h w n ∨ f_WM_isThing w n h = some 0 ∧ ¬ thg h w n := by
    have e38 : f_WM_isThing_38 n h = some (if 0 ≤ n ∧ n < h 5 2 then 1 else 0) := by
      unfold f_WM_isThing_38
      by_cases a : n < 0
      · rw [if_pos a, if_neg (by omega)]
      · rw [if_neg a]
        by_cases d : n < h 5 2
        · rw [if_pos d, if_pos (by omega)]
        · rw [if_neg d, if_neg (by omega)]
    unfold f_WM_isThing thg
    rw [e38]
    by_cases a0 : w = 0
    · exact Or.inl ⟨by rw [if_pos a0], Or.inl a0⟩
    · rw [if_neg a0]
      by_cases a1 : w = 1
      · rw [if_pos a1]
        by_cases d : 0 ≤ n ∧ n < h 5 2
        · exact Or.inl ⟨by rw [if_pos d], by omega⟩
        · exact Or.inr ⟨by rw [if_neg d], by omega⟩
      · rw [if_neg a1]
        by_cases a2 : w = 2
        · rw [if_pos a2]
          by_cases x : n < 0
          · exact Or.inr ⟨by rw [if_pos x], by omega⟩
          · rw [if_neg x]
            by_cases d : n < h 49 5
            · exact Or.inl ⟨by rw [if_pos d], by omega⟩
            · exact Or.inr ⟨by rw [if_neg d], by omega⟩
        · rw [if_neg a2]
          by_cases a3 : w = 3
          · exact Or.inl ⟨by rw [if_pos a3], by omega⟩
          · rw [if_neg a3]
            by_cases a4 : w = 4
            · rw [if_pos a4]
              by_cases d : 0 ≤ n ∧ n < h 5 2
              · exact Or.inl ⟨by rw [if_pos d], by omega⟩
              · exact Or.inr ⟨by rw [if_neg d], by omega⟩
            · exact Or.inr ⟨by rw [if_neg a4], by omega⟩
  constructor
  · rintro ⟨t0, t1, ht⟩
    rcases thg_d with ⟨e1, _⟩ | ⟨_, e2⟩
    · have ecl : f_Trays_clear t w h = some (xup (xup h 78 t w) 79 t 0) := by
        unfold f_Trays_clear
        rw [if_neg (by omega), if_pos t1, xgd_pos t0 t1, xlet_eq, xgd_pos t0 t1, xlet_eq]
      have e89 : ∀ z, f_WM_put_89 z = some (1, xup z 77 3 0) := fun z => by
        unfold f_WM_put_89 f_Trays_done
        rw [xlet_eq, xc2_some]
      unfold f_WM_put
      rw [if_neg (by omega), if_pos t1, e1, xc1_some, if_neg (by decide), ecl, xc1_some]
      unfold thg at ht
      by_cases a1 : w = 1
      · subst a1
        have hFV : FV h 1 n = rp h 5 n := by funext k; unfold FV; rw [if_pos rfl]
        have hSZ : SZ h 1 n = h 7 n := by unfold SZ; rw [if_pos rfl]
        rw [if_pos rfl, s_layLetters W t0 t1 (by omega) (by omega) (fun o o0 o1 => xup_row (by omega)), xc1_some, e89, hFV, hSZ]
      · rw [if_neg a1]
        by_cases a2 : w = 2
        · subst a2
          have hFV : FV h 2 n = fun k => h 54 (n * 13 + k) := by funext k; unfold FV; rw [if_neg (by decide), if_pos rfl]
          have hSZ : SZ h 2 n = h 49 7 := by unfold SZ; rw [if_neg (by decide), if_pos rfl]
          have m := hM.2.2 (by omega)
          rw [if_pos rfl, s_layState (h := h) ⟨hM.1, hM.2.1, m.1, m.2⟩ t0 t1 (by omega) (by omega) ⟨xup_row (by decide), xup_row (by decide)⟩, xc1_some, e89, hFV, hSZ]
        · rw [if_neg a2]
          by_cases a3 : w = 3
          · subst a3
            have hFV : FV h 3 n = fun k => h 10 (k + 1) := by funext k; unfold FV; rw [if_neg (by decide), if_neg (by decide), if_pos rfl]
            have hSZ : SZ h 3 n = 6 := by unfold SZ; rw [if_neg (by decide), if_neg (by decide), if_pos rfl]
            rw [if_pos rfl, s_layPrices (h := h) t0 t1 (xup_row (by decide)), xc1_some, e89, hFV, hSZ]
          · rw [if_neg a3]
            by_cases a4 : w = 4
            · subst a4
              have hFV : FV h 4 n = tru h n := by funext k; unfold FV; rw [if_neg (by decide), if_neg (by decide), if_neg (by decide)]
              have hSZ : SZ h 4 n = 26 := by unfold SZ; rw [if_neg (by decide), if_neg (by decide), if_neg (by decide), if_pos rfl]
              rw [if_pos rfl, s_layTruths W t0 t1 (by omega) (by omega) (fun o o0 o1 => xup_row (by omega)), xc1_some, e89, hFV, hSZ]
            · have hSZ : SZ h w n = 0 := by unfold SZ; rw [if_neg a1, if_neg a2, if_neg a3, if_neg a4]
              rw [if_neg a4, e89, hSZ]
              unfold LY
              rw [hLay_0]
    · exact absurd ht e2
  · intro hn
    unfold f_WM_put
    rw [ref]
    by_cases a : t < 0
    · rw [if_pos a]
    · rw [if_neg a]
      by_cases d : t < 8
      · rcases thg_d with ⟨_, e1⟩ | ⟨e2, _⟩
        · exact absurd ⟨by omega, d, e1⟩ hn
        · rw [if_pos d, e2, xc1_some, if_pos rfl]
      · rw [if_neg d]
