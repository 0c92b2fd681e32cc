/-! WHAT IS READ from the tape, in the class and in the model -/
theorem fst_ex {t : Int → Int} {sg a n : Int} (h : a ≤ n) : ∃ e, fstP t sg a n e := by
  have key : ∀ (m : Nat) (a : Int), (n - a).toNat = m → a ≤ n → ∃ e, fstP t sg a n e := by
    intro m
    induction m with
    | zero => intro a h1 h2; exact ⟨a, Int.le_refl _, h2, fun k b1 b2 => by omega, fun z => by omega⟩
    | succ m ih =>
      intro a h1 h2
      by_cases q : t a = sg
      · exact ⟨a, Int.le_refl _, h2, fun k b1 b2 => by omega, fun _ => q⟩
      · obtain ⟨e, e1, e2, e3, e4⟩ := ih (a + 1) (by omega) (by omega)
        exact ⟨e, by omega, e2, fun k b1 b2 => by
          by_cases hk : k = a
          · rw [hk]; exact q
          · exact e3 k (by omega) b2, e4⟩
  exact key _ a rfl h
theorem seg_one {t : Int → Int} {sg a n e lo : Int} (hsg : ¬ (97 ≤ sg ∧ sg ≤ 122)) (hf : fstP t sg a n e) (hs : seg t a n lo) : e = n := by
  obtain ⟨f1, f2, f3, f4⟩ := hf
  by_cases q : e < n
  · have := hs.2.2 e f1 q
    rw [f4 q] at this
    exact absurd this hsg
  · omega
theorem mexit {sg most lo n : Int} {h : xH} : xloop (mstep sg most lo n) (0, n + 1, h) = some (Sum.inl h) := by
  refine xloop_out ?_
  dsimp only [mstep, f_Md_reads_s22]
  rw [if_pos (by omega)]
theorem s_Md_reads {sg most lo : Int} {h : xH} {q : xH ⊕ (Int × xH)} (hq : xloop (mstep sg most lo (h 81 1)) (0, 0, xup (xup h 81 2 0) 81 1 0) = some q) : f_Md_reads sg most lo h = some (xsw q (fun b => (1, b)) (fun r => r)) := by
  unfold f_Md_reads f_Md_reads_22
  rw [xlet_eq, xlet_eq, xlet_eq, xup_ne_j (by omega)]
  have e : (fun s : Int × Int × xH => f_Md_reads_s22 sg most lo (h 81 1) s.1 s.2.1 s.2.2) = mstep sg most lo (h 81 1) := rfl
  rw [e, hq, xc1_some]
  cases q <;> rfl
/-- the model has read: its tape is empty, only what it reads into has changed -/
def mfr (h h' : xH) : Prop := (∀ o, o ≠ 81 → o ≠ 83 → o ≠ 84 → h' o = h o) ∧ (∀ j, j ≠ 1 → j ≠ 2 → h' 81 j = h 81 j) ∧ h' 81 1 = 0
theorem s_Md_readsOne {h : xH} (hn : 0 ≤ h 81 1 ∧ h 81 1 ≤ 240) (hb : byt (h 82) (h 81 1)) : ∃ b h', f_Md_readsOne h = some (b, h') ∧ mfr h h' ∧ (b = 1 ∧ seg (h 82) 0 (h 81 1) 12 ∧ h' 83 0 = h 81 1 ∧ (∀ k, 0 ≤ k → k < h 81 1 → h' 84 k = h 82 k - 97) ∨ b = 0 ∧ ¬ seg (h 82) 0 (h 81 1) 12) := by
  obtain ⟨e, hf⟩ := fst_ex (t := h 82) (sg := 0) (a := 0) (n := h 81 1) hn.1
  have e82 : xup (xup h 81 2 0) 81 1 0 82 = h 82 := by simp (disch := omega) only [↓if_pos, ↓if_neg, ↓xgd_pos, ↓xgb_pos, ↓xgc_pos, ↓xlet_eq, xc1_some, xc2_some, w32_id, xup_same, xup_row, xup_ne_j, xsw_l, xsw_r]
  have e81 : xup (xup h 81 2 0) 81 1 0 81 2 = 0 := by simp (disch := omega) only [↓if_pos, ↓if_neg, ↓xgd_pos, ↓xgb_pos, ↓xgc_pos, ↓xlet_eq, xc1_some, xc2_some, w32_id, xup_same, xup_row, xup_ne_j, xsw_l, xsw_r]
  have hm := mread (sg := 0) (most := 1) (lo := 12) (n := h 81 1) (a := 0) (e := e) (h := xup (xup h 81 2 0) 81 1 0) (by omega) (by rw [e81]; omega) (by omega) (by omega) hn.2 (by rw [e82]; exact hb) (by rw [e82]; exact hf)
  rw [e82, e81] at hm
  rcases hm with ⟨g1, g2, g3⟩ | ⟨g1, h', g2, g3, g4⟩
  · have he : e = h 81 1 := by omega
    subst he
    rw [mexit] at g3
    refine ⟨1, mrow 0 0 (h 81 1) (xup (xup h 81 2 0) 81 1 0), by unfold f_Md_readsOne; rw [s_Md_reads g3]; rfl, ⟨fun o b1 b2 b3 => ?_, fun j b1 b2 => ?_, ?_⟩, Or.inl ⟨rfl, g1, ?_, fun k b1 b2 => ?_⟩⟩
    · rw [mrow_row b1 b2 b3, xup_row b1, xup_row b1]
    · rw [mrow_81 b2, xup_ne_j b1, xup_ne_j b2]
    · rw [mrow_81 (by omega), xup_same]
    · rw [mrow_len]; omega
    · have := mrow_let (r := 0) (a := 0) (e := h 81 1) (h := xup (xup h 81 2 0) 81 1 0) b1 (by omega)
      rw [e82, show 12 * 0 + k = k by omega, show 0 + k = k by omega] at this
      exact this
  · refine ⟨0, h', by unfold f_Md_readsOne; rw [s_Md_reads g2]; rfl, ⟨fun o b1 b2 b3 => ?_, fun j b1 b2 => ?_, ?_⟩, Or.inr ⟨rfl, fun z => g1 ?_⟩⟩
    · rw [g3 o b1 b2 b3, xup_row b1, xup_row b1]
    · rw [g4 j b2, xup_ne_j b1, xup_ne_j b2]
    · rw [g4 1 (by omega), xup_same]
    · have he := seg_one (by omega) hf z
      rw [he]
      exact ⟨z, Or.inr rfl⟩
theorem s_Md_readsTwo {lo : Int} {h : xH} (hn : 0 ≤ h 81 1 ∧ h 81 1 ≤ 240) (hlo : 1 ≤ lo ∧ lo ≤ 12) (hb : byt (h 82) (h 81 1)) {e : Int} (hf : fstP (h 82) 61 0 (h 81 1) e) : ∃ b h', f_Md_readsTwo lo h = some (b, h') ∧ mfr h h' ∧ (b = 1 ∧ seg (h 82) 0 e lo ∧ seg (h 82) (e + 1) (h 81 1) lo ∧ h' 83 0 = e ∧ h' 83 1 = h 81 1 - (e + 1) ∧ (∀ k, 0 ≤ k → k < e → h' 84 k = h 82 k - 97) ∧ (∀ k, 0 ≤ k → k < h 81 1 - (e + 1) → h' 84 (12 + k) = h 82 (e + 1 + k) - 97) ∨ b = 0 ∧ ¬ (seg (h 82) 0 e lo ∧ seg (h 82) (e + 1) (h 81 1) lo)) := by
  have e82 : xup (xup h 81 2 0) 81 1 0 82 = h 82 := by simp (disch := omega) only [↓if_pos, ↓if_neg, ↓xgd_pos, ↓xgb_pos, ↓xgc_pos, ↓xlet_eq, xc1_some, xc2_some, w32_id, xup_same, xup_row, xup_ne_j, xsw_l, xsw_r]
  have e81 : xup (xup h 81 2 0) 81 1 0 81 2 = 0 := by simp (disch := omega) only [↓if_pos, ↓if_neg, ↓xgd_pos, ↓xgb_pos, ↓xgc_pos, ↓xlet_eq, xc1_some, xc2_some, w32_id, xup_same, xup_row, xup_ne_j, xsw_l, xsw_r]
  have hm := mread (sg := 61) (most := 2) (lo := lo) (n := h 81 1) (a := 0) (e := e) (h := xup (xup h 81 2 0) 81 1 0) (by omega) (by rw [e81]; omega) hlo (by omega) hn.2 (by rw [e82]; exact hb) (by rw [e82]; exact hf)
  rw [e82, e81] at hm
  have f1 := hf.1
  have f2 := hf.2.1
  rcases hm with ⟨g1, g2, g3⟩ | ⟨g1, h', g2, g3, g4⟩
  · have m81 : mrow 0 0 e (xup (xup h 81 2 0) 81 1 0) 81 2 = 1 := mrow_n
    have m82 : mrow 0 0 e (xup (xup h 81 2 0) 81 1 0) 82 = h 82 := by rw [mrow_row (by omega) (by omega) (by omega), e82]
    by_cases q1 : e < h 81 1
    · obtain ⟨e2, hf2⟩ := fst_ex (t := h 82) (sg := 61) (a := e + 1) (n := h 81 1) (by omega)
      have hm2 := mread (sg := 61) (most := 2) (lo := lo) (n := h 81 1) (a := e + 1) (e := e2) (h := mrow 0 0 e (xup (xup h 81 2 0) 81 1 0)) (by omega) (by rw [m81]; omega) hlo (by omega) hn.2 (by rw [m82]; exact hb) (by rw [m82]; exact hf2)
      rw [m82, m81] at hm2
      rcases hm2 with ⟨k1, k2, k3⟩ | ⟨k1, h', k2, k3, k4⟩
      · have he : e2 = h 81 1 := by omega
        subst he
        rw [mexit] at k3
        rw [k3] at g3
        refine ⟨1, mrow 1 (e + 1) (h 81 1) (mrow 0 0 e (xup (xup h 81 2 0) 81 1 0)), ?_, ⟨fun o b1 b2 b3 => ?_, fun j b1 b2 => ?_, ?_⟩, Or.inl ⟨rfl, g1, k1, ?_, ?_, fun k b1 b2 => ?_, fun k b1 b2 => ?_⟩⟩
        · unfold f_Md_readsTwo
          rw [s_Md_reads g3]
          dsimp only [xsw]
          rw [xc2_some, if_neg (by decide), mrow_n, if_pos (by omega)]
        · rw [mrow_row b1 b2 b3, mrow_row b1 b2 b3, xup_row b1, xup_row b1]
        · rw [mrow_81 b2, mrow_81 b2, xup_ne_j b1, xup_ne_j b2]
        · rw [mrow_81 (by omega), mrow_81 (by omega), xup_same]
        · rw [mrow_len' (by omega), mrow_len]; omega
        · rw [mrow_len]
        · rw [mrow_let' (by have := g1.2.1; omega)]
          have := mrow_let (r := 0) (a := 0) (e := e) (h := xup (xup h 81 2 0) 81 1 0) b1 (by omega)
          rw [e82, show 12 * 0 + k = k by omega, show 0 + k = k by omega] at this
          exact this
        · have := mrow_let (r := 1) (a := e + 1) (e := h 81 1) (h := mrow 0 0 e (xup (xup h 81 2 0) 81 1 0)) b1 b2
          rw [m82, show 12 * 1 + k = 12 + k by omega] at this
          exact this
      · rw [k2] at g3
        refine ⟨0, h', ?_, ⟨fun o b1 b2 b3 => ?_, fun j b1 b2 => ?_, ?_⟩, Or.inr ⟨rfl, fun z => k1 ?_⟩⟩
        · unfold f_Md_readsTwo
          rw [s_Md_reads g3]
          rfl
        · rw [k3 o b1 b2 b3, mrow_row b1 b2 b3, xup_row b1, xup_row b1]
        · rw [k4 j b2, mrow_81 b2, xup_ne_j b1, xup_ne_j b2]
        · rw [k4 1 (by omega), mrow_81 (by omega), xup_same]
        · have he := seg_one (by omega) hf2 z.2
          rw [he]
          exact ⟨z.2, Or.inr rfl⟩
    · have he : e = h 81 1 := by omega
      subst he
      rw [mexit] at g3
      refine ⟨0, mrow 0 0 (h 81 1) (xup (xup h 81 2 0) 81 1 0), ?_, ⟨fun o b1 b2 b3 => ?_, fun j b1 b2 => ?_, ?_⟩, Or.inr ⟨rfl, fun z => by have := z.2.1; omega⟩⟩
      · unfold f_Md_readsTwo
        rw [s_Md_reads g3]
        dsimp only [xsw]
        rw [xc2_some, if_neg (by decide), m81, if_neg (by omega)]
      · rw [mrow_row b1 b2 b3, xup_row b1, xup_row b1]
      · rw [mrow_81 b2, xup_ne_j b1, xup_ne_j b2]
      · rw [mrow_81 (by omega), xup_same]
  · refine ⟨0, h', ?_, ⟨fun o b1 b2 b3 => ?_, fun j b1 b2 => ?_, ?_⟩, Or.inr ⟨rfl, fun z => g1 ⟨z.1, by omega⟩⟩⟩
    · unfold f_Md_readsTwo
      rw [s_Md_reads g2]
      rfl
    · rw [g3 o b1 b2 b3, xup_row b1, xup_row b1]
    · rw [g4 j b2, xup_ne_j b1, xup_ne_j b2]
    · rw [g4 1 (by omega), xup_same]
