/-! THE LEXICON, in the class and in the model -/
def mp (h : xH) (w : Int) : Int → Int := pad (h 85 w) (fun k => h 86 (12 * w + k))
def srt (h : xH) : Prop := ∀ v w, 0 ≤ v → v < w → w < h 5 2 → ltp (rp h 5 v) (rp h 5 w)
/-- the words of both sides -/
def Wd0 (h : xH) : Prop := RO 5 200 h ∧ h 81 5 = h 5 2 ∧ (∀ w, 0 ≤ w → w < h 5 2 → h 85 w = h 7 w ∧ ∀ k, 0 ≤ k → k < h 7 w → h 86 (12 * w + k) = h 6 (w * 12 + k)) ∧ srt h
/-- their counts -/
def Wc (h : xH) : Prop := ∀ w, 0 ≤ w → w < h 5 2 → h 87 w = h 8 w ∧ 1 ≤ h 8 w ∧ h 8 w ≤ 100000
def Wd (h : xH) : Prop := Wd0 h ∧ Wc h
theorem pad_ext {n m : Int} {f g : Int → Int} (hn : n = m) (hf : ∀ k, 0 ≤ k → k < m → f k = g k) : pad n f = pad m g := by
  subst hn
  funext k
  unfold pad
  split
  · next q => exact hf k q.1 q.2
  · rfl
theorem Wd_mp {h : xH} (hW : Wd0 h) {w : Int} (h1 : 0 ≤ w) (h2 : w < h 5 2) : mp h w = rp h 5 w := by
  obtain ⟨a, b⟩ := hW.2.2.1 w h1 h2
  exact pad_ext a b
theorem Wd_len {h : xH} (hW : Wd0 h) {w : Int} (h1 : 0 ≤ w) (h2 : w < h 5 2) : 1 ≤ h 7 w ∧ h 7 w ≤ 12 ∧ ∀ k, 0 ≤ k → k < h 7 w → 0 ≤ h 6 (w * 12 + k) ∧ h 6 (w * 12 + k) ≤ 25 := hW.1.2.2.2.2.2 w h1 h2
theorem Wd_n {h : xH} (hW : Wd0 h) : 0 ≤ h 5 2 ∧ h 5 2 ≤ 200 := ⟨hW.1.2.2.2.1, hW.1.2.2.2.2.1⟩
theorem pivot {L : Int → Prop} {n : Int} (hn : 0 ≤ n) (hd : ∀ v w, 0 ≤ v → v < w → w < n → L w → L v) : ∃ p, 0 ≤ p ∧ p ≤ n ∧ (∀ w, 0 ≤ w → w < p → L w) ∧ ∀ w, p ≤ w → w < n → ¬ L w := by
  have key : ∀ m : Nat, (m : Int) ≤ n → ∃ p : Int, 0 ≤ p ∧ p ≤ (m : Int) ∧ (∀ w : Int, 0 ≤ w → w < p → L w) ∧ ∀ w : Int, p ≤ w → w < (m : Int) → ¬ L w := by
    intro m
    induction m with
    | zero => intro _; exact ⟨0, by omega, by omega, fun w a b => by omega, fun w a b => by omega⟩
    | succ m ih =>
      intro hm
      obtain ⟨p, p1, p2, p3, p4⟩ := ih (by omega)
      by_cases q : L (m : Int)
      · refine ⟨(m : Int) + 1, by omega, by omega, fun w a b => ?_, fun w a b => by omega⟩
        by_cases hw : w = m
        · rw [hw]; exact q
        · exact hd w m a (by omega) (by omega) q
      · exact ⟨p, p1, by omega, p3, fun w a b => by
          by_cases hw : w = m
          · rw [hw]; exact q
          · exact p4 w a (by omega)⟩
  have := key n.toNat (by omega)
  rw [show ((n.toNat : Nat) : Int) = n by omega] at this
  exact this
/-- how many words stand ahead of a row -/
def plc (h : xH) (q : Int → Int) (p : Int) : Prop := 0 ≤ p ∧ p ≤ h 5 2 ∧ (∀ w, 0 ≤ w → w < p → ltp (rp h 5 w) q) ∧ ∀ w, p ≤ w → w < h 5 2 → ¬ ltp (rp h 5 w) q
theorem plc_ex {h : xH} (hW : Wd0 h) (q : Int → Int) : ∃ p, plc h q p := by
  obtain ⟨p, h1, h2, h3, h4⟩ := pivot (L := fun w => ltp (rp h 5 w) q) (n := h 5 2) (Wd_n hW).1 (fun v w a b c d => ltp_trans (hW.2.2.2 v w a b c) d)
  exact ⟨p, h1, h2, h3, h4⟩
theorem s_Lex_place {t : Int} {h : xH} (hW : Wd0 h) (hT : TO t h) {p : Int} (hp : plc h (tp h t) p) : f_Lex_place t h = some p := by
  obtain ⟨p1, p2, p3, p4⟩ := hp
  have hn := Wd_n hW
  unfold f_Lex_place f_Lex_place_6
  have key := xloop_W (step := fun s : Int × Int => f_Lex_place_s6 t s.1 s.2 h) (I := fun s => 0 ≤ s.1 ∧ s.1 ≤ p ∧ (s.2 = 0 ∧ p = s.1 ∨ (s.2 = 128 ∨ s.2 = 64 ∨ s.2 = 32 ∨ s.2 = 16 ∨ s.2 = 8 ∨ s.2 = 4 ∨ s.2 = 2 ∨ s.2 = 1) ∧ p < s.1 + 2 * s.2)) (fun s => s.2.toNat)
    (post := fun b => b = p) (s := (0, 128)) ?_ ⟨by dsimp only; omega, by dsimp only; omega, Or.inr ⟨Or.inl rfl, by dsimp only; omega⟩⟩
  · obtain ⟨b, e1, rfl⟩ := key
    rw [e1]
    rfl
  · rintro ⟨a, s⟩ hI
    dsimp only [f_Lex_place_s6, f_Lex_place_45] at hI ⊢
    obtain ⟨i1, i2, i3⟩ := hI
    rcases i3 with ⟨rfl, i3⟩ | ⟨i3, i4⟩
    · right
      exact ⟨a, by simp (disch := omega) only [↓if_pos, ↓if_neg, ↓xgd_pos, ↓xgb_pos, ↓xgc_pos, ↓xlet_eq, xc1_some, xc2_some, w32_id, xup_same, xup_row, xup_ne_j, xsw_l, xsw_r], i3.symm⟩
    · left
      have hx : xdiv s 2 = s / 2 := by rcases i3 with rfl | rfl | rfl | rfl | rfl | rfl | rfl | rfl <;> decide
      by_cases q1 : h 5 2 < a + s
      · refine ⟨(a, s / 2), by simp (disch := omega) only [hx, ↓if_pos, ↓if_neg, ↓xgd_pos, ↓xgb_pos, ↓xgc_pos, ↓xlet_eq, xc1_some, xc2_some, w32_id, xup_same, xup_row, xup_ne_j, xsw_l, xsw_r], ⟨i1, i2, ?_⟩, by dsimp only; omega⟩
        dsimp only
        omega
      · obtain ⟨d, e1, e2, e3⟩ := s_Rows_order (r := a + s - 1) hW.1 hT (by omega) (by omega)
        by_cases q2 : d < 0
        · have hl := e2.mp q2
          have hps : a + s ≤ p := by
            have h1 : ¬ p ≤ a + s - 1 := fun z => p4 (a + s - 1) z (by omega) hl
            omega
          refine ⟨(a + s, s / 2), by simp (disch := omega) only [hx, e1, ↓if_pos, ↓if_neg, ↓xgd_pos, ↓xgb_pos, ↓xgc_pos, ↓xlet_eq, xc1_some, xc2_some, w32_id, xup_same, xup_row, xup_ne_j, xsw_l, xsw_r], ⟨by dsimp only; omega, hps, ?_⟩, by dsimp only; omega⟩
          dsimp only
          omega
        · have hps : p < a + s := by
            have h1 : ¬ a + s - 1 < p := fun z => q2 (e2.mpr (p3 (a + s - 1) (by omega) z))
            omega
          refine ⟨(a, s / 2), by simp (disch := omega) only [hx, e1, ↓if_pos, ↓if_neg, ↓xgd_pos, ↓xgb_pos, ↓xgc_pos, ↓xlet_eq, xc1_some, xc2_some, w32_id, xup_same, xup_row, xup_ne_j, xsw_l, xsw_r], ⟨i1, i2, ?_⟩, by dsimp only; omega⟩
          dsimp only
          omega
/-- the number of a row among the words, -1: it is none -/
def isN (h : xH) (q : Int → Int) (w : Int) : Prop := (0 ≤ w ∧ w < h 5 2 ∧ eqp (rp h 5 w) q) ∨ (w = -1 ∧ ∀ v, 0 ≤ v → v < h 5 2 → ¬ eqp (rp h 5 v) q)
theorem isN_of {h : xH} (hW : Wd0 h) {q : Int → Int} {p : Int} (hp : plc h q p) : (p < h 5 2 ∧ eqp (rp h 5 p) q → isN h q p) ∧ (¬ (p < h 5 2 ∧ eqp (rp h 5 p) q) → isN h q (-1)) := by
  obtain ⟨p1, p2, p3, p4⟩ := hp
  refine ⟨fun z => Or.inl ⟨p1, z.1, z.2⟩, fun z => Or.inr ⟨rfl, fun v a b e => ?_⟩⟩
  rcases Int.lt_trichotomy v p with c | c | c
  · exact ltp_ne (p3 v a c) e
  · subst c; exact z ⟨b, e⟩
  · refine p4 p (Int.le_refl _) (by omega) ?_
    exact ltp_eq (hW.2.2.2 p v p1 c b) e
theorem isN_uniq {h : xH} (hW : Wd0 h) {q : Int → Int} {v w : Int} (h1 : isN h q v) (h2 : isN h q w) : v = w := by
  rcases h1 with ⟨a, b, c⟩ | ⟨a, b⟩
  · rcases h2 with ⟨a2, b2, c2⟩ | ⟨a2, b2⟩
    · rcases Int.lt_trichotomy v w with z | z | z
      · exact absurd (eqp_trans c (eqp_symm c2)) (ltp_ne (hW.2.2.2 v w a z b2))
      · exact z
      · exact absurd (eqp_trans c2 (eqp_symm c)) (ltp_ne (hW.2.2.2 w v a2 z b))
    · exact absurd c (b2 v a b)
  · rcases h2 with ⟨a2, b2, c2⟩ | ⟨a2, b2⟩
    · exact absurd c2 (b w a2 b2)
    · omega
theorem s_Lex_numberOf {t : Int} {h : xH} (hW : Wd0 h) (hT : TO t h) : ∃ w, f_Lex_numberOf t h = some w ∧ isN h (tp h t) w := by
  obtain ⟨p, hp⟩ := plc_ex hW (tp h t)
  have hi := isN_of hW hp
  unfold f_Lex_numberOf
  rw [s_Lex_place hW hT hp, xc1_some]
  by_cases q1 : p < h 5 2
  · obtain ⟨d, e1, -, e3⟩ := s_Rows_order (r := p) hW.1 hT hp.1 q1
    rw [if_pos q1, e1, xc1_some]
    by_cases q2 : d = 0
    · exact ⟨p, by rw [if_pos q2], hi.1 ⟨q1, e3.mp q2⟩⟩
    · exact ⟨-1, by rw [if_neg q2], hi.2 (fun z => q2 (e3.mpr z.2))⟩
  · exact ⟨-1, by rw [if_neg q1], hi.2 (fun z => q1 z.1)⟩
/-- the model holds a word against a row -/
theorem s_Md_compares {w n c p : Int} {h : xH} (hw : 0 ≤ w ∧ w < 200) (hl : 1 ≤ h 85 w ∧ h 85 w ≤ 12 ∧ ∀ k, 0 ≤ k → k < h 85 w → 0 ≤ h 86 (12 * w + k) ∧ h 86 (12 * w + k) ≤ 25) (hn : 0 ≤ n ∧ n ≤ 12) (hp : 0 ≤ p ∧ p ≤ 1000 ∧ p + n ≤ (xN c : Int)) (hc : ∀ k, 0 ≤ k → k < n → 0 ≤ h c (p + k) ∧ h c (p + k) ≤ 25) : ∃ d, f_Md_compares w n c p h = some d ∧ cmp (mp h w) (pad n (fun k => h c (p + k))) d := by
  obtain ⟨l1, l2, l3⟩ := hl
  unfold f_Md_compares f_Md_compares_3
  have key := xloop_W (step := fun s : Int => f_Md_compares_s3 w n c p s h) (I := fun i => 0 ≤ i ∧ i ≤ h 85 w ∧ i ≤ n ∧ ∀ j, 0 ≤ j → j < i → mp h w j = pad n (fun k => h c (p + k)) j) (fun i => (12 - i).toNat)
    (post := fun b => b = Sum.inl () ∧ (∃ d, f_Md_compares_64 w n h = some d ∧ cmp (mp h w) (pad n (fun k => h c (p + k))) d) ∨ ∃ d, b = Sum.inr d ∧ cmp (mp h w) (pad n (fun k => h c (p + k))) d) (s := 0) ?_ ⟨by omega, by omega, by omega, fun j a b => by omega⟩
  · obtain ⟨b, e1, hb⟩ := key
    rw [e1]
    rcases hb with ⟨rfl, d, e2, hb⟩ | ⟨d, rfl, hb⟩
    · exact ⟨d, e2, hb⟩
    · exact ⟨d, rfl, hb⟩
  · intro i ⟨i1, i2, i3, i4⟩
    dsimp only [f_Md_compares_s3]
    by_cases q1 : i < h 85 w
    · by_cases q2 : i < n
      · have b1 := l3 i i1 q1
        have b2 := hc i i1 q2
        have em : mp h w i = h 86 (12 * w + i) := pad_in i1 q1
        have ec : pad n (fun k => h c (p + k)) i = h c (p + i) := pad_in i1 q2
        by_cases q3 : h 86 (12 * w + i) = h c (p + i)
        · left
          refine ⟨i + 1, by simp (disch := omega) only [↓if_pos, ↓if_neg, ↓xgd_pos, ↓xgb_pos, ↓xgc_pos, ↓xlet_eq, xc1_some, xc2_some, w32_id, xup_same, xup_row, xup_ne_j, xsw_l, xsw_r], ⟨by omega, by omega, by omega, fun j a b => ?_⟩, by omega⟩
          by_cases hj : j = i
          · rw [hj, em, ec, q3]
          · exact i4 j a (by omega)
        · right
          by_cases q4 : h 86 (12 * w + i) < h c (p + i)
          · exact ⟨Sum.inr (-1), by simp (disch := omega) only [↓if_pos, ↓if_neg, ↓xgd_pos, ↓xgb_pos, ↓xgc_pos, ↓xlet_eq, xc1_some, xc2_some, w32_id, xup_same, xup_row, xup_ne_j, xsw_l, xsw_r], Or.inr ⟨-1, rfl, cmp_of i1 (by omega) (by rw [em, ec]; exact q3) i4 ⟨by rw [em, ec]; omega, by omega⟩⟩⟩
          · exact ⟨Sum.inr 1, by simp (disch := omega) only [↓if_pos, ↓if_neg, ↓xgd_pos, ↓xgb_pos, ↓xgc_pos, ↓xlet_eq, xc1_some, xc2_some, w32_id, xup_same, xup_row, xup_ne_j, xsw_l, xsw_r], Or.inr ⟨1, rfl, cmp_of i1 (by omega) (by rw [em, ec]; exact q3) i4 ⟨by rw [em, ec]; omega, by omega⟩⟩⟩
      · right
        have hin : i = n := by omega
        refine ⟨Sum.inl (), by simp (disch := omega) only [↓if_pos, ↓if_neg, ↓xgd_pos, ↓xgb_pos, ↓xgc_pos, ↓xlet_eq, xc1_some, xc2_some, w32_id, xup_same, xup_row, xup_ne_j, xsw_l, xsw_r], Or.inl ⟨rfl, 1, by simp (disch := omega) only [f_Md_compares_64, ↓if_pos, ↓if_neg, ↓xgd_pos, ↓xgb_pos, ↓xgc_pos, ↓xlet_eq, xc1_some, xc2_some, w32_id, xup_same, xup_row, xup_ne_j, xsw_l, xsw_r], ?_⟩⟩
        have b1 := l3 i i1 q1
        have em : mp h w i = h 86 (12 * w + i) := pad_in i1 q1
        have ec : pad n (fun k => h c (p + k)) i = -1 := pad_out (by omega)
        exact cmp_of i1 (by omega) (by rw [em, ec]; omega) i4 ⟨by rw [em, ec]; omega, by omega⟩
    · right
      have hiw : i = h 85 w := by omega
      by_cases q2 : i < n
      · refine ⟨Sum.inl (), by simp (disch := omega) only [↓if_pos, ↓if_neg, ↓xgd_pos, ↓xgb_pos, ↓xgc_pos, ↓xlet_eq, xc1_some, xc2_some, w32_id, xup_same, xup_row, xup_ne_j, xsw_l, xsw_r], Or.inl ⟨rfl, -1, by simp (disch := omega) only [f_Md_compares_64, ↓if_pos, ↓if_neg, ↓xgd_pos, ↓xgb_pos, ↓xgc_pos, ↓xlet_eq, xc1_some, xc2_some, w32_id, xup_same, xup_row, xup_ne_j, xsw_l, xsw_r], ?_⟩⟩
        have b2 := hc i i1 q2
        have em : mp h w i = -1 := pad_out (by omega)
        have ec : pad n (fun k => h c (p + k)) i = h c (p + i) := pad_in i1 q2
        exact cmp_of i1 (by omega) (by rw [em, ec]; omega) i4 ⟨by rw [em, ec]; omega, by omega⟩
      · refine ⟨Sum.inl (), by simp (disch := omega) only [↓if_pos, ↓if_neg, ↓xgd_pos, ↓xgb_pos, ↓xgc_pos, ↓xlet_eq, xc1_some, xc2_some, w32_id, xup_same, xup_row, xup_ne_j, xsw_l, xsw_r], Or.inl ⟨rfl, 0, by simp (disch := omega) only [f_Md_compares_64, ↓if_pos, ↓if_neg, ↓xgd_pos, ↓xgb_pos, ↓xgc_pos, ↓xlet_eq, xc1_some, xc2_some, w32_id, xup_same, xup_row, xup_ne_j, xsw_l, xsw_r], cmp_eq (fun j a b => ?_)⟩⟩
        by_cases hj : j < i
        · exact i4 j a hj
        · have em : mp h w j = -1 := pad_out (by omega)
          have ec : pad n (fun k => h c (p + k)) j = -1 := pad_out (by omega)
          rw [em, ec]
theorem s_Md_wordOf {n c p : Int} {h : xH} (hW : Wd0 h) (hn : 0 ≤ n ∧ n ≤ 12) (hp : 0 ≤ p ∧ p ≤ 1000 ∧ p + n ≤ (xN c : Int)) (hc : ∀ k, 0 ≤ k → k < n → 0 ≤ h c (p + k) ∧ h c (p + k) ≤ 25) : ∃ w, f_Md_wordOf n c p h = some w ∧ isN h (pad n (fun k => h c (p + k))) w := by
  have hN := Wd_n hW
  have h5 := hW.2.1
  unfold f_Md_wordOf f_Md_wordOf_3
  have key := xloop_W (step := fun s : Int => f_Md_wordOf_s3 n c p s h) (I := fun i => 0 ≤ i ∧ i ≤ h 5 2 ∧ ∀ v, 0 ≤ v → v < i → ¬ eqp (rp h 5 v) (pad n (fun k => h c (p + k)))) (fun i => (200 - i).toNat)
    (post := fun b => b = Sum.inl () ∧ isN h (pad n (fun k => h c (p + k))) (-1) ∨ ∃ w, b = Sum.inr w ∧ isN h (pad n (fun k => h c (p + k))) w) (s := 0) ?_ ⟨by omega, by omega, fun j a b => by omega⟩
  · obtain ⟨b, e1, hb⟩ := key
    rw [e1]
    rcases hb with ⟨rfl, hb⟩ | ⟨d, rfl, hb⟩
    · exact ⟨-1, rfl, hb⟩
    · exact ⟨d, rfl, hb⟩
  · intro i ⟨i1, i2, i3⟩
    dsimp only [f_Md_wordOf_s3]
    by_cases q1 : i < h 5 2
    · have hl := Wd_len hW i1 q1
      obtain ⟨a1, a5⟩ := hW.2.2.1 i i1 q1
      obtain ⟨d, e1, e2, e3⟩ := s_Md_compares (w := i) (n := n) (c := c) (p := p) (h := h) ⟨i1, by omega⟩ ⟨by omega, by omega, fun k b1 b2 => by rw [a5 k b1 (by omega)]; exact hl.2.2 k b1 (by omega)⟩ hn hp hc
      rw [Wd_mp hW i1 q1] at e3
      by_cases q2 : d = 0
      · right
        exact ⟨Sum.inr i, by simp (disch := omega) only [e1, ↓if_pos, ↓if_neg, ↓xgd_pos, ↓xgb_pos, ↓xgc_pos, ↓xlet_eq, xc1_some, xc2_some, w32_id, xup_same, xup_row, xup_ne_j, xsw_l, xsw_r], Or.inr ⟨i, rfl, Or.inl ⟨i1, q1, e3.mp q2⟩⟩⟩
      · left
        refine ⟨i + 1, by simp (disch := omega) only [e1, ↓if_pos, ↓if_neg, ↓xgd_pos, ↓xgb_pos, ↓xgc_pos, ↓xlet_eq, xc1_some, xc2_some, w32_id, xup_same, xup_row, xup_ne_j, xsw_l, xsw_r], ⟨by omega, by omega, fun v a b => ?_⟩, by omega⟩
        by_cases hv : v = i
        · rw [hv]; exact fun z => q2 (e3.mpr z)
        · exact i3 v a (by omega)
    · right
      exact ⟨Sum.inl (), by simp (disch := omega) only [↓if_pos, ↓if_neg, ↓xgd_pos, ↓xgb_pos, ↓xgc_pos, ↓xlet_eq, xc1_some, xc2_some, w32_id, xup_same, xup_row, xup_ne_j, xsw_l, xsw_r], Or.inl ⟨rfl, Or.inr ⟨rfl, fun v a b => i3 v a (by omega)⟩⟩⟩
