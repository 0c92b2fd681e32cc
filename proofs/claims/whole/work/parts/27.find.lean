/-! A ROW, two rows read by both sides; find; add, drop: the class's part and the model's -/
theorem Tp_empty {h : xH} (h1 : h 2 1 = 0) (h2 : h 81 1 = 0) : Tp h := ⟨by omega, by omega, by omega, fun k a b => by omega, fun k a b => by omega⟩
theorem mfr_off {h h' : xH} (m : mfr h h') : off [83, 84] [1, 2] h h' := ⟨fun o h0 hn => m.1 o h0 (fun z => hn (by simp [z])) (fun z => hn (by simp [z])), fun j hn => m.2.1 j (fun z => hn (by simp [z])) (fun z => hn (by simp [z]))⟩
theorem seg_ext {t u : Int → Int} {a e lo n : Int} (hu : ∀ k, 0 ≤ k → k < n → u k = t k) (ha : 0 ≤ a) (he : e ≤ n) : seg u a e lo ↔ seg t a e lo := by
  unfold seg
  constructor
  · rintro ⟨h1, h2, h3⟩
    exact ⟨h1, h2, fun k b1 b2 => by rw [← hu k (by omega) (by omega)]; exact h3 k b1 b2⟩
  · rintro ⟨h1, h2, h3⟩
    exact ⟨h1, h2, fun k b1 b2 => by rw [hu k (by omega) (by omega)]; exact h3 k b1 b2⟩
theorem fst_ext {t u : Int → Int} {sg a e n : Int} (hu : ∀ k, 0 ≤ k → k < n → u k = t k) (ha : 0 ≤ a) (h : fstP t sg a n e) : fstP u sg a n e := by
  obtain ⟨f1, f2, f3, f4⟩ := h
  exact ⟨f1, f2, fun k b1 b2 => by rw [hu k (by omega) (by omega)]; exact f3 k b1 b2, fun z => by rw [hu e (by omega) z]; exact f4 z⟩
/-- one row is read -/
theorem rd1 {h : xH} (hT : Tp h) : (∃ n f h1, 1 ≤ n ∧ n ≤ 12 ∧ (∀ k, 0 ≤ k → k < n → 0 ≤ f k ∧ f k ≤ 25) ∧ f_Tape_takeRow 23 h = some (1, h1) ∧ off [2, 23, 24] [] h h1 ∧ h1 2 1 = 0 ∧ TO 23 h1 ∧ h1 23 1 = n ∧ tp h1 23 = pad n f ∧ (∀ k, 0 ≤ k → k < n → h1 24 k = f k) ∧ ∀ hx : xH, hx 81 1 = h 81 1 → hx 82 = h 82 → ∃ h2, f_Md_readsOne hx = some (1, h2) ∧ mfr hx h2 ∧ h2 83 0 = n ∧ ∀ k, 0 ≤ k → k < n → h2 84 k = f k) ∨
    ∃ h1, f_Tape_takeRow 23 h = some (0, h1) ∧ off [2, 23, 24] [] h h1 ∧ h1 2 1 = 0 ∧ ∀ hx : xH, hx 81 1 = h 81 1 → hx 82 = h 82 → ∃ h2, f_Md_readsOne hx = some (0, h2) ∧ mfr hx h2 := by
  obtain ⟨t1, t2, t3, t4, t5⟩ := hT
  obtain ⟨b, h1, e1, hf, h21, hc⟩ := s_Tape_takeRow (t := 23) ⟨t1, t2⟩ t4 (by decide)
  have ho : off [2, 23, 24] [] h h1 := ⟨fun o _ hn => hf o (fun z => hn (by simp [z])) (fun z => hn (by simp [z])) (fun z => hn (by simp [z])), fun j _ => by rw [hf 81 (by decide) (by decide) (by decide)]⟩
  have hb82 : byt (h 82) (h 2 1) := fun k a c => by rw [t5 k a c]; exact t4 k a c
  have hs := seg_ext (lo := 12) t5 (Int.le_refl 0) (Int.le_refl (h 2 1))
  rcases hc with ⟨rfl, hs1, e2⟩ | ⟨rfl, hs1⟩
  · left
    have f3 : ∀ k, 0 ≤ k → k < h 2 1 → 0 ≤ h 3 k - 97 ∧ h 3 k - 97 ≤ 25 := fun k a c => by have := hs1.2.2 k a c; omega
    have b1 : 1 ≤ h 2 1 := by have := hs1.1; omega
    have b2 : h 2 1 ≤ 12 := by have := hs1.2.1; omega
    refine ⟨h 2 1, fun k => h 3 k - 97, h1, b1, b2, f3, e1, ho, h21, by rw [e2]; exact TO_hRow b1 b2 f3, by rw [e2, hRow_size], by rw [e2, tp_hRow], fun k a c => by rw [e2]; exact hRow_let a c, fun hx x1 x2 => ?_⟩
    obtain ⟨b, h2, g1, g2, g3⟩ := s_Md_readsOne (h := hx) (by rw [x1, t3]; exact ⟨t1, t2⟩) (by rw [x1, x2, t3]; exact hb82)
    rw [x1, x2, t3] at g3
    rcases g3 with ⟨rfl, g4, g5, g6⟩ | ⟨rfl, g4⟩
    · exact ⟨h2, g1, g2, g5, fun k a c => by rw [g6 k a c, t5 k a c]⟩
    · exact absurd (hs.mpr hs1) g4
  · right
    refine ⟨h1, e1, ho, h21, fun hx x1 x2 => ?_⟩
    obtain ⟨b, h2, g1, g2, g3⟩ := s_Md_readsOne (h := hx) (by rw [x1, t3]; exact ⟨t1, t2⟩) (by rw [x1, x2, t3]; exact hb82)
    rw [x1, x2, t3] at g3
    rcases g3 with ⟨rfl, g4, g5, g6⟩ | ⟨rfl, g4⟩
    · exact absurd (hs.mp g4) hs1
    · exact ⟨h2, g1, g2⟩
/-- two rows are read -/
theorem rd2 {h : xH} {lo : Int} (hlo : 1 ≤ lo ∧ lo ≤ 12) (hT : Tp h) : (∃ n f m g h1, 1 ≤ n ∧ n ≤ lo ∧ (∀ k, 0 ≤ k → k < n → 0 ≤ f k ∧ f k ≤ 25) ∧ 1 ≤ m ∧ m ≤ lo ∧ (∀ k, 0 ≤ k → k < m → 0 ≤ g k ∧ g k ≤ 25) ∧ f_Tape_takeTwo lo 21 23 h = some (1, h1) ∧ off [2, 21, 22, 23, 24] [] h h1 ∧ h1 2 1 = 0 ∧ TO 21 h1 ∧ h1 21 1 = n ∧ tp h1 21 = pad n f ∧ (∀ k, 0 ≤ k → k < n → h1 22 k = f k) ∧ TO 23 h1 ∧ h1 23 1 = m ∧ tp h1 23 = pad m g ∧ (∀ k, 0 ≤ k → k < m → h1 24 k = g k) ∧
      ∀ hx : xH, hx 81 1 = h 81 1 → hx 82 = h 82 → ∃ h2, f_Md_readsTwo lo hx = some (1, h2) ∧ mfr hx h2 ∧ h2 83 0 = n ∧ (∀ k, 0 ≤ k → k < n → h2 84 k = f k) ∧ h2 83 1 = m ∧ ∀ k, 0 ≤ k → k < m → h2 84 (12 + k) = g k) ∨
    ∃ h1, f_Tape_takeTwo lo 21 23 h = some (0, h1) ∧ off [2, 21, 22, 23, 24] [] h h1 ∧ h1 2 1 = 0 ∧ ∀ hx : xH, hx 81 1 = h 81 1 → hx 82 = h 82 → ∃ h2, f_Md_readsTwo lo hx = some (0, h2) ∧ mfr hx h2 := by
  obtain ⟨t1, t2, t3, t4, t5⟩ := hT
  obtain ⟨e, b, h1, hfst, e1, hf, h21, hc⟩ := s_Tape_takeTwo (lo := lo) (t := 21) (u := 23) ⟨t1, t2⟩ hlo.2 t4 (by decide) (by decide)
  have ho : off [2, 21, 22, 23, 24] [] h h1 := ⟨fun o _ hn => hf o (fun z => hn (by simp [z])) (fun z => hn (by simp [z])) (fun z => hn (by simp [z])) (fun z => hn (by simp [z])) (fun z => hn (by simp [z])), fun j _ => by rw [hf 81 (by decide) (by decide) (by decide) (by decide) (by decide)]⟩
  have hb82 : byt (h 82) (h 2 1) := fun k a c => by rw [t5 k a c]; exact t4 k a c
  have f0 := hfst.1
  have f1 := hfst.2.1
  have hs1 := seg_ext (lo := lo) t5 (Int.le_refl 0) f1
  have hs2 := seg_ext (lo := lo) (a := e + 1) t5 (by omega) (Int.le_refl (h 2 1))
  rcases hc with ⟨rfl, c1, c2, c3⟩ | ⟨rfl, c1⟩
  · left
    have f3 : ∀ k, 0 ≤ k → k < e → 0 ≤ h 3 k - 97 ∧ h 3 k - 97 ≤ 25 := fun k a c => by have := c1.2.2 k a c; omega
    have f4 : ∀ k, 0 ≤ k → k < h 2 1 - (e + 1) → 0 ≤ h 3 (e + 1 + k) - 97 ∧ h 3 (e + 1 + k) - 97 ≤ 25 := fun k a c => by have := c2.2.2 (e + 1 + k) (by omega) (by omega); omega
    have b1 : 1 ≤ e := by have := c1.1; omega
    have b2 : e ≤ lo := by have := c1.2.1; omega
    have b3 := c2.1
    have b4 := c2.2.1
    have e21 : h1 21 = hRow 21 e (fun k => h 3 k - 97) (xup h 2 1 0) 21 := by rw [c3]; exact hRow_row (by decide) (by decide)
    have e22 : h1 22 = hRow 21 e (fun k => h 3 k - 97) (xup h 2 1 0) 22 := by rw [c3]; exact hRow_row (by decide) (by decide)
    have z21 : h1 21 1 = e := by rw [e21, hRow_size]
    have z22 : ∀ k, 0 ≤ k → k < e → h1 22 k = h 3 k - 97 := fun k a c => by rw [e22]; exact hRow_let (o := 21) a c
    refine ⟨e, fun k => h 3 k - 97, h 2 1 - (e + 1), fun k => h 3 (e + 1 + k) - 97, h1, b1, b2, f3, b3, b4, f4, e1, ho, h21, ⟨by rw [z21]; omega, by rw [z21]; omega, fun k a c => ?_⟩, z21, pad_ext z21 z22, z22, by rw [c3]; exact TO_hRow b3 (by omega) f4, by rw [c3, hRow_size], by rw [c3, tp_hRow], fun k a c => by rw [c3]; exact hRow_let a c, fun hx x1 x2 => ?_⟩
    · rw [z21] at c
      have := z22 k a c
      simp only [Int.reduceAdd]
      rw [this]
      exact f3 k a c
    · obtain ⟨b, h2, g1, g2, g3⟩ := s_Md_readsTwo (h := hx) (lo := lo) (e := e) (by rw [x1, t3]; exact ⟨t1, t2⟩) hlo (by rw [x1, x2, t3]; exact hb82) (by rw [x1, x2, t3]; exact fst_ext t5 (Int.le_refl 0) hfst)
      rw [x1, x2, t3] at g3
      rcases g3 with ⟨rfl, g4, g5, g6, g7, g8, g9⟩ | ⟨rfl, g4⟩
      · exact ⟨h2, g1, g2, g6, fun k a c => by rw [g8 k a c, t5 k a (by omega)], g7, fun k a c => by rw [g9 k a c, t5 _ (by omega) (by omega)]⟩
      · exact absurd ⟨hs1.mpr c1, hs2.mpr c2⟩ g4
  · right
    refine ⟨h1, e1, ho, h21, fun hx x1 x2 => ?_⟩
    obtain ⟨b, h2, g1, g2, g3⟩ := s_Md_readsTwo (h := hx) (lo := lo) (e := e) (by rw [x1, t3]; exact ⟨t1, t2⟩) hlo (by rw [x1, x2, t3]; exact hb82) (by rw [x1, x2, t3]; exact fst_ext t5 (Int.le_refl 0) hfst)
    rw [x1, x2, t3] at g3
    rcases g3 with ⟨rfl, g4, g5, -⟩ | ⟨rfl, g4⟩
    · exact absurd ⟨hs1.mp g4, hs2.mp g5⟩ c1
    · exact ⟨h2, g1, g2⟩
theorem isN_cg {h h' : xH} {q : Int → Int} {w : Int} (e5 : h' 5 = h 5) (e6 : h' 6 = h 6) (e7 : h' 7 = h 7) (hi : isN h' q w) : isN h q w := by
  have er : ∀ v, rp h' 5 v = rp h 5 v := fun v => rp_congr e6 e7
  unfold isN at hi ⊢
  simp only [er, e5] at hi
  exact hi
theorem xN84 : (xN 84 : Int) = 144 := by decide +kernel
theorem op_find : Op2 f_WM_find f_Md_find := by
  intro h hI
  rcases rd1 hI.1 with ⟨n, f, h1, n1, n2, hfb, e1, o1, z1, hT1, -, htp, -, hx⟩ | ⟨h1, e1, o1, z1, hx⟩
  · obtain ⟨h2, g1, g2, g3, g4⟩ := hx h1 (o1.2 1 (by decide)) (o1.1 82 (by decide) (by decide))
    have o2 := mfr_off g2
    have W1 : Wd h1 := Wd_off o1 (by decide) hI.2.1
    have W2 : Wd h2 := Wd_off o2 (by decide) W1
    obtain ⟨w, k1, k2⟩ := s_Lex_numberOf W1.1 hT1
    obtain ⟨v, k3, k4⟩ := s_Md_wordOf (n := h2 83 0) (c := 84) (p := 0) W2.1 (by omega) (by rw [xN84]; omega) (fun k a c => by rw [show (0 : Int) + k = k by omega, g4 k a (by omega)]; exact hfb k a (by omega))
    have ep : pad (h2 83 0) (fun k => h2 84 (0 + k)) = pad n f := pad_ext g3 (fun k a c => by rw [show (0 : Int) + k = k by omega]; exact g4 k a c)
    rw [ep] at k4
    rw [htp] at k2
    have k5 := isN_cg (o2.1 5 (by decide) (by decide)) (o2.1 6 (by decide) (by decide)) (o2.1 7 (by decide) (by decide)) k4
    have ew := isN_uniq W1.1 k2 k5
    subst ew
    refine ⟨w, h1, h2, ?_, ?_, ?_⟩
    · unfold f_WM_find
      rw [e1, xc2_some, if_neg (by decide), k1, xc1_some]
    · unfold f_Md_find
      rw [g1, xc2_some, if_neg (by decide), xgd_pos (by decide) (by decide), k3, xc1_some]
    · have hT := Tp_empty (h := h2) (by rw [o2.1 2 (by decide) (by decide)]; exact z1) g2.2.2
      exact inv_mk (off_tr o1 o2) hI
  · obtain ⟨h2, g1, g2⟩ := hx h1 (o1.2 1 (by decide)) (o1.1 82 (by decide) (by decide))
    have o2 := mfr_off g2
    refine ⟨-2, h1, h2, ?_, ?_, ?_⟩
    · unfold f_WM_find
      rw [e1, xc2_some, if_pos rfl]
    · unfold f_Md_find
      rw [g1, xc2_some, if_pos rfl]
    · have hT := Tp_empty (h := h2) (by rw [o2.1 2 (by decide) (by decide)]; exact z1) g2.2.2
      exact inv_mk (off_tr o1 o2) hI
