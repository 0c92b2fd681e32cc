/-! WORDS IN RANK'S ORDER: one word is laid -/
theorem xup_nk {h : xH} {o j v o' j' : Int} (hn : j' ≠ j) : xup h o j v o' j' = h o' j' := by
  unfold xup
  rw [if_neg (fun q => hn q.2)]
/-- x stands before y -/
def bf (C D S : Int → Int) (x y : Int) : Prop := D x - S x < D y - S y ∨ D x - S x = D y - S y ∧ (C y < C x ∨ C x = C y ∧ x < y)
def lst (g : xH) (o n : Int) (a D S : Int → Int) : Prop := ∀ k, 0 ≤ k → k < n → g (o + 1) k = a k ∧ g (o + 2) k = D (a k) ∧ g (o + 3) k = S (a k)
def insAt (p : Int) (a : Int → Int) (w k : Int) : Int := if k < p then a k else if k = p then w else a (k - 1)
/-- where a word is laid: behind it are those that it stands before -/
def lays (C D S : Int → Int) (a : Int → Int) (n w p : Int) : Prop := 0 ≤ p ∧ p ≤ n ∧ (∀ k, p ≤ k → k < n → bf C D S w (a k)) ∧ (p = 0 ∨ ¬ bf C D S w (a (p - 1)))
theorem s_ahead {g : xH} {o w k n : Int} {a D S : Int → Int} (hl : lst g o n a D S) (k0 : 0 ≤ k) (k1 : k < n) (n1 : n ≤ 200) (w1 : w < 200) (hD : ∀ x, 0 ≤ x → x ≤ w → 0 ≤ D x ∧ D x ≤ 1000000) (hS : ∀ x, 0 ≤ x → x ≤ w → 0 ≤ S x ∧ S x ≤ 67108864) (ha : 0 ≤ a k ∧ a k < w) : ∃ r, f_Found_isAhead o w (D w - S w) k g = some r ∧ (r = 1 ∧ bf (g 8) D S w (a k) ∨ r = 0 ∧ ¬ bf (g 8) D S w (a k)) := by
  obtain ⟨l1, l2, l3⟩ := hl k k0 k1
  have d1 := hD (a k) ha.1 (by omega)
  have s1 := hS (a k) ha.1 (by omega)
  have ec : ∀ x, 0 ≤ x → x < 200 → f_Lex_countOf x g = some (g 8 x) := fun x x0 x1 => by
    unfold f_Lex_countOf
    rw [if_neg (by omega), if_pos (by omega), xgd_pos (by omega) (by omega)]
  unfold f_Found_isAhead f_Found_isAhead_66
  rw [if_neg (by omega), if_pos (by omega), xgd_pos k0 (by omega), xgd_pos k0 (by omega), l1, l2, l3, w32_id (by omega) (by omega), xlet_eq]
  unfold bf
  by_cases z : D w - S w < D (a k) - S (a k)
  · exact ⟨1, by rw [if_pos z], Or.inl ⟨rfl, Or.inl z⟩⟩
  · rw [if_neg z]
    by_cases y : D w - S w = D (a k) - S (a k)
    · rw [if_pos y, ec w (by omega) w1, xc1_some, xgd_pos k0 (by omega), ec (a k) ha.1 (by omega), xc1_some]
      by_cases x : g 8 (a k) < g 8 w
      · exact ⟨1, by rw [if_pos x], Or.inl ⟨rfl, Or.inr ⟨y, Or.inl x⟩⟩⟩
      · exact ⟨0, by rw [if_neg x], Or.inr ⟨rfl, fun q => by omega⟩⟩
    · exact ⟨0, by rw [if_neg y], Or.inr ⟨rfl, fun q => by omega⟩⟩
theorem s_lay {g : xH} {o w most n : Int} {a D S : Int → Int} (ho : o = 62 ∨ o = 66) (hn : g o 4 = n) (n0 : 0 ≤ n) (nm : n ≤ most) (m1 : 1 ≤ most) (m2 : most ≤ 200) (w0 : 0 ≤ w) (w1 : w < 200) (hl : lst g o n a D S) (hD : ∀ x, 0 ≤ x → x ≤ w → 0 ≤ D x ∧ D x ≤ 1000000) (hS : ∀ x, 0 ≤ x → x ≤ w → 0 ≤ S x ∧ S x ≤ 67108864) (ha : ∀ k, 0 ≤ k → k < n → 0 ≤ a k ∧ a k < w) (hs : f_Lex_share w g = some (S w)) :
    ∃ g' p, f_Found_lay o w (D w) most g = some g' ∧ (∀ x, x ≠ o → x ≠ o + 1 → x ≠ o + 2 → x ≠ o + 3 → g' x = g x) ∧ lays (g 8) D S a n w p ∧ g' o 4 = min (n + 1) most ∧ lst g' o (min (n + 1) most) (insAt p a w) D S := by
  have dw := hD w w0 (Int.le_refl _)
  have sw := hS w w0 (Int.le_refl _)
  unfold f_Found_lay f_Found_lay_16
  rw [hs, xc1_some, hn, xlet_eq]
  obtain ⟨⟨p, y⟩, e, e1, e2, e3, e4⟩ := xloop_W (step := fun s : Int × xH => f_Found_lay_s16 o w (D w) most (S w) s.1 s.2)
    (I := fun s => 0 ≤ s.1 ∧ s.1 ≤ n ∧ (∀ x, x ≠ o + 1 → x ≠ o + 2 → x ≠ o + 3 → s.2 x = g x) ∧ (∀ k, s.1 ≤ k → k < n → bf (g 8) D S w (a k)) ∧ (∀ k, 0 ≤ k → k < s.1 → s.2 (o + 1) k = a k ∧ s.2 (o + 2) k = D (a k) ∧ s.2 (o + 3) k = S (a k)) ∧ ∀ k, s.1 < k → k < min (n + 1) most → s.2 (o + 1) k = a (k - 1) ∧ s.2 (o + 2) k = D (a (k - 1)) ∧ s.2 (o + 3) k = S (a (k - 1))) (fun s => s.1.toNat)
    (post := fun s => (∀ x, x ≠ o + 1 → x ≠ o + 2 → x ≠ o + 3 → s.2 x = g x) ∧ lays (g 8) D S a n w s.1 ∧ (∀ k, 0 ≤ k → k < s.1 → s.2 (o + 1) k = a k ∧ s.2 (o + 2) k = D (a k) ∧ s.2 (o + 3) k = S (a k)) ∧ ∀ k, s.1 < k → k < min (n + 1) most → s.2 (o + 1) k = a (k - 1) ∧ s.2 (o + 2) k = D (a (k - 1)) ∧ s.2 (o + 3) k = S (a (k - 1))) (s := (n, g)) (by
      rintro ⟨p, y⟩ hI
      dsimp only at hI ⊢
      obtain ⟨p0, p1, yo, yb, yl, ym⟩ := hI
      unfold f_Found_lay_s16
      by_cases z : 0 < p
      · have y8 : y 8 = g 8 := yo 8 (by omega) (by omega) (by omega)
        obtain ⟨r, r1, r2⟩ := s_ahead (g := y) (o := o) (w := w) (k := p - 1) (n := p) (a := a) (D := D) (S := S) yl (by omega) (by omega) (by omega) w1 hD hS (ha (p - 1) (by omega) (by omega))
        rw [y8] at r2
        rw [if_pos z, w32_id (z := D w - S w) (by omega) (by omega), w32_id (z := p - 1) (by omega) (by omega), r1, xc1_some]
        rcases r2 with ⟨rfl, r2⟩ | ⟨rfl, r2⟩
        · left
          rw [if_neg (by decide)]
          have mv : ∃ y', f_Found_move o (p - 1) p most y = some y' ∧ (∀ x, x ≠ o + 1 → x ≠ o + 2 → x ≠ o + 3 → y' x = y x) ∧ (∀ k, k ≠ p → y' (o + 1) k = y (o + 1) k ∧ y' (o + 2) k = y (o + 2) k ∧ y' (o + 3) k = y (o + 3) k) ∧ (p < most → y' (o + 1) p = y (o + 1) (p - 1) ∧ y' (o + 2) p = y (o + 2) (p - 1) ∧ y' (o + 3) p = y (o + 3) (p - 1)) := by
            unfold f_Found_move
            rw [if_neg (by omega), if_neg (by omega)]
            by_cases q : p < most
            · rw [if_pos q, if_pos (by omega), if_pos (by omega)]
              refine ⟨xup (xup (xup y (o + 1) p (y (o + 1) (p - 1))) (o + 2) p (y (o + 2) (p - 1))) (o + 3) p (y (o + 3) (p - 1)), ?_, fun x x1 x2 x3 => ?_, fun k hk => ⟨?_, ?_, ?_⟩, fun _ => ⟨?_, ?_, ?_⟩⟩
              · simp (disch := omega) only [↓if_pos, ↓if_neg, ↓xgd_pos, ↓xgb_pos, ↓xgc_pos, ↓xlet_eq, xc1_some, xc2_some, w32_id, xup_same, xup_row, xup_ne_j, xsw_l, xsw_r]
              · rw [xup_row x3, xup_row x2, xup_row x1]
              · rw [xup_row (by omega), xup_row (by omega), xup_ne_j hk]
              · rw [xup_row (by omega), xup_ne_j hk, xup_row (by omega)]
              · rw [xup_ne_j hk, xup_row (by omega), xup_row (by omega)]
              · rw [xup_row (by omega), xup_row (by omega), xup_same]
              · rw [xup_row (by omega), xup_same]
              · rw [xup_same]
            · rw [if_neg q]
              exact ⟨y, rfl, fun _ _ _ _ => rfl, fun _ _ => ⟨rfl, rfl, rfl⟩, fun q' => absurd q' q⟩
          obtain ⟨y', v1, v2, v3, v4⟩ := mv
          refine ⟨(p - 1, y'), by rw [v1, xc1_some, show p + -1 = p - 1 by omega, w32_id (by omega) (by omega), xlet_eq], ⟨by dsimp only; omega, by dsimp only; omega, fun x x1 x2 x3 => by dsimp only; rw [v2 x x1 x2 x3]; exact yo x x1 x2 x3, fun k k0 k1 => ?_, fun k k0 k1 => ?_, fun k k0 k1 => ?_⟩, by dsimp only; omega⟩
          · dsimp only at k0
            by_cases q : k = p - 1
            · rw [q]; exact r2
            · exact yb k (by omega) k1
          · dsimp only at k1 ⊢
            obtain ⟨u1, u2, u3⟩ := v3 k (by omega)
            rw [u1, u2, u3]
            exact yl k k0 (by omega)
          · dsimp only at k0 ⊢
            by_cases q : k = p
            · subst q
              obtain ⟨u1, u2, u3⟩ := v4 (by omega)
              rw [u1, u2, u3]
              exact yl (k - 1) (by omega) (by omega)
            · obtain ⟨u1, u2, u3⟩ := v3 k q
              rw [u1, u2, u3]
              exact ym k (by omega) k1
        · right
          exact ⟨(p, y), by rw [if_pos rfl], yo, ⟨p0, p1, yb, Or.inr r2⟩, yl, ym⟩
      · right
        exact ⟨(p, y), by rw [if_neg z], yo, ⟨p0, p1, yb, Or.inl (by omega)⟩, yl, ym⟩) ⟨n0, Int.le_refl _, fun _ _ _ _ => rfl, fun k k0 k1 => by dsimp only at k0; omega, hl, fun k k0 k1 => by dsimp only at k0; omega⟩
  dsimp only at e1 e2 e3 e4
  rw [e, xc1_some]
  dsimp only
  obtain ⟨p0, p1, p2, p3⟩ := e2
  have yo4 : y o 4 = n := by rw [e1 o (by omega) (by omega) (by omega)]; exact hn
  unfold f_Found_lay_54
  by_cases z : p < most
  · rw [if_pos z, if_pos (by omega)]
    refine ⟨xup (xup (xup (xup y (o + 1) p w) (o + 2) p (D w)) (o + 3) p (S w)) o 4 (min (n + 1) most), p, ?_, fun x x0 x1 x2 x3 => ?_, ⟨p0, p1, p2, p3⟩, xup_same, fun k k0 k1 => ?_⟩
    · rw [xgd_pos p0 (by omega), xlet_eq, xgd_pos p0 (by omega), xlet_eq, xgd_pos p0 (by omega), xlet_eq, xup_row (by omega), xup_row (by omega), xup_row (by omega), yo4, w32_id (by omega) (by omega), xlet_eq]
    · rw [xup_row x0, xup_row x3, xup_row x2, xup_row x1, e1 x x1 x2 x3]
    · rw [xup_row (o' := o + 1) (by omega), xup_row (o' := o + 2) (by omega), xup_row (o' := o + 3) (by omega)]
      unfold insAt
      by_cases q : k = p
      · subst q
        rw [if_neg (by omega), if_pos rfl]
        refine ⟨?_, ?_, ?_⟩
        · rw [xup_row (by omega), xup_row (by omega), xup_same]
        · rw [xup_row (by omega), xup_same]
        · rw [xup_same]
      · have u : ∀ v, (xup (xup (xup y (o + 1) p w) (o + 2) p (D w)) (o + 3) p (S w)) v k = y v k := fun v => by rw [xup_nk q, xup_nk q, xup_nk q]
        rw [u, u, u]
        by_cases q1 : k < p
        · rw [if_pos q1]; exact e3 k k0 q1
        · rw [if_neg q1, if_neg q]; exact e4 k (by omega) k1
  · rw [if_neg z]
    refine ⟨y, p, rfl, fun x x0 x1 x2 x3 => e1 x x1 x2 x3, ⟨p0, p1, p2, p3⟩, by omega, fun k k0 k1 => ?_⟩
    unfold insAt
    rw [if_pos (by omega)]
    exact e3 k k0 (by omega)
theorem m_ahead {g : xH} {w k n : Int} {a D S : Int → Int} (hl : lst g 123 n a D S) (k0 : 0 ≤ k) (k1 : k < n) (n1 : n ≤ 200) (w1 : w < 200) (hD : ∀ x, 0 ≤ x → x ≤ w → 0 ≤ D x ∧ D x ≤ 1000000) (hS : ∀ x, 0 ≤ x → x ≤ w → 0 ≤ S x ∧ S x ≤ 67108864) (ha : 0 ≤ a k ∧ a k < w) : ∃ r, f_Md_isAhead w (D w) (S w) k g = some r ∧ (r = 1 ∧ bf (g 87) D S w (a k) ∨ r = 0 ∧ ¬ bf (g 87) D S w (a k)) := by
  obtain ⟨l1, l2, l3⟩ := hl k k0 k1
  simp only [Int.reduceAdd] at l1 l2 l3
  have d1 := hD (a k) ha.1 (by omega)
  have s1 := hS (a k) ha.1 (by omega)
  have d2 := hD w (by omega) (Int.le_refl _)
  have s2 := hS w (by omega) (Int.le_refl _)
  unfold f_Md_isAhead
  rw [w32_id (z := D w - S w) (by omega) (by omega), xlet_eq, xgd_pos k0 (by omega), xgd_pos k0 (by omega), l1, l2, l3, w32_id (by omega) (by omega), xlet_eq]
  unfold bf
  by_cases y : D w - S w = D (a k) - S (a k)
  · rw [if_pos y, xgd_pos (by omega) (by omega), xgd_pos k0 (by omega), xgd_pos ha.1 (by omega)]
    by_cases x : g 87 w = g 87 (a k)
    · rw [if_pos x, xgd_pos k0 (by omega), if_neg (by omega)]
      exact ⟨0, rfl, Or.inr ⟨rfl, fun q => by omega⟩⟩
    · rw [if_neg x, xgd_pos (by omega) (by omega), xgd_pos k0 (by omega), xgd_pos ha.1 (by omega)]
      by_cases v : g 87 (a k) < g 87 w
      · exact ⟨1, by rw [if_pos v], Or.inl ⟨rfl, Or.inr ⟨y, Or.inl v⟩⟩⟩
      · exact ⟨0, by rw [if_neg v], Or.inr ⟨rfl, fun q => by omega⟩⟩
  · rw [if_neg y]
    by_cases z : D w - S w < D (a k) - S (a k)
    · exact ⟨1, by rw [if_pos z], Or.inl ⟨rfl, Or.inl z⟩⟩
    · exact ⟨0, by rw [if_neg z], Or.inr ⟨rfl, fun q => by omega⟩⟩
theorem m_lay {g : xH} {w n b md : Int} {a D S : Int → Int} (n0 : 0 ≤ n) (n1 : n < 200) (w0 : 0 ≤ w) (w1 : w < 200) (hl : lst g 123 n a D S) (hD : ∀ x, 0 ≤ x → x ≤ w → 0 ≤ D x ∧ D x ≤ 1000000) (hS : ∀ x, 0 ≤ x → x ≤ w → 0 ≤ S x ∧ S x ≤ 67108864) (ha : ∀ k, 0 ≤ k → k < n → 0 ≤ a k ∧ a k < w) :
    ∃ g' p, f_Md_tries_68 b md w (D w) (S w) n g = some (Sum.inl (w + 1, g')) ∧ off [124, 125, 126] [] g g' ∧ lays (g 87) D S a n w p ∧ lst g' 123 (n + 1) (insAt p a w) D S := by
  unfold f_Md_tries_68
  obtain ⟨⟨p, y⟩, e, e1, e2, e3, e4⟩ := xloop_W (step := fun s : Int × xH => f_Md_tries_s68 b md w (D w) (S w) s.1 s.2)
    (I := fun s => 0 ≤ s.1 ∧ s.1 ≤ n ∧ off [124, 125, 126] [] g s.2 ∧ (∀ k, s.1 ≤ k → k < n → bf (g 87) D S w (a k)) ∧ (∀ k, 0 ≤ k → k < s.1 → s.2 124 k = a k ∧ s.2 125 k = D (a k) ∧ s.2 126 k = S (a k)) ∧ ∀ k, s.1 < k → k < n + 1 → s.2 124 k = a (k - 1) ∧ s.2 125 k = D (a (k - 1)) ∧ s.2 126 k = S (a (k - 1))) (fun s => s.1.toNat)
    (post := fun s => off [124, 125, 126] [] g s.2 ∧ lays (g 87) D S a n w s.1 ∧ (∀ k, 0 ≤ k → k < s.1 → s.2 124 k = a k ∧ s.2 125 k = D (a k) ∧ s.2 126 k = S (a k)) ∧ ∀ k, s.1 < k → k < n + 1 → s.2 124 k = a (k - 1) ∧ s.2 125 k = D (a (k - 1)) ∧ s.2 126 k = S (a (k - 1))) (s := (n, g)) (by
      rintro ⟨p, y⟩ hI
      dsimp only at hI ⊢
      obtain ⟨p0, p1, yo, yb, yl, ym⟩ := hI
      unfold f_Md_tries_s68
      by_cases z : 0 < p
      · have y8 : y 87 = g 87 := yo.1 87 (by decide) (by decide)
        obtain ⟨r, r1, r2⟩ := m_ahead (g := y) (w := w) (k := p - 1) (n := p) (a := a) (D := D) (S := S) yl (by omega) (by omega) (by omega) w1 hD hS (ha (p - 1) (by omega) (by omega))
        rw [y8] at r2
        rw [if_pos z, w32_id (z := p - 1) (by omega) (by omega), r1, xc1_some]
        rcases r2 with ⟨rfl, r2⟩ | ⟨rfl, r2⟩
        · left
          obtain ⟨u1, u2, u3⟩ := yl (p - 1) (by omega) (by omega)
          refine ⟨(p - 1, xup (xup (xup y 124 p (a (p - 1))) 125 p (D (a (p - 1)))) 126 p (S (a (p - 1)))), ?_, ⟨by dsimp only; omega, by dsimp only; omega, off_w (off_tr yo (off_tr (off_up (by decide)) (off_tr (off_up (by decide)) (off_up (by decide))))) (by decide) (by decide), fun k k0 k1 => ?_, fun k k0 k1 => ?_, fun k k0 k1 => ?_⟩, by dsimp only; omega⟩
          · rw [if_neg (by decide), xgd_pos (by omega) (by omega), xgd_pos (by omega) (by omega), xlet_eq, xgd_pos (by omega) (by omega), xgd_pos (by omega) (by omega), xlet_eq, xgd_pos (by omega) (by omega), xgd_pos (by omega) (by omega), xlet_eq, show p + -1 = p - 1 by omega, w32_id (by omega) (by omega), xlet_eq]
            rw [xup_row (o' := 125) (by decide), xup_row (o' := 126) (by decide), xup_row (o' := 126) (by decide), u1, u2, u3]
          · dsimp only at k0
            by_cases q : k = p - 1
            · rw [q]; exact r2
            · exact yb k (by omega) k1
          · dsimp only at k1 ⊢
            have hk : k ≠ p := by omega
            rw [xup_nk hk, xup_nk hk, xup_nk hk, xup_nk hk, xup_nk hk, xup_nk hk, xup_nk hk, xup_nk hk, xup_nk hk]
            exact yl k k0 (by omega)
          · dsimp only at k0 ⊢
            by_cases q : k = p
            · subst q
              refine ⟨?_, ?_, ?_⟩
              · rw [xup_row (by decide), xup_row (by decide), xup_same]
              · rw [xup_row (by decide), xup_same]
              · rw [xup_same]
            · rw [xup_nk q, xup_nk q, xup_nk q, xup_nk q, xup_nk q, xup_nk q, xup_nk q, xup_nk q, xup_nk q]
              exact ym k (by omega) k1
        · right
          exact ⟨(p, y), by rw [if_pos rfl], yo, ⟨p0, p1, yb, Or.inr r2⟩, yl, ym⟩
      · right
        exact ⟨(p, y), by rw [if_neg z], yo, ⟨p0, p1, yb, Or.inl (by omega)⟩, yl, ym⟩) ⟨n0, Int.le_refl _, off_rf, fun k k0 k1 => by dsimp only at k0; omega, hl, fun k k0 k1 => by dsimp only at k0; omega⟩
  dsimp only at e1 e2 e3 e4
  rw [e, xc1_some]
  dsimp only
  obtain ⟨p0, p1, p2, p3⟩ := e2
  unfold f_Md_tries_143 f_Md_tries_169
  refine ⟨xup (xup (xup y 124 p w) 125 p (D w)) 126 p (S w), p, ?_, off_w (off_tr e1 (off_tr (off_up (by decide)) (off_tr (off_up (by decide)) (off_up (by decide))))) (by decide) (by decide), ⟨p0, p1, p2, p3⟩, fun k k0 k1 => ?_⟩
  · rw [xgd_pos p0 (by omega), xlet_eq, xgd_pos p0 (by omega), xlet_eq, xgd_pos p0 (by omega), xlet_eq, w32_id (by omega) (by omega), xlet_eq]
  · simp only [Int.reduceAdd]
    unfold insAt
    by_cases q : k = p
    · subst q
      rw [if_neg (by omega), if_pos rfl]
      refine ⟨?_, ?_, ?_⟩
      · rw [xup_row (by decide), xup_row (by decide), xup_same]
      · rw [xup_row (by decide), xup_same]
      · rw [xup_same]
    · rw [xup_nk q, xup_nk q, xup_nk q, xup_nk q, xup_nk q, xup_nk q, xup_nk q, xup_nk q, xup_nk q]
      by_cases q1 : k < p
      · rw [if_pos q1]; exact e3 k k0 q1
      · rw [if_neg q1, if_neg q]; exact e4 k (by omega) k1
/-- the list is in order -/
def srtd (C D S a : Int → Int) (n : Int) : Prop := ∀ i j, 0 ≤ i → i < j → j < n → bf C D S (a i) (a j)
theorem bf_tr {C D S : Int → Int} {x y z : Int} (h1 : bf C D S x y) (h2 : bf C D S y z) : bf C D S x z := by
  unfold bf at *
  omega
theorem bf_tot {C D S : Int → Int} {x y : Int} (hn : x ≠ y) (h : ¬ bf C D S x y) : bf C D S y x := by
  unfold bf at *
  omega
theorem bf_irr {C D S : Int → Int} {x : Int} : ¬ bf C D S x x := by
  unfold bf
  omega
/-- two lists, one the other's beginning: a word is laid alike -/
theorem lays_cut {C D S a : Int → Int} {n n' w p p' : Int} (hs : srtd C D S a n) (ha : ∀ k, 0 ≤ k → k < n → a k ≠ w) (n0 : 0 ≤ n') (nn : n' ≤ n) (h : lays C D S a n w p) (h' : lays C D S a n' w p') : p' = min p n' := by
  obtain ⟨a0, a1, a2, a3⟩ := h
  obtain ⟨b0, b1, b2, b3⟩ := h'
  by_cases z : p ≤ n'
  · rcases Int.lt_trichotomy p' p with c | c | c
    · rcases a3 with a3 | a3
      · omega
      · exact absurd (b2 (p - 1) (by omega) (by omega)) a3
    · omega
    · rcases b3 with b3 | b3
      · omega
      · exact absurd (a2 (p' - 1) (by omega) (by omega)) b3
  · by_cases c : p' = n'
    · omega
    · exfalso
      have w1 := b2 (n' - 1) (by omega) (by omega)
      rcases a3 with a3 | a3
      · omega
      · by_cases q : n' - 1 = p - 1
        · rw [q] at w1; exact a3 w1
        · exact a3 (bf_tr w1 (hs (n' - 1) (p - 1) (by omega) (by omega) (by omega)))
theorem srtd_ins {C D S a : Int → Int} {n w p : Int} (hs : srtd C D S a n) (ha : ∀ k, 0 ≤ k → k < n → a k ≠ w) (h : lays C D S a n w p) : srtd C D S (insAt p a w) (n + 1) := by
  obtain ⟨a0, a1, a2, a3⟩ := h
  have lo : ∀ k, 0 ≤ k → k < p → bf C D S (a k) w := fun k k0 k1 => by
    rcases a3 with a3 | a3
    · omega
    · have h1 := bf_tot (fun z => ha (p - 1) (by omega) (by omega) z.symm) a3
      by_cases q : k = p - 1
      · rw [q]; exact h1
      · exact bf_tr (hs k (p - 1) k0 (by omega) (by omega)) h1
  intro i j i0 ij jn
  unfold insAt
  by_cases q1 : i < p
  · rw [if_pos q1]
    by_cases q2 : j < p
    · rw [if_pos q2]; exact hs i j i0 ij (by omega)
    · rw [if_neg q2]
      by_cases q3 : j = p
      · rw [if_pos q3]; exact lo i i0 q1
      · rw [if_neg q3]
        exact hs i (j - 1) i0 (by omega) (by omega)
  · rw [if_neg q1, if_neg (show ¬ j < p by omega), if_neg (show ¬ j = p by omega)]
    by_cases q3 : i = p
    · rw [if_pos q3]; exact a2 (j - 1) (by omega) (by omega)
    · rw [if_neg q3]; exact hs (i - 1) (j - 1) (by omega) (by omega) (by omega)
theorem ins_cut {a : Int → Int} {p n w k m : Int} (pn : p ≤ n) (k1 : k < min (min n m + 1) m) : insAt (min p (min n m)) a w k = insAt p a w k := by
  unfold insAt
  by_cases q : p ≤ min n m
  · rw [show min p (min n m) = p by omega]
  · rw [if_pos (by omega), if_pos (by omega)]
