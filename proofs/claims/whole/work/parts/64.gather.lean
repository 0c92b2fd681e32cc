/-! WORDS IN RANK'S ORDER: all that are near enough -/
theorem lays_ex {C D S a : Int → Int} {w : Int} : ∀ n : Nat, ∃ p, lays C D S a n w p
  | 0 => ⟨0, by omega, by omega, fun k k0 k1 => by omega, Or.inl rfl⟩
  | n + 1 => by
    by_cases z : bf C D S w (a n)
    · obtain ⟨p, p0, p1, p2, p3⟩ := lays_ex (C := C) (D := D) (S := S) (a := a) (w := w) n
      refine ⟨p, p0, by omega, fun k k0 k1 => ?_, p3⟩
      by_cases q : k = n
      · rw [q]; exact z
      · exact p2 k k0 (by omega)
    · exact ⟨(n : Int) + 1, by omega, by omega, fun k k0 k1 => by omega, Or.inr (by rw [show (n : Int) + 1 - 1 = n by omega]; exact z)⟩
theorem lays_uniq {C D S a : Int → Int} {n w p p' : Int} (h : lays C D S a n w p) (h' : lays C D S a n w p') : p = p' := by
  obtain ⟨a0, a1, a2, a3⟩ := h
  obtain ⟨b0, b1, b2, b3⟩ := h'
  rcases Int.lt_trichotomy p p' with c | c | c
  · rcases b3 with b3 | b3
    · omega
    · exact absurd (a2 (p' - 1) (by omega) (by omega)) b3
  · exact c
  · rcases a3 with a3 | a3
    · omega
    · exact absurd (b2 (p - 1) (by omega) (by omega)) a3
theorem lays_C {C C' D S a : Int → Int} {n w p : Int} (ha : ∀ k, 0 ≤ k → k < n → C (a k) = C' (a k)) (hw : C w = C' w) (h : lays C D S a n w p) : lays C' D S a n w p := by
  obtain ⟨a0, a1, a2, a3⟩ := h
  have e : ∀ k, 0 ≤ k → k < n → (bf C D S w (a k) ↔ bf C' D S w (a k)) := fun k k0 k1 => by
    unfold bf
    rw [ha k k0 k1, hw]
  refine ⟨a0, a1, fun k k0 k1 => (e k (by omega) k1).1 (a2 k k0 k1), ?_⟩
  by_cases z : p = 0
  · exact Or.inl z
  · rcases a3 with a3 | a3
    · exact Or.inl a3
    · exact Or.inr (fun c => a3 ((e (p - 1) (by omega) (by omega)).2 c))
/-- the words so far that are near enough, in order -/
noncomputable def fl (C D S : Int → Int) (b : Int) : Nat → (Int → Int) × Int
  | 0 => (fun _ => 0, 0)
  | n + 1 => if D n ≤ b then (insAt (Classical.epsilon (lays C D S (fl C D S b n).1 (fl C D S b n).2 n)) (fl C D S b n).1 n, (fl C D S b n).2 + 1) else fl C D S b n
theorem fl_no {C D S : Int → Int} {b : Int} {n : Nat} (h : ¬ D n ≤ b) : fl C D S b (n + 1) = fl C D S b n := by
  show (if D n ≤ b then _ else _) = _
  rw [if_neg h]
theorem fl_yes {C D S : Int → Int} {b : Int} {n : Nat} {p : Int} (h : D n ≤ b) (hp : lays C D S (fl C D S b n).1 (fl C D S b n).2 n p) : fl C D S b (n + 1) = (insAt p (fl C D S b n).1 n, (fl C D S b n).2 + 1) := by
  show (if D n ≤ b then _ else _) = _
  rw [if_pos h, lays_uniq (Classical.epsilon_spec ⟨p, hp⟩) hp]
theorem fl_ok {C D S : Int → Int} {b : Int} : ∀ n : Nat, 0 ≤ (fl C D S b n).2 ∧ (fl C D S b n).2 ≤ n ∧ (∀ k, 0 ≤ k → k < (fl C D S b n).2 → 0 ≤ (fl C D S b n).1 k ∧ (fl C D S b n).1 k < n) ∧ srtd C D S (fl C D S b n).1 (fl C D S b n).2
  | 0 => ⟨Int.le_refl _, Int.le_refl _, fun k k0 k1 => absurd k1 (by show ¬ k < 0; omega), fun i j i0 ij jn => absurd jn (by show ¬ j < 0; omega)⟩
  | n + 1 => by
    obtain ⟨a0, a1, a2, a3⟩ := fl_ok (C := C) (D := D) (S := S) (b := b) n
    by_cases z : D n ≤ b
    · obtain ⟨p, hp⟩ := lays_ex (C := C) (D := D) (S := S) (a := (fl C D S b n).1) (w := n) (fl C D S b n).2.toNat
      rw [show (((fl C D S b n).2.toNat : Nat) : Int) = (fl C D S b n).2 by omega] at hp
      rw [fl_yes z hp]
      generalize fl C D S b n = f at *
      refine ⟨by dsimp only; omega, by dsimp only; omega, fun k k0 k1 => ?_, ?_⟩
      · dsimp only at k1 ⊢
        unfold insAt
        have := hp.1
        have := hp.2.1
        split
        · have := a2 k k0 (by omega); omega
        · split
          · omega
          · have := a2 (k - 1) (by omega) (by omega); omega
      · dsimp only
        exact srtd_ins a3 (fun k k0 k1 => by have := a2 k k0 k1; omega) hp
    · rw [fl_no z]
      exact ⟨a0, by omega, fun k k0 k1 => by have := a2 k k0 k1; omega, a3⟩
theorem s_gather {h : xH} {o r b bm most : Int} {D S : Int → Int} (ho : o = 62 ∨ o = 66) (hr : r = 60 ∨ r = 61) (N0 : 0 ≤ h 5 2) (N1 : h 5 2 ≤ 200) (m1 : 1 ≤ most) (m2 : most ≤ 200) (hD : ∀ w, 0 ≤ w → w < h 5 2 → 0 ≤ D w ∧ D w ≤ 1000000) (hrel : ∀ w, 0 ≤ w → w < h 5 2 → (h r w ≤ b ↔ D w ≤ bm) ∧ (D w ≤ bm → h r w = D w))
    (hS : ∀ w, 0 ≤ w → w < h 5 2 → f_Lex_share w h = some (S w) ∧ 0 ≤ S w ∧ S w ≤ 67108864) : ∃ g, f_Found_gather o r b most h = some (min (fl (h 8) D S bm (h 5 2).toNat).2 most, g) ∧ (∀ x, x ≠ o → x ≠ o + 1 → x ≠ o + 2 → x ≠ o + 3 → g x = h x) ∧ g o 4 = min (fl (h 8) D S bm (h 5 2).toNat).2 most ∧ lst g o (min (fl (h 8) D S bm (h 5 2).toNat).2 most) (fl (h 8) D S bm (h 5 2).toNat).1 D S := by
  have xr : (xN r : Int) = 200 := by rcases hr with rfl | rfl <;> rfl
  unfold f_Found_gather f_Found_gather_8
  rw [xlet_eq]
  obtain ⟨g, e, e1, e2, e3⟩ := xloop_W (step := fun s : Int × xH => f_Found_gather_s8 o r b most s.1 s.2)
    (I := fun s => 0 ≤ s.1 ∧ s.1 ≤ h 5 2 ∧ (∀ x, x ≠ o → x ≠ o + 1 → x ≠ o + 2 → x ≠ o + 3 → s.2 x = h x) ∧ s.2 o 4 = min (fl (h 8) D S bm s.1.toNat).2 most ∧ lst s.2 o (min (fl (h 8) D S bm s.1.toNat).2 most) (fl (h 8) D S bm s.1.toNat).1 D S) (fun s => (h 5 2 - s.1).toNat)
    (post := fun g => (∀ x, x ≠ o → x ≠ o + 1 → x ≠ o + 2 → x ≠ o + 3 → g x = h x) ∧ g o 4 = min (fl (h 8) D S bm (h 5 2).toNat).2 most ∧ lst g o (min (fl (h 8) D S bm (h 5 2).toNat).2 most) (fl (h 8) D S bm (h 5 2).toNat).1 D S) (s := (0, xup h o 4 0)) (by
      rintro ⟨w, y⟩ hI
      dsimp only at hI ⊢
      obtain ⟨w0, w1, yo, y4, yl⟩ := hI
      unfold f_Found_gather_s8
      rw [yo 5 (by omega) (by omega) (by omega) (by omega)]
      by_cases z : w < h 5 2
      · left
        have F := fl_ok (C := h 8) (D := D) (S := S) (b := bm) w.toNat
        have ew : ((w.toNat : Nat) : Int) = w := by omega
        have en : (w + 1).toNat = w.toNat + 1 := by omega
        rw [ew] at F
        obtain ⟨F0, F1, F2, F3⟩ := F
        obtain ⟨r1, r2⟩ := hrel w w0 z
        have yr : y r w = h r w := by rw [yo r (by omega) (by omega) (by omega) (by omega)]
        have e55 : ∀ y', f_Found_gather_55 o r b most w y' = some (Sum.inl (w + 1, y')) := fun y' => by
          unfold f_Found_gather_55
          rw [w32_id (by omega) (by omega), xlet_eq]
        rw [if_pos z, xr, if_pos (by omega), xgd_pos w0 (by omega), yr]
        by_cases q : b < h r w
        · have nd : ¬ D ((w.toNat : Nat) : Int) ≤ bm := by rw [ew]; intro c; have := r1.2 c; omega
          refine ⟨(w + 1, y), by rw [if_pos q, e55], ⟨by dsimp only; omega, by dsimp only; omega, yo, ?_, ?_⟩, by dsimp only; omega⟩
          · dsimp only; rw [en, fl_no nd]; exact y4
          · dsimp only; rw [en, fl_no nd]; exact yl
        · have hd : D w ≤ bm := r1.1 (by omega)
          rw [if_neg q, xgd_pos w0 (by omega), r2 hd, show min most 200 = most by omega]
          have e8 : y 8 = h 8 := yo 8 (by omega) (by omega) (by omega) (by omega)
          have e4 : y 4 = h 4 := yo 4 (by omega) (by omega) (by omega) (by omega)
          have hs : f_Lex_share w y = some (S w) := by
            rw [← (hS w w0 z).1]
            unfold f_Lex_share f_Lex_countOf
            rw [e4, e8]
          obtain ⟨y', p, l1, l2, l3, l4, l5⟩ := s_lay (g := y) (o := o) (w := w) (most := most) (n := min (fl (h 8) D S bm w.toNat).2 most) (a := (fl (h 8) D S bm w.toNat).1) (D := D) (S := S) ho y4 (by omega) (by omega) m1 m2 w0 (by omega) yl (fun x x0 x1 => hD x x0 (by omega)) (fun x x0 x1 => (hS x x0 (by omega)).2) (fun k k0 k1 => F2 k k0 (by omega)) hs
          rw [e8] at l3
          obtain ⟨p', hp⟩ := lays_ex (C := h 8) (D := D) (S := S) (a := (fl (h 8) D S bm w.toNat).1) (w := w) (fl (h 8) D S bm w.toNat).2.toNat
          rw [show (((fl (h 8) D S bm w.toNat).2.toNat : Nat) : Int) = (fl (h 8) D S bm w.toNat).2 by omega] at hp
          have ep := lays_cut F3 (fun k k0 k1 => by have := F2 k k0 k1; omega) (by omega) (by omega) hp l3
          have fy := fl_yes (C := h 8) (D := D) (S := S) (b := bm) (n := w.toNat) (p := p') (by rw [ew]; exact hd) (by rw [ew]; exact hp)
          rw [ew] at fy
          refine ⟨(w + 1, y'), by rw [l1, xc1_some, e55], ⟨by dsimp only; omega, by dsimp only; omega, fun x x0 x1 x2 x3 => by dsimp only; rw [l2 x x0 x1 x2 x3]; exact yo x x0 x1 x2 x3, ?_, ?_⟩, by dsimp only; omega⟩
          · dsimp only; rw [en, fy, l4]; dsimp only; omega
          · dsimp only
            rw [en, fy]
            dsimp only
            rw [show min ((fl (h 8) D S bm w.toNat).2 + 1) most = min (min (fl (h 8) D S bm w.toNat).2 most + 1) most by omega]
            intro k k0 k1
            have := l5 k k0 k1
            rw [ep, ins_cut hp.2.1 k1] at this
            exact this
      · right
        refine ⟨y, by rw [if_neg z], yo, ?_, ?_⟩
        · rw [show h 5 2 = w by omega]; exact y4
        · rw [show h 5 2 = w by omega]; exact yl) ⟨Int.le_refl _, N0, fun x x0 _ _ _ => xup_row x0, by dsimp only; rw [xup_same]; show 0 = min 0 most; omega, fun k k0 k1 => by
        dsimp only at k1
        rw [show min (fl (h 8) D S bm (0 : Int).toNat).2 most = 0 from (by show min 0 most = 0; omega)] at k1
        omega⟩
  rw [e, xc1_some]
  unfold f_Found_gather_61
  exact ⟨g, by rw [e2], e1, e2, e3⟩
theorem m_keeps {y : xH} {n most : Int} {a D S : Int → Int} (hn : y 81 57 = n) (n0 : 0 ≤ n) (n1 : n ≤ 200) (m0 : 0 ≤ most) (hl : lst y 123 n a D S) : ∃ g, f_Md_keeps most y = some (min n most, g) ∧ off [121, 122, 123] [53] y g ∧ g 81 53 = min n most ∧ lst g 120 (min n most) a D S := by
  unfold f_Md_keeps f_Md_keeps_14
  rw [min_s, xc1_some, hn, xlet_eq, show min most n = min n most by omega]
  obtain ⟨g, e, e1, e2⟩ := xloop_W (step := fun s : Int × xH => f_Md_keeps_s14 s.1 s.2)
    (I := fun s => 0 ≤ s.1 ∧ s.1 ≤ min n most ∧ off [121, 122, 123] [] (xup y 81 53 (min n most)) s.2 ∧ lst s.2 120 s.1 a D S) (fun s => (min n most - s.1).toNat)
    (post := fun g => off [121, 122, 123] [] (xup y 81 53 (min n most)) g ∧ lst g 120 (min n most) a D S) (s := (0, xup y 81 53 (min n most))) (by
      rintro ⟨k, z⟩ hI
      dsimp only at hI ⊢
      obtain ⟨k0, k1, zo, zl⟩ := hI
      unfold f_Md_keeps_s14
      rw [zo.2 53 (by decide), xup_same]
      by_cases q : k < min n most
      · left
        obtain ⟨u1, u2, u3⟩ := hl k k0 (by omega)
        simp only [Int.reduceAdd] at u1 u2 u3
        rw [if_pos q]
        refine ⟨(k + 1, xup (xup (xup z 121 k (a k)) 122 k (D (a k))) 123 k (S (a k))), ?_, ⟨by dsimp only; omega, by dsimp only; omega, off_w (off_tr zo (off_tr (off_up (by decide)) (off_tr (off_up (by decide)) (off_up (by decide))))) (by decide) (by decide), fun j j0 j1 => ?_⟩, by dsimp only; omega⟩
        · rw [xgd_pos k0 (by omega), xgd_pos k0 (by omega), xlet_eq, xgd_pos k0 (by omega), xgd_pos k0 (by omega), xlet_eq, xgd_pos k0 (by omega), xgd_pos k0 (by omega), xlet_eq, w32_id (by omega) (by omega), xlet_eq]
          rw [xup_row (o' := 125) (by decide), xup_row (o' := 126) (by decide), xup_row (o' := 126) (by decide), zo.1 124 (by decide) (by decide), zo.1 125 (by decide) (by decide), zo.1 126 (by decide) (by decide), xup_row (by decide), xup_row (by decide), xup_row (by decide), u1, u2, u3]
        · dsimp only at j1 ⊢
          simp only [Int.reduceAdd]
          by_cases c : j = k
          · subst c
            refine ⟨?_, ?_, ?_⟩
            · rw [xup_row (by decide), xup_row (by decide), xup_same]
            · rw [xup_row (by decide), xup_same]
            · rw [xup_same]
          · rw [xup_nk c, xup_nk c, xup_nk c, xup_nk c, xup_nk c, xup_nk c, xup_nk c, xup_nk c, xup_nk c]
            exact zl j j0 (by omega)
      · right
        exact ⟨z, by rw [if_neg q], zo, by rw [show min n most = k by omega]; exact zl⟩) ⟨Int.le_refl _, by dsimp only; omega, off_rf, fun j j0 j1 => by dsimp only at j1; omega⟩
  rw [e, xc1_some]
  unfold f_Md_keeps_64
  have e53 : g 81 53 = min n most := by rw [e1.2 53 (by decide), xup_same]
  exact ⟨g, by rw [e53], off_w (off_tr off_um e1) (by decide) (by decide), e53, e2⟩
