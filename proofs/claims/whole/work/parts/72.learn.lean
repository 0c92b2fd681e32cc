/-! LEARN -/
noncomputable def cA (h : xH) (κ : Int → Int) (c : Int) : Int := cT (hK κ h) c (h 40 2).toNat
noncomputable def κs (h : xH) : Nat → Int → Int
  | 0 => h 10
  | r + 1 => if 0 < sumN (cA h (κs h r)) 6 then updK (cA h (κs h r)) (κs h r) else κs h r
/-- the ways are those of the round before -/
def Sm (h : xH) (r : Nat) : Prop := 1 ≤ r ∧ ∀ p k, 0 ≤ p → p < h 40 2 → 0 ≤ k → k < 24 → cd (hK (κs h (r - 1)) h) p k = cd (hK (κs h r) h) p k
def Go (h : xH) (r : Nat) : Prop := 0 < sumN (cA h (κs h r)) 6 ∧ ¬ Sm h r
theorem cA_b {h : xH} {κ : Int → Int} (hA : Pa h) {c : Int} : 0 ≤ cA h κ c ∧ cA h κ c ≤ 960 := by
  have c40 : h 40 2 ≤ 40 := hA.1.2.2.2.2.1
  have c0 : 0 ≤ h 40 2 := hA.1.2.2.2.1
  have := cT_b (H := hK κ h) (c := c) (h 40 2).toNat
  unfold cA
  omega
theorem κs_ok {h : xH} (hP : Pr h) (hA : Pa h) : ∀ r : Nat, KO h (κs h r)
  | 0 => KO_h hP
  | r + 1 => by
    have ih := κs_ok hP hA r
    show KO h (if 0 < sumN (cA h (κs h r)) 6 then updK (cA h (κs h r)) (κs h r) else κs h r)
    split
    · next z => exact updK_ok (fun c _ _ => cA_b hA) z ih
    · exact ih
theorem s_round {h y : xH} {r : Nat} (hP : Pr h) (hS : So h) (hA : Pa h) (hr : r < 20) (oy : off [10, 21, 22, 23, 24, 34, 35, 36, 37, 38, 39, 46, 47] [] h y) (y10 : y 10 = κs h r) (hN : 0 < h 40 2)
    (ho : (r = 0 ∧ ∀ c, 0 ≤ c → c < 960 → y 46 c = -1) ∨ (1 ≤ r ∧ ∀ p k, 0 ≤ p → p < h 40 2 → 0 ≤ k → k < 24 → y 46 (p * 24 + k) = cd (hK (κs h (r - 1)) h) p k)) :
    ∃ mo y', f_WM_learn_s26 (r : Int) 1 y = some (Sum.inl ((r : Int) + 1, mo, y')) ∧ off [10, 21, 22, 23, 24, 34, 35, 36, 37, 38, 39, 46, 47] [] h y' ∧ (mo = 1 ∧ Go h r ∨ mo = 0 ∧ ¬ Go h r) ∧ y' 10 = κs h (r + 1) ∧ (∀ p k, 0 ≤ p → p < h 40 2 → 0 ≤ k → k < 24 → y' 46 (p * 24 + k) = cd (hK (κs h r) h) p k) ∧ ∀ p, 0 ≤ p → p < h 40 2 → wSt (hK (κs h r) h) p (wN (hK (κs h r) h) p) ∧ wN (hK (κs h r) h) p ≤ 24 := by
  have hk := κs_ok hP hA r
  have c40 : h 40 2 ≤ 40 := hA.1.2.2.2.2.1
  obtain ⟨s, y1, a1, a2, a3, a4, a5, a6⟩ := s_findWays hP hS hA hk oy y10
  have same : s = 1 ∧ Sm h r ∨ s = 0 ∧ ¬ Sm h r := by
    rcases ho with ⟨rfl, o2⟩ | ⟨o1, o2⟩
    · right
      refine ⟨?_, fun z => by have := z.1; omega⟩
      rcases a3 with ⟨_, b2⟩ | ⟨b1, _⟩
      · exfalso
        have e := b2 0 0 (by omega) hN (by omega) (by omega)
        rw [o2 _ (by omega) (by omega)] at e
        obtain ⟨w1, w2⟩ := a6 0 (by omega) hN
        have n1 := wSt_1 (hK_A (κ := κs h 0) hA) (by omega) (by rw [hK_row (by decide)]; exact hN) w1
        have := wC_b (hK_C hP hk) (hK_S hS) (hK_A hA) (by omega) (by rw [hK_row (by decide)]; exact hN) w1 (k := 0) (by omega)
        unfold cd at e
        rw [if_pos (by omega)] at e
        change -1 = wC (hK (κs h 0) h) 0 0 at e
        omega
      · exact b1
    · rcases a3 with ⟨b1, b2⟩ | ⟨b1, p, k, p0, p1, k0, k1, b2⟩
      · exact Or.inl ⟨b1, o1, fun p k p0 p1 k0 k1 => by rw [← o2 p k p0 p1 k0 k1]; exact b2 p k p0 p1 k0 k1⟩
      · exact Or.inr ⟨b1, fun z => b2 (by rw [o2 p k p0 p1 k0 k1]; exact z.2 p k p0 p1 k0 k1)⟩
  have sc := s_setByCounts (y := y1) (N := cA h (κs h r)) (fun c c0 c1 => a5 c (by omega) (by omega)) (fun c _ _ => cA_b hA)
  have y110 : y1 10 = κs h r := by rw [a2.1 10 (by decide) (by decide)]; exact y10
  rw [y110] at sc
  have o1 : off [10, 21, 22, 23, 24, 34, 35, 36, 37, 38, 39, 46, 47] [] h y1 := off_w (off_tr oy a2) (by decide) (by decide)
  have e68 : ∀ m z, f_WM_learn_68 (r : Int) m z = some (Sum.inl ((r : Int) + 1, m, z)) := fun m z => by
    unfold f_WM_learn_68
    rw [w32_id (by omega) (by omega), xlet_eq]
  have e67 : ∀ z, f_WM_learn_67 (r : Int) z = some (Sum.inl ((r : Int) + 1, 0, z)) := fun z => by
    unfold f_WM_learn_67
    rw [e68]
  unfold f_WM_learn_s26
  rw [if_neg (by decide), if_pos (by omega), a1, xc2_some, sc]
  by_cases z : 0 < sumN (cA h (κs h r)) 6
  · have ek : κs h (r + 1) = updK (cA h (κs h r)) (κs h r) := by
      show (if 0 < sumN (cA h (κs h r)) 6 then _ else _) = _
      rw [if_pos z]
    rw [if_pos z, xc2_some, if_neg (by decide), e67, e68]
    generalize hy2 : (fun o => if o = 10 then updK (cA h (κs h r)) (κs h r) else y1 o : xH) = y2
    have y2r : ∀ o, o ≠ 10 → y2 o = y1 o := fun o ho => by rw [← hy2]; dsimp only; rw [if_neg ho]
    have y210 : y2 10 = updK (cA h (κs h r)) (κs h r) := by rw [← hy2]; dsimp only; rw [if_pos rfl]
    have o2 : off [10, 21, 22, 23, 24, 34, 35, 36, 37, 38, 39, 46, 47] [] h y2 := ⟨fun o h0 hn => by rw [y2r o (fun z => hn (by simp [z]))]; exact o1.1 o h0 hn, fun j hj => by rw [y2r 81 (by decide)]; exact o1.2 j hj⟩
    rcases same with ⟨rfl, s2⟩ | ⟨rfl, s2⟩
    · refine ⟨0, y2, by rw [if_neg (by decide)], o2, Or.inr ⟨rfl, fun g => g.2 s2⟩, by rw [y210, ek], fun p k p0 p1 k0 k1 => by rw [y2r 46 (by decide)]; exact a4 p k p0 p1 k0 k1, a6⟩
    · refine ⟨1, y2, by rw [if_pos rfl], o2, Or.inl ⟨rfl, z, s2⟩, by rw [y210, ek], fun p k p0 p1 k0 k1 => by rw [y2r 46 (by decide)]; exact a4 p k p0 p1 k0 k1, a6⟩
  · have ek : κs h (r + 1) = κs h r := by
      show (if 0 < sumN (cA h (κs h r)) 6 then _ else _) = _
      rw [if_neg z]
    rw [if_neg z, xc2_some, if_pos rfl, e67]
    exact ⟨0, y1, rfl, o1, Or.inr ⟨rfl, fun g => z g.1⟩, by rw [ek]; exact y110, a4, a6⟩
theorem s_learn {h : xH} (hP : Pr h) (hS : So h) (hA : Pa h) (hN : 0 < h 40 2) : ∃ (R : Nat) (C : xH), f_WM_learn h = some ((R : Int), C) ∧ off [10, 21, 22, 23, 24, 34, 35, 36, 37, 38, 39, 46, 47] [] h C ∧ C 10 = κs h R ∧ 1 ≤ R ∧ R ≤ 20 ∧ (∀ i, i + 1 < R → Go h i) ∧ (R = 20 ∨ ¬ Go h (R - 1)) := by
  unfold f_WM_learn
  rw [s_fillA (o := 46) (by decide), xc1_some]
  generalize hy0 : hLay 46 0 (xN 46 : Int) (fun _ => -1) h = y0
  have x46 : (xN 46 : Int) = 960 := rfl
  have o0 : off [46] [] h y0 := by rw [← hy0]; exact off_lay (by decide)
  rw [o0.1 40 (by decide) (by decide), if_pos hN]
  unfold f_WM_learn_25 f_WM_learn_26
  obtain ⟨r, e, R, h1, h2, h3, h4, h5, h6, h7⟩ := xloop_W (step := fun s : Int × Int × xH => f_WM_learn_s26 s.1 s.2.1 s.2.2)
    (I := fun s => ∃ r : Nat, s.1 = (r : Int) ∧ r ≤ 20 ∧ off [10, 21, 22, 23, 24, 34, 35, 36, 37, 38, 39, 46, 47] [] h s.2.2 ∧ s.2.2 10 = κs h r ∧ ((r = 0 ∧ ∀ c, 0 ≤ c → c < 960 → s.2.2 46 c = -1) ∨ (1 ≤ r ∧ ∀ p k, 0 ≤ p → p < h 40 2 → 0 ≤ k → k < 24 → s.2.2 46 (p * 24 + k) = cd (hK (κs h (r - 1)) h) p k)) ∧ (∀ i, i + 1 < r → Go h i) ∧ (s.2.1 = 1 ∧ (r = 0 ∨ Go h (r - 1)) ∨ s.2.1 = 0 ∧ 1 ≤ r ∧ ¬ Go h (r - 1))) (fun s => 20 - s.1.toNat)
    (post := fun s => ∃ R : Nat, s.1 = (R : Int) ∧ off [10, 21, 22, 23, 24, 34, 35, 36, 37, 38, 39, 46, 47] [] h s.2 ∧ s.2 10 = κs h R ∧ 1 ≤ R ∧ R ≤ 20 ∧ (∀ i, i + 1 < R → Go h i) ∧ (R = 20 ∨ ¬ Go h (R - 1))) (s := (0, 1, y0)) (by
      rintro ⟨r', mo, y⟩ ⟨r, er, r20, oy, y10, yo, yg, ym⟩
      dsimp only at er oy y10 yo yg ym ⊢
      subst er
      rcases ym with ⟨rfl, ym⟩ | ⟨rfl, ym1, ym2⟩
      · by_cases z : r < 20
        · left
          obtain ⟨mo, y', a1, a2, a3, a4, a5, a6⟩ := s_round hP hS hA z oy y10 hN yo
          refine ⟨_, a1, ⟨r + 1, by dsimp only; omega, by omega, a2, a4, Or.inr ⟨by omega, by rw [Nat.add_sub_cancel]; exact a5⟩, fun i hi => ?_, ?_⟩, by dsimp only; omega⟩
          · by_cases c : i + 1 = r
            · rcases ym with ym | ym
              · omega
              · rw [show i = r - 1 by omega]; exact ym
            · exact yg i (by omega)
          · rw [Nat.add_sub_cancel]
            rcases a3 with ⟨b1, b2⟩ | ⟨b1, b2⟩
            · exact Or.inl ⟨b1, Or.inr b2⟩
            · exact Or.inr ⟨b1, by omega, b2⟩
        · right
          have e20 : r = 20 := by omega
          refine ⟨((r : Int), y), ?_, r, rfl, oy, y10, by omega, r20, yg, Or.inl e20⟩
          unfold f_WM_learn_s26
          rw [if_neg (by decide), if_neg (by omega)]
      · right
        refine ⟨((r : Int), y), ?_, r, rfl, oy, y10, ym1, r20, yg, Or.inr ym2⟩
        unfold f_WM_learn_s26
        rw [if_pos rfl]) ⟨0, rfl, by omega, off_w o0 (by decide) (by decide), by dsimp only; rw [o0.1 10 (by decide) (by decide)]; rfl, Or.inl ⟨rfl, fun c c0 c1 => by dsimp only; rw [← hy0, x46, hLay_in c0 (by omega)]⟩, fun i hi => by omega, Or.inl ⟨rfl, Or.inl rfl⟩⟩
  rw [e, xc1_some]
  unfold f_WM_learn_75
  exact ⟨R, r.2, by rw [h1], h2, h3, h4, h5, h6, h7⟩
/-- two ways are the same, by lengths and codes, if they are padded -/
theorem cd_eq {H H' : xH} {p : Int} (hc : ∀ k : Nat, k < wN H p → 0 ≤ wC H p k) (hc' : ∀ k : Nat, k < wN H' p → 0 ≤ wC H' p k) (n24 : wN H p ≤ 24) (n24' : wN H' p ≤ 24) : (∀ k, 0 ≤ k → k < 24 → cd H p k = cd H' p k) ↔ wN H p = wN H' p ∧ ∀ k : Nat, k < wN H' p → wC H p k = wC H' p k := by
  constructor
  · intro a
    have e : wN H p = wN H' p := by
      rcases Nat.lt_trichotomy (wN H p) (wN H' p) with c | c | c
      · have := a (wN H p) (by omega) (by omega)
        unfold cd at this
        rw [if_neg (by omega), if_pos (by omega)] at this
        have := hc' (wN H p) c
        rw [show ((wN H p : Nat) : Int).toNat = wN H p by omega] at *
        omega
      · exact c
      · have := a (wN H' p) (by omega) (by omega)
        unfold cd at this
        rw [if_pos (by omega), if_neg (by omega)] at this
        have := hc (wN H' p) c
        rw [show ((wN H' p : Nat) : Int).toNat = wN H' p by omega] at *
        omega
    refine ⟨e, fun k hk => ?_⟩
    have := a k (by omega) (by omega)
    unfold cd at this
    rw [if_pos (by omega), if_pos (by omega), show ((k : Nat) : Int).toNat = k by omega] at this
    exact this
  · rintro ⟨e, a⟩ k k0 k1
    unfold cd
    by_cases c : k < (wN H' p : Int)
    · rw [if_pos (by omega), if_pos c]
      exact a k.toNat (by omega)
    · rw [if_neg (by omega), if_neg c]
theorem m_round {h y : xH} {r : Nat} (hP : Pr h) (hS : So h) (hA : Pa h) (hr : r < 20) (oy : off [88, 97, 98, 99, 100, 101, 102, 103, 104, 131, 132, 133] [22, 23, 27, 83, 84] h y) (e88 : ∀ k, 1 ≤ k → k ≤ 6 → y 88 k = κs h r k)
    (hw : 1 ≤ r → ∀ p, 0 ≤ p → p < h 40 2 → y 131 p = wN (hK (κs h (r - 1)) h) p ∧ (∀ k : Nat, k < wN (hK (κs h (r - 1)) h) p → y 132 (24 * p + k) = wC (hK (κs h (r - 1)) h) p k) ∧ wSt (hK (κs h (r - 1)) h) p (wN (hK (κs h (r - 1)) h) p) ∧ wN (hK (κs h (r - 1)) h) p ≤ 24) :
    ∃ mo g, f_Md_learn_s13 (r : Int) 1 y = some (Sum.inl ((r : Int) + 1, mo, g)) ∧ off [88, 97, 98, 99, 100, 101, 102, 103, 104, 131, 132, 133] [22, 23, 27, 83, 84] h g ∧ (mo = 1 ∧ Go h r ∧ r + 1 < 20 ∨ mo = 0 ∧ (r + 1 = 20 ∨ ¬ Go h r)) ∧ (∀ k, 1 ≤ k → k ≤ 6 → g 88 k = κs h (r + 1) k) ∧
      ∀ p, 0 ≤ p → p < h 40 2 → g 131 p = wN (hK (κs h r) h) p ∧ (∀ k : Nat, k < wN (hK (κs h r) h) p → g 132 (24 * p + k) = wC (hK (κs h r) h) p k) ∧ wSt (hK (κs h r) h) p (wN (hK (κs h r) h) p) ∧ wN (hK (κs h r) h) p ≤ 24 := by
  have hk := κs_ok hP hA r
  have c40 : h 40 2 ≤ 40 := hA.1.2.2.2.2.1
  have c0 : 0 ≤ h 40 2 := hA.1.2.2.2.1
  have wcb : ∀ (i : Nat) (p : Int), 0 ≤ p → p < h 40 2 → wSt (hK (κs h i) h) p (wN (hK (κs h i) h) p) → ∀ k : Nat, k < wN (hK (κs h i) h) p → 0 ≤ wC (hK (κs h i) h) p k := fun i p p0 p1 hs k hk' => (wC_b (hK_C hP (κs_ok hP hA i)) (hK_S hS) (hK_A hA) p0 (by rw [hK_row (by decide)]; exact p1) hs hk').1
  -- the counts are cleared
  have z34 : xloop (fun s : Int × xH => f_Md_learn_s34 ((r : Int) + 1) (if 1 < (r : Int) + 1 then 1 else 0) s.1 s.2) (0, y) = some (hLay 133 0 7 (fun _ => 0) y) := by
    refine xloop_T (S := fun k => ((k : Int), hLay 133 0 k (fun _ => 0) y)) 7 (by rw [show ((0 : Nat) : Int) = 0 from rfl, hLay_0]) (fun k hk => ?_) ?_
    · dsimp only [f_Md_learn_s34]
      have sc := hLay_succ (o := 133) (p := 0) (n := k) (f := fun _ => 0) (h := y) (by omega)
      rw [Int.zero_add] at sc
      rw [if_pos (by omega), xgd_pos (by omega) (by omega), xlet_eq, w32_id (by omega) (by omega), xlet_eq, sc]
      rfl
    · dsimp only [f_Md_learn_s34]
      rw [if_neg (by omega)]
      rfl
  generalize hy1 : hLay 133 0 7 (fun _ => 0) y = y1 at z34
  have o1 : off [133] [] y y1 := by rw [← hy1]; exact off_lay (by decide)
  have oy1 : off [88, 97, 98, 99, 100, 101, 102, 103, 104, 131, 132, 133] [22, 23, 27, 83, 84] h y1 := off_w (off_tr oy o1) (by decide) (by decide)
  have y1c : ∀ c, 0 ≤ c → c < 7 → y1 133 c = 0 := fun c x0 x1 => by rw [← hy1, hLay_in x0 (by omega)]
  -- the pairs
  obtain ⟨⟨b, g⟩, e, e1, e2, e3, e4⟩ := xloop_W (step := fun s : Int × Int × xH => f_Md_learn_s58 ((r : Int) + 1) s.1 s.2.1 s.2.2)
    (I := fun s => 0 ≤ s.2.1 ∧ s.2.1 ≤ h 40 2 ∧ off [97, 98, 99, 100, 101, 102, 103, 104, 131, 132, 133] [22, 23, 27, 83, 84] y1 s.2.2 ∧ (s.1 = (if 1 < (r : Int) + 1 then 1 else 0) ∧ (∀ p, 0 ≤ p → p < s.2.1 → EqP (hK (κs h r) h) y ((r : Int) + 1) p) ∨ s.1 = 0 ∧ ∃ p, 0 ≤ p ∧ p < s.2.1 ∧ ¬ EqP (hK (κs h r) h) y ((r : Int) + 1) p) ∧ (∀ p, 0 ≤ p → p < s.2.1 → s.2.2 131 p = wN (hK (κs h r) h) p ∧ (∀ k : Nat, k < wN (hK (κs h r) h) p → s.2.2 132 (24 * p + k) = wC (hK (κs h r) h) p k) ∧ wSt (hK (κs h r) h) p (wN (hK (κs h r) h) p) ∧ wN (hK (κs h r) h) p ≤ 24) ∧ (∀ p, s.2.1 ≤ p → s.2.2 131 p = y 131 p) ∧ (∀ c, 24 * s.2.1 ≤ c → s.2.2 132 c = y 132 c) ∧ ∀ c, 1 ≤ c → c ≤ 6 → s.2.2 133 c = cT (hK (κs h r) h) c s.2.1.toNat) (fun s => (h 40 2 - s.2.1).toNat)
    (post := fun s => off [97, 98, 99, 100, 101, 102, 103, 104, 131, 132, 133] [22, 23, 27, 83, 84] y1 s.2 ∧ (s.1 = (if 1 < (r : Int) + 1 then 1 else 0) ∧ (∀ p, 0 ≤ p → p < h 40 2 → EqP (hK (κs h r) h) y ((r : Int) + 1) p) ∨ s.1 = 0 ∧ ∃ p, 0 ≤ p ∧ p < h 40 2 ∧ ¬ EqP (hK (κs h r) h) y ((r : Int) + 1) p) ∧ (∀ p, 0 ≤ p → p < h 40 2 → s.2 131 p = wN (hK (κs h r) h) p ∧ (∀ k : Nat, k < wN (hK (κs h r) h) p → s.2 132 (24 * p + k) = wC (hK (κs h r) h) p k) ∧ wSt (hK (κs h r) h) p (wN (hK (κs h r) h) p) ∧ wN (hK (κs h r) h) p ≤ 24) ∧ ∀ c, 1 ≤ c → c ≤ 6 → s.2 133 c = cA h (κs h r) c) (s := (if 1 < (r : Int) + 1 then 1 else 0, 0, y1)) (by
      rintro ⟨b, p, z⟩ hI
      dsimp only at hI ⊢
      obtain ⟨p0, p1, zo, zs, zw, z1, z2, zn⟩ := hI
      have oz : off [88, 97, 98, 99, 100, 101, 102, 103, 104, 131, 132, 133] [22, 23, 27, 83, 84] h z := off_w (off_tr oy1 zo) (by decide) (by decide)
      by_cases q : p < h 40 2
      · left
        obtain ⟨b', g, t1, t2, t3, t4, t5, t6, t7, t8, t9, t10⟩ := m_pair (y := z) (r := (r : Int) + 1) (b := b) (p := p) hP hS hA hk oz (fun k x0 x1 => by rw [zo.1 88 (by decide) (by decide), o1.1 88 (by decide) (by decide)]; exact e88 k x0 x1) p0 q (by
          rcases zs with ⟨a, _⟩ | ⟨a, _⟩
          · rw [a]; split <;> omega
          · omega) (fun c x0 x1 => by
          rw [zn c x0 x1]
          have := cT_b (H := hK (κs h r) h) (c := c) p.toNat
          omega)
        have eqq : EqP (hK (κs h r) h) z ((r : Int) + 1) p ↔ EqP (hK (κs h r) h) y ((r : Int) + 1) p := by
          unfold EqP
          rw [z1 p (Int.le_refl _)]
          constructor
          · intro a c
            exact ⟨(a c).1, fun k hk' => by rw [← z2 _ (by omega)]; exact (a c).2 k hk'⟩
          · intro a c
            exact ⟨(a c).1, fun k hk' => by rw [z2 _ (by omega)]; exact (a c).2 k hk'⟩
        rw [eqq] at t3
        refine ⟨_, t1, ⟨by dsimp only; omega, by dsimp only; omega, off_w (off_tr zo t2) (by decide) (by decide), ?_, fun p' x0 x1 => ?_, fun p' x0 => ?_, fun c x0 => ?_, fun c x0 x1 => ?_⟩, by dsimp only; omega⟩
        · dsimp only
          rcases t3 with ⟨u1, u2⟩ | ⟨u1, u2⟩
          · rcases zs with ⟨v1, v2⟩ | ⟨v1, p', v2, v3, v4⟩
            · refine Or.inl ⟨by rw [u1, v1], fun p' x0 x1 => ?_⟩
              by_cases c : p' = p
              · rw [c]; exact u2
              · exact v2 p' x0 (by omega)
            · exact Or.inr ⟨by omega, p', v2, by omega, v4⟩
          · exact Or.inr ⟨u1, p, p0, by omega, u2⟩
        · dsimp only at x1 ⊢
          by_cases c : p' = p
          · rw [c]; exact ⟨t4, t5, t9, t10⟩
          · obtain ⟨w1, w2, w3, w4⟩ := zw p' x0 (by omega)
            exact ⟨by rw [t6 p' c]; exact w1, fun k hk' => by rw [t7 _ (by omega)]; exact w2 k hk', w3, w4⟩
        · dsimp only at x0 ⊢
          rw [t6 p' (by omega)]
          exact z1 p' (by omega)
        · dsimp only at x0 ⊢
          rw [t7 c (by omega)]
          exact z2 c (by omega)
        · dsimp only
          rw [t8 c x0 x1, zn c x0 x1, show (p + 1).toNat = p.toNat + 1 by omega]
          show _ = cT (hK (κs h r) h) c p.toNat + cnN (cd (hK (κs h r) h) ((p.toNat : Nat) : Int)) c 24
          rw [show ((p.toNat : Nat) : Int) = p by omega]
      · right
        have ep : p = h 40 2 := by omega
        subst ep
        refine ⟨(b, z), ?_, zo, zs, zw, zn⟩
        unfold f_Md_learn_s58
        rw [oz.2 61 (by decide), hA.2.2.2.1, if_neg q]) ⟨Int.le_refl _, c0, off_rf, Or.inl ⟨rfl, fun p p0 p1 => by dsimp only at p1; omega⟩, fun p p0 p1 => by dsimp only at p1; omega, fun p _ => by dsimp only; rw [o1.1 131 (by decide) (by decide)], fun c _ => by dsimp only; rw [o1.1 132 (by decide) (by decide)], fun c x0 x1 => by dsimp only; rw [y1c c (by omega) (by omega)]; rfl⟩
  dsimp only at e1 e2 e3 e4
  have og : off [88, 97, 98, 99, 100, 101, 102, 103, 104, 131, 132, 133] [22, 23, 27, 83, 84] h g := off_w (off_tr oy1 e1) (by decide) (by decide)
  obtain ⟨g2, s1, s2, s3⟩ := m_setSum (y := g) (N := cA h (κs h r)) (r := (r : Int) + 1) (b := b) e4 (fun c _ _ => cA_b hA)
  have g88 : ∀ k, 1 ≤ k → k ≤ 6 → g 88 k = κs h r k := fun k x0 x1 => by rw [e1.1 88 (by decide) (by decide), o1.1 88 (by decide) (by decide)]; exact e88 k x0 x1
  have same : b = 1 ∧ Sm h r ∨ b = 0 ∧ ¬ Sm h r := by
    by_cases z : 1 ≤ r
    · have key : ∀ p, 0 ≤ p → p < h 40 2 → (EqP (hK (κs h r) h) y ((r : Int) + 1) p ↔ ∀ k, 0 ≤ k → k < 24 → cd (hK (κs h (r - 1)) h) p k = cd (hK (κs h r) h) p k) := fun p p0 p1 => by
        obtain ⟨a1, a2, a3, a4⟩ := hw z p p0 p1
        obtain ⟨b1, b2, b3, b4⟩ := e3 p p0 p1
        rw [cd_eq (wcb (r - 1) p p0 p1 a3) (wcb r p p0 p1 b3) a4 b4]
        unfold EqP
        rw [a1]
        constructor
        · intro c
          obtain ⟨c1, c2⟩ := c (by omega)
          exact ⟨by omega, fun k hk' => by rw [← a2 k (by omega)]; exact c2 k hk'⟩
        · rintro ⟨c1, c2⟩ _
          exact ⟨by rw [c1], fun k hk' => by rw [a2 k (by omega)]; exact c2 k hk'⟩
      rw [if_pos (by omega)] at e2
      rcases e2 with ⟨u1, u2⟩ | ⟨u1, p, u2, u3, u4⟩
      · exact Or.inl ⟨u1, z, fun p k p0 p1 k0 k1 => (key p p0 p1).1 (u2 p p0 p1) k k0 k1⟩
      · exact Or.inr ⟨u1, fun c => u4 ((key p u2 u3).2 (fun k k0 k1 => c.2 p k u2 u3 k0 k1))⟩
    · rw [if_neg (by omega)] at e2
      refine Or.inr ⟨?_, fun c => z c.1⟩
      rcases e2 with ⟨u1, _⟩ | ⟨u1, _⟩ <;> exact u1
  have run : f_Md_learn_s13 (r : Int) 1 y = f_Md_learn_322 ((r : Int) + 1) b (sumN (cA h (κs h r)) 6) g2 := by
    have e30 : ∀ s0, s0 = (if 1 < (r : Int) + 1 then (1 : Int) else 0) → f_Md_learn_30 ((r : Int) + 1) s0 y = f_Md_learn_322 ((r : Int) + 1) b (sumN (cA h (κs h r)) 6) g2 := fun s0 hs => by
      subst hs
      unfold f_Md_learn_30 f_Md_learn_34
      rw [z34, xc1_some]
      unfold f_Md_learn_55 f_Md_learn_58
      rw [e, xc1_some]
      exact s1
    unfold f_Md_learn_s13
    rw [if_neg (by decide), w32_id (by omega) (by omega), xlet_eq]
    by_cases c : 1 < (r : Int) + 1
    · rw [if_pos c]; exact e30 1 (by rw [if_pos c])
    · rw [if_neg c]; exact e30 0 (by rw [if_neg c])
  have og2 : off [88, 97, 98, 99, 100, 101, 102, 103, 104, 131, 132, 133] [22, 23, 27, 83, 84] h g2 := off_w (off_tr og s2) (by decide) (by decide)
  have g2w : ∀ p, 0 ≤ p → p < h 40 2 → g2 131 p = wN (hK (κs h r) h) p ∧ (∀ k : Nat, k < wN (hK (κs h r) h) p → g2 132 (24 * p + k) = wC (hK (κs h r) h) p k) ∧ wSt (hK (κs h r) h) p (wN (hK (κs h r) h) p) ∧ wN (hK (κs h r) h) p ≤ 24 := by
    rw [s2.1 131 (by decide) (by decide), s2.1 132 (by decide) (by decide)]
    exact e3
  have g288 : ∀ k, 1 ≤ k → k ≤ 6 → g2 88 k = κs h (r + 1) k := fun k x0 x1 => by
    rw [s3 k x0 x1]
    show _ = (if 0 < sumN (cA h (κs h r)) 6 then updK (cA h (κs h r)) (κs h r) else κs h r) k
    by_cases c : 0 < sumN (cA h (κs h r)) 6
    · rw [if_pos c, if_pos c]
      unfold updK
      rw [if_pos (by omega), if_pos (by omega)]
    · rw [if_neg c, if_neg c]
      exact g88 k x0 x1
  rw [run]
  unfold f_Md_learn_322 f_Md_learn_341 f_Md_learn_342
  by_cases c : 0 < sumN (cA h (κs h r)) 6
  · rw [if_pos c]
    rcases same with ⟨rfl, s5⟩ | ⟨rfl, s5⟩
    · exact ⟨0, g2, by rw [if_neg (by decide)], og2, Or.inr ⟨rfl, Or.inr (fun z => z.2 s5)⟩, g288, g2w⟩
    · rw [if_pos rfl]
      by_cases d : (r : Int) + 1 < 20
      · exact ⟨1, g2, by rw [if_pos d], og2, Or.inl ⟨rfl, ⟨c, s5⟩, by omega⟩, g288, g2w⟩
      · exact ⟨0, g2, by rw [if_neg d], og2, Or.inr ⟨rfl, Or.inl (by omega)⟩, g288, g2w⟩
  · exact ⟨0, g2, by rw [if_neg c], og2, Or.inr ⟨rfl, Or.inr (fun z => c z.1)⟩, g288, g2w⟩
theorem m_learn {h : xH} (hP : Pr h) (hS : So h) (hA : Pa h) (hN : 0 < h 40 2) : ∃ (R : Nat) (M : xH), f_Md_learn h = some ((R : Int), M) ∧ off [88, 97, 98, 99, 100, 101, 102, 103, 104, 131, 132, 133] [22, 23, 27, 83, 84] h M ∧ (∀ k, 1 ≤ k → k ≤ 6 → M 88 k = κs h R k) ∧ 1 ≤ R ∧ R ≤ 20 ∧ (∀ i, i + 1 < R → Go h i) ∧ (R = 20 ∨ ¬ Go h (R - 1)) := by
  unfold f_Md_learn
  rw [hA.2.2.2.1, if_neg (by omega)]
  unfold f_Md_learn_13
  obtain ⟨r, e, R, h1, h2, h3, h4, h5, h6, h7⟩ := xloop_W (step := fun s : Int × Int × xH => f_Md_learn_s13 s.1 s.2.1 s.2.2)
    (I := fun s => ∃ r : Nat, s.1 = (r : Int) ∧ r ≤ 20 ∧ off [88, 97, 98, 99, 100, 101, 102, 103, 104, 131, 132, 133] [22, 23, 27, 83, 84] h s.2.2 ∧ (∀ k, 1 ≤ k → k ≤ 6 → s.2.2 88 k = κs h r k) ∧ (1 ≤ r → ∀ p, 0 ≤ p → p < h 40 2 → s.2.2 131 p = wN (hK (κs h (r - 1)) h) p ∧ (∀ k : Nat, k < wN (hK (κs h (r - 1)) h) p → s.2.2 132 (24 * p + k) = wC (hK (κs h (r - 1)) h) p k) ∧ wSt (hK (κs h (r - 1)) h) p (wN (hK (κs h (r - 1)) h) p) ∧ wN (hK (κs h (r - 1)) h) p ≤ 24) ∧ (∀ i, i + 1 < r → Go h i) ∧ (s.2.1 = 1 ∧ r < 20 ∧ (r = 0 ∨ Go h (r - 1)) ∨ s.2.1 = 0 ∧ 1 ≤ r ∧ (r = 20 ∨ ¬ Go h (r - 1)))) (fun s => 20 - s.1.toNat)
    (post := fun s => ∃ R : Nat, s.1 = (R : Int) ∧ off [88, 97, 98, 99, 100, 101, 102, 103, 104, 131, 132, 133] [22, 23, 27, 83, 84] h s.2 ∧ (∀ k, 1 ≤ k → k ≤ 6 → s.2 88 k = κs h R k) ∧ 1 ≤ R ∧ R ≤ 20 ∧ (∀ i, i + 1 < R → Go h i) ∧ (R = 20 ∨ ¬ Go h (R - 1))) (s := (0, 1, h)) (by
      rintro ⟨r', mo, y⟩ ⟨r, er, r20, oy, y88, yw, yg, ym⟩
      dsimp only at er oy y88 yw yg ym ⊢
      subst er
      rcases ym with ⟨rfl, z, ym⟩ | ⟨rfl, ym1, ym2⟩
      · left
        obtain ⟨mo, y', a1, a2, a3, a4, a5⟩ := m_round hP hS hA z oy y88 yw
        refine ⟨_, a1, ⟨r + 1, by dsimp only; omega, by omega, a2, a4, fun _ => by rw [Nat.add_sub_cancel]; exact a5, fun i hi => ?_, ?_⟩, by dsimp only; omega⟩
        · by_cases c : i + 1 = r
          · rcases ym with ym | ym
            · omega
            · rw [show i = r - 1 by omega]; exact ym
          · exact yg i (by omega)
        · rw [Nat.add_sub_cancel]
          rcases a3 with ⟨b1, b2, b3⟩ | ⟨b1, b2⟩
          · exact Or.inl ⟨b1, b3, Or.inr b2⟩
          · exact Or.inr ⟨b1, by omega, b2⟩
      · right
        refine ⟨((r : Int), y), ?_, r, rfl, oy, y88, ym1, r20, yg, ym2⟩
        unfold f_Md_learn_s13
        rw [if_pos rfl]) ⟨0, rfl, by omega, off_rf, fun k a c => (hP.1 k a c).1, fun z => by omega, fun i hi => by omega, Or.inl ⟨rfl, by omega, Or.inl rfl⟩⟩
  rw [e, xc1_some]
  unfold f_Md_learn_346
  exact ⟨R, r.2, by rw [h1], h2, h3, h4, h5, h6, h7⟩
theorem op_learn : Op2 f_WM_learn f_Md_learn := by
  refine op2_of (fun _ _ => loc_Md_learn) (fun h hI => ?_)
  have hP := hI.2.2.2.1
  have hS := hI.2.2.2.2.1
  have hA := hI.2.2.2.2.2.1
  have c0 : 0 ≤ h 40 2 := hA.1.2.2.2.1
  by_cases z : 0 < h 40 2
  · obtain ⟨R, C, a1, a2, a3, a4, a5, a6, a7⟩ := s_learn hP hS hA z
    obtain ⟨R', M, b1, b2, b3, b4, b5, b6, b7⟩ := m_learn hP hS hA z
    have eR : R' = R := by
      rcases Nat.lt_trichotomy R' R with c | c | c
      · have := a6 (R' - 1) (by omega)
        rcases b7 with b7 | b7
        · omega
        · exact absurd this b7
      · exact c
      · have := b6 (R - 1) (by omega)
        rcases a7 with a7 | a7
        · omega
        · exact absurd this a7
    subst eR
    refine ⟨(R' : Int), C, M, a1, off_hi a2 (by decide) rfl, b1, ?_⟩
    have hPr : Pr (mx C M) := by
      have := PrK (y := M) hP (κs_ok hP hA R') b3 (b2.1 89 (by decide) (by decide)) (b2.1 90 (by decide) (by decide)) (b2.1 91 (by decide) (by decide)) (b2.2 13 (by decide)) (b2.2 14 (by decide))
      unfold Pr at this ⊢
      rw [mx_lo (o := 10) (by decide), mx_lo (o := 11) (by decide), mx_lo (o := 12) (by decide), mx_lo (o := 13) (by decide), mx_hi (o := 88) (by decide), mx_hi (o := 89) (by decide), mx_hi (o := 90) (by decide), mx_hi (o := 91) (by decide), mx_hi (o := 81) (by decide), hK_10, hK_row (o := 11) (by decide), hK_row (o := 12) (by decide), hK_row (o := 13) (by decide)] at this
      rw [mx_lo (o := 10) (by decide), mx_lo (o := 11) (by decide), mx_lo (o := 12) (by decide), mx_lo (o := 13) (by decide), mx_hi (o := 88) (by decide), mx_hi (o := 89) (by decide), mx_hi (o := 90) (by decide), mx_hi (o := 91) (by decide), mx_hi (o := 81) (by decide), a3, a2.1 11 (by decide) (by decide), a2.1 12 (by decide) (by decide), a2.1 13 (by decide) (by decide)]
      exact this
    exact inv_mk (off_mx a2 b2) hI
  · refine ⟨0, hLay 46 0 (xN 46 : Int) (fun _ => -1) h, h, ?_, ?_, ?_, ?_⟩
    · unfold f_WM_learn
      rw [s_fillA (o := 46) (by decide), xc1_some, hLay_row (by decide), if_neg z]
      unfold f_WM_learn_25 f_WM_learn_26
      rw [xloop_T (step := fun s : Int × Int × xH => f_WM_learn_s26 s.1 s.2.1 s.2.2) (fun _ => (0, 0, hLay 46 0 (xN 46 : Int) (fun _ => -1) h)) 0 (b := (0, hLay 46 0 (xN 46 : Int) (fun _ => -1) h)) rfl (fun k hk => by omega) (by dsimp only [f_WM_learn_s26]; rw [if_pos rfl])]
      rfl
    · exact off_hi (off_lay (o := 46) (by decide)) (by decide) rfl
    · unfold f_Md_learn
      rw [hA.2.2.2.1, if_pos (by omega)]
    · exact inv_mk (off_mx (off_lay (o := 46) (by decide)) (off_rf (R := []) (K := []))) hI
