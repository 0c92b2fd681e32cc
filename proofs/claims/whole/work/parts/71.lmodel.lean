/-! LEARNING: the model's round -/
theorem mx_self {y : xH} : mx y y = y := by
  funext o
  by_cases q : o ≤ 80
  · rw [mx_lo q]
  · rw [mx_hi (by omega)]
theorem mx_mx {a b z : xH} : mx a (mx b z) = mx a z := by
  funext o
  by_cases q : o ≤ 80
  · rw [mx_lo q, mx_lo q]
  · rw [mx_hi (by omega), mx_hi (by omega), mx_hi (by omega)]
/-- what the model does over other cells of the class it does over its own -/
theorem run1 {g : xH → Option xH} (lg : ∀ c h : xH, g (mx c h) = Option.map (mx c) (g h)) {c y z : xH} (e : g (mx c y) = some z) : g y = some (mx y z) := by
  rw [lg] at e
  cases hz : g y with
  | none => rw [hz] at e; exact absurd e (by simp)
  | some z' =>
    rw [hz] at e
    have e2 : mx c z' = z := by simpa using e
    have e3 := lg y y
    rw [mx_self, hz] at e3
    have e4 : z' = mx y z' := by simpa using e3
    rw [← e2, mx_mx, ← e4]
/-- the model's heap with the class's prices as they would be -/
theorem PrK {h y : xH} {κ : Int → Int} (hP : Pr h) (hk : KO h κ) (e88 : ∀ k, 1 ≤ k → k ≤ 6 → y 88 k = κ k) (e89 : y 89 = h 89) (e90 : y 90 = h 90) (e91 : y 91 = h 91) (e13 : y 81 13 = h 81 13) (e14 : y 81 14 = h 81 14) : Pr (mx (hK κ h) y) := by
  obtain ⟨p1, p2, p3, p4, p5, p6⟩ := hP
  unfold Pr
  rw [mx_lo (o := 10) (by decide), mx_lo (o := 11) (by decide), mx_lo (o := 12) (by decide), mx_lo (o := 13) (by decide), mx_hi (o := 88) (by decide), mx_hi (o := 89) (by decide), mx_hi (o := 90) (by decide), mx_hi (o := 91) (by decide), mx_hi (o := 81) (by decide), hK_10, hK_row (o := 11) (by decide), hK_row (o := 12) (by decide), hK_row (o := 13) (by decide), e89, e90, e91, e13, e14, hk.2 8 (by omega), hk.2 9 (by omega)]
  exact ⟨fun k a b => ⟨e88 k a b, hk.1 k a b⟩, p2, p3, p4, p5, p6⟩
/-- one pair: the model finds its way -/
theorem m_pairWay {h y : xH} {κ : Int → Int} {p : Int} (hP : Pr h) (hS : So h) (hA : Pa h) (hk : KO h κ) (oy : off [88, 97, 98, 99, 100, 101, 102, 103, 104, 131, 132, 133] [22, 23, 27, 83, 84] h y) (e88 : ∀ k, 1 ≤ k → k ≤ 6 → y 88 k = κ k) (p0 : 0 ≤ p) (p1 : p < h 40 2) :
    ∃ y1 y2 y3, f_Md_takePair p y = some y1 ∧ f_Md_sums y1 = some y2 ∧ f_Md_ways y2 = some y3 ∧ off [97, 98, 99, 100, 101, 102, 103, 104] [22, 23, 27, 83, 84] y y3 ∧ y3 81 27 = wN (hK κ h) p ∧ wSt (hK κ h) p (wN (hK κ h) p) ∧ wN (hK κ h) p ≤ 24 ∧ ∀ k : Nat, k < wN (hK κ h) p → y3 100 k = min (wC (hK κ h) p k) 7 ∧ y3 104 k = if wC (hK κ h) p k < 7 then -1 else wC (hK κ h) p k - 7 := by
  have c40 : h 40 2 ≤ 40 := hA.1.2.2.2.2.1
  obtain ⟨R1, R2, f1, f2, f3⟩ := id hA
  obtain ⟨y1, k1, k2, k3, k4, k5⟩ := m_takePair (h := y) p0 (by omega)
  have o1 := off_tr oy k2
  rw [oy.1 127 (by decide) (by decide)] at k3
  rw [oy.1 129 (by decide) (by decide)] at k4
  rw [oy.1 128 (by decide) (by decide), oy.1 130 (by decide) (by decide)] at k5
  obtain ⟨u1, u2, u3, u4⟩ := f3 p p0 p1
  rw [u1] at k3
  rw [u2] at k4
  obtain ⟨a1, a2, a3⟩ := RO_let R1 p0 p1
  obtain ⟨b1, b2, b3⟩ := RO_let R2 p0 (by rw [f1]; exact p1)
  simp only [Int.reduceAdd] at a1 a2 a3 b1 b2 b3
  have e97 : ∀ k, 0 ≤ k → k < h 42 p → y1 97 k = h 41 (p * 12 + k) := fun k x0 x1 => by rw [(k5 k x0 (by omega)).1]; exact u3 k x0 x1
  have e98 : ∀ k, 0 ≤ k → k < h 45 p → y1 98 k = h 44 (p * 12 + k) := fun k x0 x1 => by rw [(k5 k x0 (by omega)).2]; exact u4 k x0 x1
  -- the heap as it would be
  have hi : ∀ o, 81 ≤ o → mx (hK κ h) y1 o = y1 o := fun o ho => mx_hi ho
  have lo : ∀ o, o ≤ 80 → mx (hK κ h) y1 o = hK κ h o := fun o ho => mx_lo ho
  have Px : Pr (mx (hK κ h) y1) := PrK hP hk (fun k x0 x1 => by rw [k2.1 88 (by decide) (by decide)]; exact e88 k x0 x1) (o1.1 89 (by decide) (by decide)) (o1.1 90 (by decide) (by decide)) (o1.1 91 (by decide) (by decide)) (o1.2 13 (by decide)) (o1.2 14 (by decide))
  have Sx : So (mx (hK κ h) y1) := by
    have : off [10, 88, 97, 98, 99, 100, 101, 102, 103, 104, 131, 132, 133] [22, 23, 27, 83, 84] h (mx (hK κ h) y1) := ⟨fun o h0 hn => by
      by_cases q : o ≤ 80
      · rw [lo o q, hK_row (fun z => hn (by simp [z]))]
      · rw [hi o (by omega)]
        exact o1.1 o h0 (fun z => hn (by simp at z ⊢; omega)), fun j hn => by
        rw [hi 81 (by decide)]
        exact o1.2 j (fun z => hn (by simp at z ⊢; omega))⟩
    exact So_off this (by decide) hS
  have Ax : MA (mx (hK κ h) y1) := by
    unfold MA
    rw [hi 81 (by decide), hi 97 (by decide), k3]
    exact ⟨by omega, by omega, fun k x0 x1 => by rw [e97 k x0 x1]; exact a3 k x0 x1⟩
  have Bx : MB (mx (hK κ h) y1) := by
    unfold MB
    rw [hi 81 (by decide), hi 98 (by decide), k4]
    exact ⟨by omega, by omega, fun k x0 x1 => by rw [e98 k x0 x1]; exact b3 k x0 x1⟩
  have er1 : rp (hK κ h) 40 p = rp h 40 p := rp_congr (hK_row (by decide)) (hK_row (by decide))
  have er2 : rp (hK κ h) 43 p = rp h 43 p := rp_congr (hK_row (by decide)) (hK_row (by decide))
  have ep : pA (mx (hK κ h) y1) = rp (hK κ h) 40 p := by
    rw [er1]
    unfold pA
    rw [hi 81 (by decide), hi 97 (by decide), k3]
    exact pad_ext rfl e97
  have eq : pB (mx (hK κ h) y1) = rp (hK κ h) 43 p := by
    rw [er2]
    unfold pB
    rw [hi 81 (by decide), hi 98 (by decide), k4]
    exact pad_ext rfl e98
  have cx : ∀ x, 10 ≤ x → x ≤ 20 → mx (hK κ h) y1 x = hK κ h x := fun x _ b => lo x (by omega)
  have x22 : mx (hK κ h) y1 81 22 = hK κ h 42 p := by rw [hi 81 (by decide), k3, hK_row (by decide)]
  have x23 : mx (hK κ h) y1 81 23 = hK κ h 45 p := by rw [hi 81 (by decide), k4, hK_row (by decide)]
  obtain ⟨z2, l1, l2, l3⟩ := m_sums Px Sx Ax Bx
  obtain ⟨P5, S5, A5, B5, d1, d2, d3, d4, d5, d6, d7, d8⟩ := ms_fr l2 Px Sx Ax Bx
  have D5 : Dm z2 = Dm (mx (hK κ h) y1) := by unfold Dm; rw [d1, d2, d3, d4, d5, d6, d7, d8]
  obtain ⟨z3, n, v1, v2, v3, v4, v5, v6, r, v7, v8⟩ := m_ways P5 S5 A5 B5 (fun x y' a b c d => by rw [D5]; exact l3 x y' a (by omega) c (by omega))
  rw [d1, d2, d3, d4, d5, d6, d7, d8, sp_cg cx, tA_cg cx, tB_cg cx, cx 14 (by decide) (by decide), x22, x23, ep, eq] at v5 v6 v7
  have hn : wN (hK κ h) p = n := wN_of ⟨v5, v6⟩
  have r1 := run1 (fun c y => loc_Md_sums) l1
  have ez : mx z2 (mx y1 z2) = z2 := by rw [mx_mx, mx_self]
  have r2 : f_Md_ways (mx y1 z2) = some (mx y1 z3) := by
    have := run1 (fun c y => loc_Md_ways) (c := z2) (y := mx y1 z2) (z := z3) (by rw [ez]; exact v1)
    rw [this]
    congr 1
    funext o
    by_cases q : o ≤ 80
    · rw [mx_lo q, mx_lo q, mx_lo q]
    · rw [mx_hi (by omega), mx_hi (by omega)]
  refine ⟨y1, _, _, k1, r1, r2, ?_, ?_, ?_, ?_, fun k hk => ?_⟩
  · have o3 : off [99, 100, 101, 102, 103, 104] [27, 83, 84] y1 (mx y1 z3) := ⟨fun o h0 hn => by
      by_cases q : o ≤ 80
      · rw [mx_lo q]
      · rw [mx_hi (by omega), v2.1 o h0 (fun z => hn (by simp at z ⊢; omega)), l2.1 o h0 (fun z => hn (by simp at z ⊢; omega)), hi o (by omega)], fun j hn => by
        rw [mx_hi (by decide), v2.2 j (fun z => hn (by simp at z ⊢; omega)), l2.2 j (fun z => hn (by simp at z ⊢; omega)), hi 81 (by decide)]⟩
    exact off_w (off_tr k2 o3) (by decide) (by decide)
  · rw [mx_hi (by decide), v3, hn]
  · rw [hn]; exact ⟨v5, v6⟩
  · rw [hn]; exact v4
  · rw [hn] at hk
    obtain ⟨w1, w2⟩ := v8 k hk
    have w3 := (v7 k hk).1
    rw [w3] at w1 w2
    rw [mx_hi (o := 100) (by decide), mx_hi (o := 104) (by decide)]
    exact ⟨w1, w2⟩
theorem cnN_pad {H : xH} {p c : Int} (c0 : 0 ≤ c) {n : Nat} (hn : wN H p = n) (n24 : n ≤ 24) : cnN (cd H p) c n = cnN (cd H p) c 24 := by
  have key : ∀ m : Nat, cnN (cd H p) c (n + m) = cnN (cd H p) c n := by
    intro m
    induction m with
    | zero => rfl
    | succ m ih =>
      show cnN (cd H p) c (n + m) + (if cd H p ((n + m : Nat) : Int) = c then 1 else 0) = _
      rw [ih, if_neg, Int.add_zero]
      unfold cd
      rw [hn, if_neg (by omega)]
      omega
  have := key (24 - n)
  rw [show n + (24 - n) = 24 by omega] at this
  exact this.symm
/-- this pair's way is that of the round before, as the model holds it -/
def EqP (H y : xH) (r p : Int) : Prop := 1 < r → y 131 p = wN H p ∧ ∀ k : Nat, k < wN H p → y 132 (24 * p + k) = wC H p k
theorem m_pair {h y : xH} {κ : Int → Int} {r b p : Int} (hP : Pr h) (hS : So h) (hA : Pa h) (hk : KO h κ) (oy : off [88, 97, 98, 99, 100, 101, 102, 103, 104, 131, 132, 133] [22, 23, 27, 83, 84] h y) (e88 : ∀ k, 1 ≤ k → k ≤ 6 → y 88 k = κ k) (p0 : 0 ≤ p) (p1 : p < h 40 2) (hb : b = 0 ∨ b = 1) (hc : ∀ c, 1 ≤ c → c ≤ 6 → 0 ≤ y 133 c ∧ y 133 c ≤ 2000) :
    ∃ b' g, f_Md_learn_s58 r b p y = some (Sum.inl (b', p + 1, g)) ∧ off [97, 98, 99, 100, 101, 102, 103, 104, 131, 132, 133] [22, 23, 27, 83, 84] y g ∧ (b' = b ∧ EqP (hK κ h) y r p ∨ b' = 0 ∧ ¬ EqP (hK κ h) y r p) ∧ g 131 p = wN (hK κ h) p ∧ (∀ k : Nat, k < wN (hK κ h) p → g 132 (24 * p + k) = wC (hK κ h) p k) ∧ (∀ j, j ≠ p → g 131 j = y 131 j) ∧ (∀ c, (c < 24 * p ∨ 24 * p + 24 ≤ c) → g 132 c = y 132 c) ∧ (∀ c, 1 ≤ c → c ≤ 6 → g 133 c = y 133 c + cnN (cd (hK κ h) p) c 24) ∧ wSt (hK κ h) p (wN (hK κ h) p) ∧ wN (hK κ h) p ≤ 24 := by
  have c40 : h 40 2 ≤ 40 := hA.1.2.2.2.2.1
  have PK := hK_C hP hk
  have SK := hK_S (κ := κ) hS
  have AK := hK_A (κ := κ) hA
  obtain ⟨y1, y2, y3, k1, k2, k3, k4, k5, k6, k7, k8⟩ := m_pairWay hP hS hA hk oy e88 p0 p1
  have wb := fun k hk => wC_b PK SK AK p0 (by rw [hK_row (by decide)]; exact p1) k6 (k := k) hk
  have e131 : y3 131 = y 131 := k4.1 131 (by decide) (by decide)
  have e132 : y3 132 = y 132 := k4.1 132 (by decide) (by decide)
  have e133 : y3 133 = y 133 := k4.1 133 (by decide) (by decide)
  generalize hH : hK κ h = H at *
  generalize hn : wN H p = n at *
  -- the codes of the way
  have inner : ∀ b0 : Int, (b0 = 0 ∨ b0 = 1) → ∃ b' g, f_Md_learn_102 r b0 p y3 = some (Sum.inl (b', p + 1, g)) ∧ off [131, 132, 133] [] y3 g ∧ (b' = b0 ∧ (∀ k : Nat, k < n → 1 < r → (k : Int) < y 131 p → y 132 (24 * p + k) = wC H p k) ∨ b' = 0 ∧ ∃ k : Nat, k < n ∧ 1 < r ∧ (k : Int) < y 131 p ∧ y 132 (24 * p + k) ≠ wC H p k) ∧ g 131 p = n ∧ (∀ k : Nat, k < n → g 132 (24 * p + k) = wC H p k) ∧ (∀ j, j ≠ p → g 131 j = y 131 j) ∧ (∀ c, (c < 24 * p ∨ 24 * p + 24 ≤ c) → g 132 c = y 132 c) ∧ (∀ c, 1 ≤ c → c ≤ 6 → g 133 c = y 133 c + cnN (cd H p) c 24) := by
    intro b0 hb0
    unfold f_Md_learn_102 f_Md_learn_105
    obtain ⟨⟨b', g⟩, e, e1, e2, e3, e4, e5⟩ := xloop_W (step := fun s : Int × Int × xH => f_Md_learn_s105 r s.1 p s.2.1 s.2.2)
      (I := fun s => 0 ≤ s.2.1 ∧ s.2.1 ≤ n ∧ off [132, 133] [] y3 s.2.2 ∧ (s.1 = b0 ∧ (∀ k : Nat, (k : Int) < s.2.1 → 1 < r → (k : Int) < y 131 p → y 132 (24 * p + k) = wC H p k) ∨ s.1 = 0 ∧ ∃ k : Nat, (k : Int) < s.2.1 ∧ 1 < r ∧ (k : Int) < y 131 p ∧ y 132 (24 * p + k) ≠ wC H p k) ∧ (∀ k : Nat, (k : Int) < s.2.1 → s.2.2 132 (24 * p + k) = wC H p k) ∧ (∀ c, (c < 24 * p ∨ 24 * p + s.2.1 ≤ c) → s.2.2 132 c = y 132 c) ∧ ∀ c, 1 ≤ c → c ≤ 6 → s.2.2 133 c = y 133 c + cnN (cd H p) c s.2.1.toNat) (fun s => ((n : Int) - s.2.1).toNat)
      (post := fun s => off [132, 133] [] y3 s.2 ∧ (s.1 = b0 ∧ (∀ k : Nat, k < n → 1 < r → (k : Int) < y 131 p → y 132 (24 * p + k) = wC H p k) ∨ s.1 = 0 ∧ ∃ k : Nat, k < n ∧ 1 < r ∧ (k : Int) < y 131 p ∧ y 132 (24 * p + k) ≠ wC H p k) ∧ (∀ k : Nat, k < n → s.2 132 (24 * p + k) = wC H p k) ∧ (∀ c, (c < 24 * p ∨ 24 * p + 24 ≤ c) → s.2 132 c = y 132 c) ∧ (∀ c, 1 ≤ c → c ≤ 6 → s.2 133 c = y 133 c + cnN (cd H p) c n)) (s := (b0, 0, y3)) (by
        rintro ⟨b', k, z⟩ hI
        dsimp only at hI ⊢
        obtain ⟨x0, x1, zo, zs, zf, zc, zn⟩ := hI
        unfold f_Md_learn_s105
        rw [zo.2 27 (by decide), k5]
        by_cases q : k < (n : Int)
        · left
          obtain ⟨kk, rfl⟩ : ∃ kk : Nat, k = kk := ⟨k.toNat, by omega⟩
          have hkk : kk < n := by omega
          obtain ⟨m1, m2⟩ := k8 kk hkk
          obtain ⟨w0, w1⟩ := wb kk hkk
          have z100 : z 100 = y3 100 := zo.1 100 (by decide) (by decide)
          have z104 : z 104 = y3 104 := zo.1 104 (by decide) (by decide)
          have z131 : z 131 = y 131 := by rw [zo.1 131 (by decide) (by decide), e131]
          have code : (if z 100 (kk : Int) = 7 then (xgd (kk : Int) 24 (f_Md_learn_146 r b' p kk (w32 (7 + (z 104 (kk : Int)))) z)) else (xgd (kk : Int) 24 (f_Md_learn_146 r b' p kk (z 100 (kk : Int)) z))) = f_Md_learn_146 r b' p kk (wC H p kk) z := by
            rw [z100, z104, m1, m2, xgd_pos (by omega) (by omega), xgd_pos (by omega) (by omega)]
            by_cases c : wC H p kk < 7
            · rw [if_neg (by omega), show min (wC H p kk) 7 = wC H p kk by omega]
            · rw [if_pos (by omega), if_neg c, w32_id (by omega) (by omega), show 7 + (wC H p kk - 7) = wC H p kk by omega]
          rw [if_pos q, xgd_pos (by omega) (by omega), code]
          have cde : cd H p (kk : Int) = wC H p kk := by
            unfold cd
            rw [hn, if_pos q]
            rfl
          have nx : ∀ c, cnN (cd H p) c ((kk : Int) + 1).toNat = cnN (cd H p) c kk + if wC H p kk = c then 1 else 0 := fun c => by
            rw [show ((kk : Int) + 1).toNat = kk + 1 by omega, ← cde]
            rfl
          have tl : ∀ z' : xH, z' 131 = y 131 → z' 132 = z 132 → ∃ b2, f_Md_learn_170 r b' p kk (wC H p kk) z' = some (Sum.inl (b2, (kk : Int) + 1, xup z' 132 (24 * p + kk) (wC H p kk))) ∧ (b2 = b' ∧ (1 < r → (kk : Int) < y 131 p → y 132 (24 * p + kk) = wC H p kk) ∨ b2 = 0 ∧ 1 < r ∧ (kk : Int) < y 131 p ∧ y 132 (24 * p + kk) ≠ wC H p kk) := by
            intro z' hz1 hz2
            have e207 : ∀ b2, f_Md_learn_207 r b2 p kk (wC H p kk) z' = some (Sum.inl (b2, (kk : Int) + 1, xup z' 132 (24 * p + kk) (wC H p kk))) := fun b2 => by
              unfold f_Md_learn_207
              rw [w32_id (z := 24 * p) (by omega) (by omega), w32_id (z := 24 * p + (kk : Int)) (by omega) (by omega), xgd_pos (by omega) (by omega), xlet_eq, w32_id (by omega) (by omega), xlet_eq]
            have ec : z' 132 (24 * p + kk) = y 132 (24 * p + kk) := by rw [hz2]; exact zc _ (by omega)
            unfold f_Md_learn_170
            rw [e207, e207, w32_id (z := 24 * p) (by omega) (by omega), w32_id (z := 24 * p + (kk : Int)) (by omega) (by omega), xgd_pos p0 (by omega), xgd_pos (by omega) (by omega), hz1, ec]
            by_cases a : 1 < r
            · rw [if_pos a]
              by_cases a2 : (kk : Int) < y 131 p
              · rw [if_pos a2]
                by_cases a3 : y 132 (24 * p + kk) = wC H p kk
                · exact ⟨b', by rw [if_pos a3], Or.inl ⟨rfl, fun _ _ => a3⟩⟩
                · exact ⟨0, by rw [if_neg a3], Or.inr ⟨rfl, a, a2, a3⟩⟩
              · exact ⟨b', by rw [if_neg a2], Or.inl ⟨rfl, fun _ z => absurd z a2⟩⟩
            · exact ⟨b', by rw [if_neg a], Or.inl ⟨rfl, fun z => absurd z a⟩⟩
          have fin : ∀ z' : xH, z' 131 = y 131 → z' 132 = z 132 → off [132, 133] [] y3 z' → (∀ c, 1 ≤ c → c ≤ 6 → z' 133 c = y 133 c + cnN (cd H p) c ((kk : Int) + 1).toNat) → ∃ s', f_Md_learn_170 r b' p kk (wC H p kk) z' = some (Sum.inl s') ∧ (0 ≤ s'.2.1 ∧ s'.2.1 ≤ n ∧ off [132, 133] [] y3 s'.2.2 ∧ (s'.1 = b0 ∧ (∀ k : Nat, (k : Int) < s'.2.1 → 1 < r → (k : Int) < y 131 p → y 132 (24 * p + k) = wC H p k) ∨ s'.1 = 0 ∧ ∃ k : Nat, (k : Int) < s'.2.1 ∧ 1 < r ∧ (k : Int) < y 131 p ∧ y 132 (24 * p + k) ≠ wC H p k) ∧ (∀ k : Nat, (k : Int) < s'.2.1 → s'.2.2 132 (24 * p + k) = wC H p k) ∧ (∀ c, (c < 24 * p ∨ 24 * p + s'.2.1 ≤ c) → s'.2.2 132 c = y 132 c) ∧ ∀ c, 1 ≤ c → c ≤ 6 → s'.2.2 133 c = y 133 c + cnN (cd H p) c s'.2.1.toNat) ∧ ((n : Int) - s'.2.1).toNat < ((n : Int) - (kk : Int)).toNat := by
            intro z' hz1 hz2 ho hn'
            obtain ⟨b2, t1, t2⟩ := tl z' hz1 hz2
            refine ⟨_, t1, ⟨by dsimp only; omega, by dsimp only; omega, off_w (off_tr ho (off_up (by decide))) (by decide) (by decide), ?_, fun j j1 => ?_, fun c c0 => ?_, fun c c0 c1 => ?_⟩, by dsimp only; omega⟩
            · dsimp only
              rcases t2 with ⟨u1, u2⟩ | ⟨u1, u2, u3, u4⟩
              · rcases zs with ⟨v1, v2⟩ | ⟨v1, j, v2, v3⟩
                · left
                  refine ⟨by omega, fun j j1 a1 a2 => ?_⟩
                  by_cases c : j = kk
                  · rw [c] at a2 ⊢; exact u2 a1 a2
                  · exact v2 j (by omega) a1 a2
                · exact Or.inr ⟨by omega, j, by omega, v3⟩
              · exact Or.inr ⟨u1, kk, by omega, u2, u3, u4⟩
            · dsimp only at j1 ⊢
              by_cases c : j = kk
              · rw [c, xup_same]
              · rw [xup_ne_j (by omega), hz2]
                exact zf j (by omega)
            · dsimp only at c0 ⊢
              rw [xup_ne_j (by omega), hz2]
              exact zc c (by omega)
            · dsimp only
              rw [xup_row (by decide)]
              exact hn' c c0 c1
          unfold f_Md_learn_146
          by_cases c1 : 1 ≤ wC H p kk ∧ wC H p kk ≤ 6
          · have cb := cnN_b (f := cd H p) (c := wC H p kk) kk
            have zb := zn (wC H p kk) c1.1 c1.2
            rw [show (kk : Int).toNat = kk by omega] at zb
            have bb := hc (wC H p kk) c1.1 c1.2
            rw [in_1 c1.1 c1.2, xc1_some, if_neg (by decide), xgd_pos (by omega) (by omega), xgd_pos (by omega) (by omega), w32_id (by omega) (by omega), xlet_eq]
            refine fin _ (by rw [xup_row (by decide), z131]) (xup_row (by decide)) (off_w (off_tr zo (off_up (by decide))) (by decide) (by decide)) (fun c c0 c1' => ?_)
            rw [nx]
            by_cases c3 : wC H p kk = c
            · rw [if_pos c3, ← c3, xup_same, zb]
              omega
            · rw [if_neg c3, Int.add_zero, xup_ne_j (fun z => c3 z.symm)]
              exact zn c c0 c1'
          · rw [in_0 (by omega), xc1_some, if_pos rfl]
            refine fin z z131 rfl zo (fun c c0 c1' => ?_)
            rw [nx, if_neg (by omega), Int.add_zero]
            exact zn c c0 c1'
        · right
          have ek : k = n := by omega
          subst ek
          refine ⟨(b', z), by rw [if_neg q], zo, ?_, fun k hk => zf k (by omega), fun c c0 => zc c (by omega), fun c c0 c1 => by have := zn c c0 c1; rw [show ((n : Int)).toNat = n by omega] at this; exact this⟩
          rcases zs with ⟨v1, v2⟩ | ⟨v1, j, v2, v3⟩
          · exact Or.inl ⟨v1, fun k hk => v2 k (by omega)⟩
          · exact Or.inr ⟨v1, j, by omega, v3⟩) ⟨Int.le_refl _, by dsimp only; omega, off_rf, Or.inl ⟨rfl, fun k hk => by dsimp only at hk; omega⟩, fun k hk => by dsimp only at hk; omega, fun c _ => by dsimp only; rw [e132], fun c _ _ => by dsimp only; rw [e133]; show _ = _ + 0; omega⟩
    dsimp only at e1 e2 e3 e4 e5
    rw [e, xc1_some]
    unfold f_Md_learn_228
    have g27 : g 81 27 = n := by rw [e1.2 27 (by decide)]; exact k5
    refine ⟨b', xup g 131 p n, ?_, off_w (off_tr e1 (off_up (by decide))) (by decide) (by decide), e2, xup_same, fun k hk => by rw [xup_row (by decide)]; exact e3 k hk, fun j hj => by rw [xup_ne_j hj, e1.1 131 (by decide) (by decide), e131], fun c c0 => by rw [xup_row (by decide)]; exact e4 c c0, fun c c0 c1 => by rw [xup_row (by decide), e5 c c0 c1, cnN_pad (by omega) hn k7]⟩
    dsimp only
    rw [xgd_pos p0 (by omega), g27, xlet_eq, w32_id (by omega) (by omega), xlet_eq]
  unfold f_Md_learn_s58
  rw [oy.2 61 (by decide), hA.2.2.2.1, if_pos p1, k1, xc1_some, k2, xc1_some, k3, xc1_some, xgd_pos p0 (by omega), e131, k5]
  have done : ∀ b0 : Int, (b0 = 0 ∨ b0 = 1) → (b0 = b ∧ (1 < r → y 131 p = n) ∨ b0 = 0 ∧ 1 < r ∧ y 131 p ≠ n) → ∃ b' g, f_Md_learn_102 r b0 p y3 = some (Sum.inl (b', p + 1, g)) ∧ off [97, 98, 99, 100, 101, 102, 103, 104, 131, 132, 133] [22, 23, 27, 83, 84] y g ∧ (b' = b ∧ EqP H y r p ∨ b' = 0 ∧ ¬ EqP H y r p) ∧ g 131 p = n ∧ (∀ k : Nat, k < n → g 132 (24 * p + k) = wC H p k) ∧ (∀ j, j ≠ p → g 131 j = y 131 j) ∧ (∀ c, (c < 24 * p ∨ 24 * p + 24 ≤ c) → g 132 c = y 132 c) ∧ (∀ c, 1 ≤ c → c ≤ 6 → g 133 c = y 133 c + cnN (cd H p) c 24) ∧ wSt H p n ∧ n ≤ 24 := by
    intro b0 hb0 hb1
    obtain ⟨b', g, g1, g2, g3, g4⟩ := inner b0 hb0
    obtain ⟨g4, g5, g6, g7, g8⟩ := g4
    refine ⟨b', g, g1, off_w (off_tr k4 g2) (by decide) (by decide), ?_, g4, g5, g6, g7, g8, k6, k7⟩
    unfold EqP
    rw [hn]
    rcases hb1 with ⟨u1, u2⟩ | ⟨u1, u2, u3⟩
    · rcases g3 with ⟨v1, v2⟩ | ⟨v1, k, v2, v3, v4, v5⟩
      · exact Or.inl ⟨by omega, fun a => ⟨u2 a, fun k hk => v2 k hk a (by rw [u2 a]; omega)⟩⟩
      · exact Or.inr ⟨v1, fun a => v5 ((a v3).2 k v2)⟩
    · refine Or.inr ⟨?_, fun a => u3 (a u2).1⟩
      rcases g3 with ⟨v1, _⟩ | ⟨v1, _⟩ <;> omega
  by_cases a : 1 < r
  · rw [if_pos a]
    by_cases a2 : y 131 p = n
    · rw [if_pos a2]
      exact done b hb (Or.inl ⟨rfl, fun _ => a2⟩)
    · rw [if_neg a2]
      exact done 0 (Or.inl rfl) (Or.inr ⟨rfl, a, a2⟩)
  · rw [if_neg a]
    exact done b hb (Or.inl ⟨rfl, fun z => absurd z a⟩)
