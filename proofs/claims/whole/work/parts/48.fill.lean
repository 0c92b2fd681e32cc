/-! THE CLASS'S WALK: the states of one depth -/
theorem tA_1 {h : xH} (hS : So h) {c : Int} (c0 : 0 ≤ c) (c1 : c < 7 + h 14 2) (c3 : c ≠ 3) : 1 ≤ tA h c := by
  obtain ⟨tA0, tA1, tA2, tA3, tA4, tA5, tA6⟩ := tA_k (h := h)
  by_cases z : c < 7
  · have : c = 0 ∨ c = 1 ∨ c = 2 ∨ c = 4 ∨ c = 5 ∨ c = 6 := by omega
    rcases this with rfl | rfl | rfl | rfl | rfl | rfl <;> omega
  · unfold tA
    rw [if_neg z]
    have := (RO_let hS.1 (r := c - 7) (by omega) (by omega)).1
    exact this
/-- the sums of the rows of 55 and u, from before -/
noncomputable def Fc (h : xH) (u : Int) : Int → Int → Int := FS (sp h (tp h 55) (tp h u)) (tA h) (tB h) (7 + h 14 2).toNat
theorem s_fill_init {h : xH} {d u : Int} (hu : TQ u h) (n3 : u ≠ 57) (d0 : 0 ≤ d) (d1 : d ≤ 12) : f_Walk_fill d u h = f_Walk_fill_57 d u (hLay 57 (d * 13) (h u 1 + 1) (fun y => if d = 0 ∧ y = 0 then 0 else 1000000) h) := by
  have u1 := hu.1
  have u2 := hu.2.1
  unfold f_Walk_fill f_Walk_fill_2
  have key := xloop_T (step := fun s : Int × xH => f_Walk_fill_s2 d u s.1 s.2) (fun k => ((k : Int), hLay 57 (d * 13) k (fun y => if d = 0 ∧ y = 0 then 0 else 1000000) h)) (h u 1 + 1).toNat (s0 := (0, h)) (b := hLay 57 (d * 13) (h u 1 + 1) (fun y => if d = 0 ∧ y = 0 then 0 else 1000000) h) (by rw [show ((0 : Nat) : Int) = 0 from rfl, hLay_0])
    (fun k hk => by
      dsimp only [f_Walk_fill_s2]
      have sc := hLay_succ (o := 57) (p := d * 13) (n := k) (f := fun y => if d = 0 ∧ y = 0 then 0 else 1000000) (h := h) (by omega)
      have fin : ∀ g : xH, f_Walk_fill_51 d u k g = some (Sum.inl ((k : Int) + 1, g)) := fun g => by
        unfold f_Walk_fill_51
        rw [xlet_eq, w32_id (by omega) (by omega)]
      rw [hLay_row n3, if_neg (by omega), w32_id (z := d * 13) (by omega) (by omega), w32_id (z := d * 13 + (k : Int)) (by omega) (by omega), xlet_eq, if_neg (by omega), if_pos (by omega)]
      unfold f_Walk_fill_50
      rw [xgd_pos (by omega) (by omega), xlet_eq, xgd_pos (by omega) (by omega), xlet_eq, fin, fin]
      by_cases z : d * 13 + (k : Int) = 0
      · have e : (if d = 0 ∧ (k : Int) = 0 then (0 : Int) else 1000000) = 0 := by rw [if_pos (by omega)]
        rw [e] at sc
        rw [if_pos z, sc]
        rfl
      · have e : (if d = 0 ∧ (k : Int) = 0 then (0 : Int) else 1000000) = 1000000 := by rw [if_neg (by omega)]
        rw [e] at sc
        rw [if_neg z, sc]
        rfl)
    (by
      dsimp only [f_Walk_fill_s2]
      rw [hLay_row n3, if_pos (by omega), show (((h u 1 + 1).toNat : Nat) : Int) = h u 1 + 1 by omega])
  rw [key, xc1_some]
theorem s_fill {h : xH} {d u : Int} (hP : Pr h) (hS : So h) (ht : TQ 55 h) (hu : TQ u h) (n3 : u ≠ 57) (n4 : u + 1 ≠ 57) (d0 : 0 ≤ d) (d1 : d ≤ h 55 1)
    (hF : ∀ x y, 0 ≤ x → x < d → 0 ≤ y → y ≤ h u 1 → h 57 (x * 13 + y) = Fc h u x y) : ∃ h', f_Walk_fill d u h = some h' ∧ (∀ x, x ≠ 57 → h' x = h x) ∧ (∀ k, (∀ y, 0 ≤ y → y ≤ h u 1 → k ≠ d * 13 + y) → h' 57 k = h 57 k) ∧ ∀ y, 0 ≤ y → y ≤ h u 1 → h' 57 (d * 13 + y) = Fc h u d y := by
  have H := cs_ok hP hS ht hu
  have t2 := ht.2.1
  have u1 := hu.1
  have u2 := hu.2.1
  have bn : 0 ≤ h 14 2 := hS.1.2.2.2.1
  have b20 : h 14 2 ≤ 20 := hS.1.2.2.2.2.1
  obtain ⟨tA0, tA1, tA2, tA3, tA4, tA5, tA6⟩ := tA_k (h := h)
  obtain ⟨tB0, tB1, tB2, tB3, tB4, tB5, tB6⟩ := tB_k (h := h)
  have Fb : ∀ x y, 0 ≤ x → x ≤ h 55 1 → 0 ≤ y → y ≤ h u 1 → 0 ≤ Fc h u x y ∧ Fc h u x y ≤ 1000000 := fun x y a b c d => by
    have := FS_b H a b c d
    change 0 ≤ FS _ _ _ _ x y ∧ FS _ _ _ _ x y ≤ _
    omega
  have fr : ∀ g : xH, (∀ x, x ≠ 57 → g x = h x) → Pr g ∧ So g ∧ TQ 55 g ∧ TQ u g ∧ sp g = sp h ∧ tA g = tA h ∧ tB g = tB h ∧ tp g 55 = tp h 55 ∧ tp g u = tp h u ∧ g 14 = h 14 ∧ g u = h u ∧ g 55 = h 55 := by
    intro g hg
    have og : off [57] [] h g := ⟨fun x h0 hn => hg x (fun z => hn (by simp [z])), fun x _ => by rw [hg 81 (by decide)]⟩
    have e : ∀ x, 10 ≤ x → x ≤ 20 → g x = h x := fun x a b => hg x (by omega)
    refine ⟨Pr_off og (by decide) hP, So_off og (by decide) hS, ?_, ?_, sp_cg e, tA_cg e, tB_cg e, ?_, ?_, e 14 (by decide) (by decide), hg u n3, hg 55 (by decide)⟩
    · unfold TQ; rw [hg 55 (by decide), hg (55 + 1) (by decide)]; exact ht
    · unfold TQ; rw [hg u n3, hg (u + 1) n4]; exact hu
    · unfold tp; rw [hg 55 (by decide), hg (55 + 1) (by decide)]
    · unfold tp; rw [hg u n3, hg (u + 1) n4]
  rw [s_fill_init hu n3 d0 (by omega)]
  generalize hy : hLay 57 (d * 13) (h u 1 + 1) (fun y => if d = 0 ∧ y = 0 then 0 else 1000000) h = y0
  have y1 : ∀ x, x ≠ 57 → y0 x = h x := fun x hx => by rw [← hy, hLay_row hx]
  have y2 : ∀ k, (∀ y, 0 ≤ y → y ≤ h u 1 → k ≠ d * 13 + y) → y0 57 k = h 57 k := fun k hk => by
    rw [← hy]
    by_cases z : k < d * 13 ∨ d * 13 + (h u 1 + 1) ≤ k
    · rw [hLay_out z]
    · have w := hk (k - d * 13) (by omega) (by omega)
      omega
  have y3 : ∀ y, 0 ≤ y → y ≤ h u 1 → y0 57 (d * 13 + y) = if d = 0 ∧ y = 0 then 0 else 1000000 := fun y a b => by
    rw [← hy, hLay_in (by omega) (by omega), show d * 13 + y - d * 13 = y by omega]
  unfold f_Walk_fill_57 f_Walk_fill_59
  obtain ⟨b, e, b1, b2, b3, b4⟩ := xloop_W (step := fun s : Int × xH => f_Walk_fill_s59 d u s.1 s.2) (I := fun s => 0 ≤ s.1 ∧ s.1 ≤ 7 + h 14 2 ∧ (∀ x, x ≠ 57 → s.2 x = h x) ∧ (∀ k, (∀ y, 0 ≤ y → y ≤ h u 1 → k ≠ d * 13 + y) → s.2 57 k = h 57 k) ∧ (∀ y, 0 ≤ y → y ≤ h u 1 → s.2 57 (d * 13 + y) = min (if d = 0 ∧ y = 0 then 0 else 1000000) (mnf (fun c => if c = 3 then 1000000 else vlF (sp h (tp h 55) (tp h u)) (tA h) (tB h) (Fc h u) d y c) s.1.toNat)) ∧ ∀ y, 0 ≤ y → y ≤ h u 1 → 0 ≤ s.2 57 (d * 13 + y) ∧ s.2 57 (d * 13 + y) ≤ 1000000) (fun s => (7 + h 14 2 - s.1).toNat)
    (post := fun b => (∀ x, x ≠ 57 → b x = h x) ∧ (∀ k, (∀ y, 0 ≤ y → y ≤ h u 1 → k ≠ d * 13 + y) → b 57 k = h 57 k) ∧ (∀ y, 0 ≤ y → y ≤ h u 1 → b 57 (d * 13 + y) = min (if d = 0 ∧ y = 0 then 0 else 1000000) (mnf (fun c => if c = 3 then 1000000 else vlF (sp h (tp h 55) (tp h u)) (tA h) (tB h) (Fc h u) d y c) (7 + h 14 2).toNat)) ∧ ∀ y, 0 ≤ y → y ≤ h u 1 → 0 ≤ b 57 (d * 13 + y) ∧ b 57 (d * 13 + y) ≤ 1000000) (s := (0, y0)) (by
      rintro ⟨c, g⟩ hI
      dsimp only at hI ⊢
      obtain ⟨c0, c1, hg, hk, hm, hb⟩ := hI
      obtain ⟨P1, S1, T1, U1, r1, r2, r3, r4, r5, r6, r7, r8⟩ := fr g hg
      unfold f_Walk_fill_s59
      rw [s_codes S1, xc1_some, r6]
      have e82 : ∀ g' : xH, c < 7 + h 14 2 → f_Walk_fill_82 d u c g' = some (Sum.inl (c + 1, g')) := fun g' _ => by
        unfold f_Walk_fill_82
        rw [xlet_eq, w32_id (by omega) (by omega)]
      have nx : ∀ y, mnf (fun c => if c = 3 then 1000000 else vlF (sp h (tp h 55) (tp h u)) (tA h) (tB h) (Fc h u) d y c) (c + 1).toNat = min (mnf (fun c => if c = 3 then 1000000 else vlF (sp h (tp h 55) (tp h u)) (tA h) (tB h) (Fc h u) d y c) c.toNat) (if c = 3 then 1000000 else vlF (sp h (tp h 55) (tp h u)) (tA h) (tB h) (Fc h u) d y c) := fun y => by
        rw [show (c + 1).toNat = c.toNat + 1 by omega]
        show min _ (if ((c.toNat : Nat) : Int) = 3 then 1000000 else vlF _ _ _ _ d y ((c.toNat : Nat) : Int)) = _
        rw [show ((c.toNat : Nat) : Int) = c by omega]
      by_cases q : c < 7 + h 14 2
      · left
        rw [if_pos q]
        by_cases q3 : c = 3
        · refine ⟨(c + 1, g), by rw [if_pos q3, e82 _ q], ⟨by dsimp only; omega, by dsimp only; omega, hg, hk, fun y a b => ?_, hb⟩, by dsimp only; omega⟩
          dsimp only
          have far := mnf_far (f := fun c => if c = 3 then 1000000 else vlF (sp h (tp h 55) (tp h u)) (tA h) (tB h) (Fc h u) d y c) (n := c.toNat)
          rw [nx, if_pos q3, hm y a b]
          omega
        · have t1 := tA_1 hS c0 q q3
          obtain ⟨-, -, -, -, -, -, -, -, g9, g10⟩ := id H
          obtain ⟨a1, a2, a3, a4, a5⟩ := g9 c c0 (by omega)
          have lowr : ∀ x y, 0 ≤ x → x < d → 0 ≤ y → y ≤ h u 1 → g 57 (x * 13 + y) = Fc h u x y := fun x y a b e f => by
            rw [hk _ (fun z z0 z1 => by omega)]; exact hF x y a b e f
          obtain ⟨g', k1, k2, k3, k4⟩ := s_reach (c := c) (d := d) (u := u) P1 S1 T1 U1 n3 n4 c0 (by rw [r6]; exact q) (by rw [r2]; exact t1) d0 (by rw [r8]; exact d1) (fun x y a b e f w => by
            rw [r8] at b
            rw [r7] at f
            by_cases z : x = d
            · rw [z]; exact hb y e f
            · rw [lowr x y a (by omega) e f]; exact Fb x y a b e f)
          rw [r7] at k3 k4
          rw [r1, r2, r3, r4, r5] at k4
          have ev : ∀ y, 0 ≤ y → y ≤ h u 1 → vlF (sp h (tp h 55) (tp h u)) (tA h) (tB h) (fun x y => g 57 (x * 13 + y)) d y c = vlF (sp h (tp h 55) (tp h u)) (tA h) (tB h) (Fc h u) d y c ∧ 0 ≤ vlF (sp h (tp h 55) (tp h u)) (tA h) (tB h) (Fc h u) d y c := fun y a b => by
            unfold vlF
            by_cases z : d - tA h c < 0 ∨ y - tB h c < 0
            · rw [if_pos z, if_pos z]; exact ⟨rfl, by omega⟩
            · rw [if_neg z, if_neg z]
              by_cases w : sp h (tp h 55) (tp h u) c (d - tA h c) (y - tB h c) = -1
              · rw [if_pos w, if_pos w]; exact ⟨rfl, by omega⟩
              · have l1 := lowr (d - tA h c) (y - tB h c) (by omega) (by omega) (by omega) (by omega)
                have l2 := Fb (d - tA h c) (y - tB h c) (by omega) (by omega) (by omega) (by omega)
                have l3 := g10 c (d - tA h c) (y - tB h c) c0 (by omega) (by omega) (by omega) (by omega) (by omega) w
                rw [if_neg w, if_neg w]
                dsimp only
                rw [l1]
                exact ⟨rfl, by omega⟩
          refine ⟨(c + 1, g'), by rw [if_neg q3, k1, xc1_some, e82 _ q], ⟨by dsimp only; omega, by dsimp only; omega, fun x hx => by dsimp only; rw [k2 x hx]; exact hg x hx, fun k hk' => by dsimp only; rw [k3 k hk']; exact hk k hk', fun y a b => ?_, fun y a b => ?_⟩, by dsimp only; omega⟩
          · dsimp only
            rw [k4 y a b, (ev y a b).1, nx, if_neg q3, hm y a b]
            omega
          · dsimp only
            have := hb y a b
            have := (ev y a b).2
            rw [k4 y a b, (ev y a b).1]
            omega
      · right
        refine ⟨g, by rw [if_neg q], hg, hk, fun y a b => ?_, hb⟩
        rw [hm y a b, show c = 7 + h 14 2 by omega]) ⟨by dsimp only; omega, by dsimp only; omega, y1, y2, fun y a b => by
          dsimp only
          rw [y3 y a b]
          show _ = min _ 1000000
          split <;> omega, fun y a b => by
          dsimp only
          rw [y3 y a b]
          split <;> omega⟩
  rw [e, xc1_some]
  unfold f_Walk_fill_88
  obtain ⟨P1, S1, T1, U1, r1, r2, r3, r4, r5, r6, r7, r8⟩ := fr b b1
  obtain ⟨h', k1, k2, k3, k4, k5, k6⟩ := s_put3 (d := d) (u := u) P1 S1 T1 U1 n3 n4 d0 (by rw [r8]; exact d1) (by rw [r7]; exact b4)
  rw [r7] at k3 k5
  rw [r1, r4, r5] at k5
  refine ⟨h', by rw [k1, xc1_some], fun x hx => by rw [k2 x hx]; exact b1 x hx, fun k hk => by rw [k3 k hk]; exact b2 k hk, ?_⟩
  have rcr : ∀ y, 0 ≤ y → y ≤ h u 1 → Fc h u d y = min (if d = 0 ∧ y = 0 then 0 else 1000000) (min (mnf (fun c => if c = 3 then 1000000 else vlF (sp h (tp h 55) (tp h u)) (tA h) (tB h) (Fc h u) d y c) (7 + h 14 2).toNat) (vlF (sp h (tp h 55) (tp h u)) (tA h) (tB h) (Fc h u) d y 3)) := fun y a b => by
    have := FS_F H d y d0 d1 a b
    change Fc h u d y = rhsF _ _ _ _ (Fc h u) d y at this
    rw [this]
    unfold rhsF
    rw [mnf_3, if_pos (by omega : 3 < (7 + h 14 2).toNat)]
  have ind : ∀ n : Nat, (n : Int) ≤ h u 1 → h' 57 (d * 13 + n) = Fc h u d n := by
    intro n
    induction n with
    | zero =>
      intro _
      have far := mnf_far (f := fun c => if c = 3 then 1000000 else vlF (sp h (tp h 55) (tp h u)) (tA h) (tB h) (Fc h u) d 0 c) (n := (7 + h 14 2).toNat)
      have v3 : vlF (sp h (tp h 55) (tp h u)) (tA h) (tB h) (Fc h u) d 0 3 = 1000000 := by unfold vlF; rw [if_pos (by omega)]
      have r0 := rcr 0 (by omega) u1
      have m0 := b3 0 (by omega) u1
      rw [v3] at r0
      show h' 57 (d * 13 + 0) = Fc h u d 0
      rw [k4, m0, r0]
      omega
    | succ n ih =>
      intro hn
      have i1 := ih (by omega)
      have v3 : vlF (sp h (tp h 55) (tp h u)) (tA h) (tB h) (Fc h u) d ((n : Int) + 1) 3 = sp h (tp h 55) (tp h u) 3 d n + Fc h u d n := by
        unfold vlF
        rw [tA3, tB3, if_neg (by omega), show (n : Int) + 1 - 1 = n by omega, Int.sub_zero, if_neg (H.2.2.2.2.2.2.2.1 d n d0 d1 (by omega) (by omega))]
      have r0 := rcr ((n : Int) + 1) (by omega) (by omega)
      have m0 := b3 ((n : Int) + 1) (by omega) (by omega)
      have s0 := k5 n (by omega) (by omega)
      show h' 57 (d * 13 + ((n : Int) + 1)) = Fc h u d ((n : Int) + 1)
      rw [s0, m0, r0, v3, i1]
      omega
  intro y a b
  have := ind y.toNat (by omega)
  rw [show ((y.toNat : Nat) : Int) = y by omega] at this
  exact this
