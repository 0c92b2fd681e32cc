/-! THE CLASS'S PRICES ALONE: what it does by them, whatever the model's are -/
def PrC (h : xH) : Prop := (∀ k, 1 ≤ k → k ≤ 6 → 1 ≤ h 10 k ∧ h 10 k ≤ 9999) ∧ (∀ k, 0 ≤ k → k < 676 → 0 ≤ h 11 k ∧ h 11 k ≤ 9999) ∧ (∀ k, 0 ≤ k → k < 26 → 0 ≤ h 12 k ∧ h 12 k ≤ 9999) ∧ (∀ k, 0 ≤ k → k < 26 → 0 ≤ h 13 k ∧ h 13 k ≤ 9999)
theorem Pr_c {h : xH} (hP : Pr h) : PrC h := by
  obtain ⟨p1, p2, p3, p4, p5, p6⟩ := hP
  exact ⟨fun k a b => (p1 k a b).2, fun k a b => (p4 k a b).2, fun k a b => (p5 k a b).2, fun k a b => (p6 k a b).2⟩
theorem PrC_off {R K : List Int} {h h' : xH} (ho : off R K h h') (hd : dj [10, 11, 12, 13] [] R K = true) (p : PrC h) : PrC h' := by
  unfold PrC
  rw [dj_r ho hd (o := 10) (by decide), dj_r ho hd (o := 11) (by decide), dj_r ho hd (o := 12) (by decide), dj_r ho hd (o := 13) (by decide)]
  exact p
section
variable {h : xH}
theorem byL_bC (hP : PrC h) : (∀ x y, 0 ≤ x → x ≤ 25 → 0 ≤ y → y ≤ 25 → 1 ≤ byL h 11 (x * 26 + y) (h 10 1) ∧ byL h 11 (x * 26 + y) (h 10 1) ≤ 9999) ∧ (∀ x, 0 ≤ x → x ≤ 25 → 1 ≤ byL h 12 x (h 10 2) ∧ byL h 12 x (h 10 2) ≤ 9999) ∧ ∀ x, 0 ≤ x → x ≤ 25 → 1 ≤ byL h 13 x (h 10 3) ∧ byL h 13 x (h 10 3) ≤ 9999 := by
  obtain ⟨p1, p4, p5, p6⟩ := hP
  refine ⟨fun x y x0 x1 y0 y1 => ?_, fun x x0 x1 => ?_, fun x x0 x1 => ?_⟩
  · have := p4 (x * 26 + y) (by omega) (by omega)
    have := p1 1 (by omega) (by omega)
    unfold byL
    split <;> omega
  · have := p5 x (by omega) (by omega)
    have := p1 2 (by omega) (by omega)
    unfold byL
    split <;> omega
  · have := p6 x (by omega) (by omega)
    have := p1 3 (by omega) (by omega)
    unfold byL
    split <;> omega
theorem sp_bC (hP : PrC h) (hS : So h) {p q : Int → Int} (lp : ltr p) (lq : ltr q) {c i j : Int} (c0 : 0 ≤ c) (c1 : c < 7 + h 14 2) : sp h p q c i j = -1 ∨ 0 ≤ sp h p q c i j ∧ sp h p q c i j ≤ 9999 := by
  have x := lp i
  have y := lq j
  obtain ⟨L1, L2, L3⟩ := byL_bC hP
  have p1 := hP.1
  unfold sp
  by_cases q0 : c = 0
  · rw [if_pos q0]; split
    · omega
    · split <;> omega
  rw [if_neg q0]
  by_cases q1 : c = 1
  · rw [if_pos q1]; split
    · omega
    · have := L1 (p i) (q j) (by omega) (by omega) (by omega) (by omega); omega
  rw [if_neg q1]
  by_cases q2 : c = 2
  · rw [if_pos q2]; split
    · omega
    · have := L2 (p i) (by omega) (by omega); omega
  rw [if_neg q2]
  by_cases q3 : c = 3
  · rw [if_pos q3]; split
    · omega
    · have := L3 (q j) (by omega) (by omega); omega
  rw [if_neg q3]
  by_cases q4 : c = 4
  · rw [if_pos q4]; split
    · omega
    · have := p1 4 (by omega) (by omega); omega
  rw [if_neg q4]
  by_cases q5 : c = 5
  · rw [if_pos q5]; split
    · omega
    · have := p1 5 (by omega) (by omega); omega
  rw [if_neg q5]
  by_cases q6 : c = 6
  · rw [if_pos q6]; split
    · omega
    · have := p1 6 (by omega) (by omega); omega
  rw [if_neg q6]
  by_cases z : stq h 14 (c - 7) p i ∧ stq h 17 (c - 7) q j
  · rw [sv_pos z]
    have := (hS.2.2.2.2 (c - 7) (by omega) (by omega)).2.2.2.2.2
    omega
  · rw [sv_neg z]; exact Or.inl rfl
theorem sp_okC (hP : PrC h) (hS : So h) {la lb : Int} {f g : Int → Int} (a0 : 0 ≤ la) (a1 : la ≤ 12) (b0 : 0 ≤ lb) (b1 : lb ≤ 12) (hf : ∀ k, 0 ≤ k → k < la → 0 ≤ f k ∧ f k ≤ 25) (hg : ∀ k, 0 ≤ k → k < lb → 0 ≤ g k ∧ g k ≤ 25) : SPok (sp h (pad la f) (pad lb g)) (tA h) (tB h) (7 + h 14 2).toNat la lb := by
  have b20 : h 14 2 ≤ 20 := hS.1.2.2.2.2.1
  have bn : 0 ≤ h 14 2 := hS.1.2.2.2.1
  obtain ⟨tA0, tA1, tA2, tA3, tA4, tA5, tA6⟩ := tA_k (h := h)
  obtain ⟨tB0, tB1, tB2, tB3, tB4, tB5, tB6⟩ := tB_k (h := h)
  obtain ⟨L1, L2, L3⟩ := byL_bC hP
  have lp : ltr (pad la f) := pad_ltr hf
  have lq : ltr (pad lb g) := pad_ltr hg
  refine ⟨a0, a1, b0, b1, by omega, ⟨tA2, tB2, tA3, tB3⟩, fun i j i0 i1 j0 j1 => ?_, fun i j i0 i1 j0 j1 => ?_, fun c c0 c1 => ?_, fun c i j c0 c1 i0 i1 j0 j1 hn => ?_⟩
  · unfold sp
    have e := hf i i0 i1
    rw [if_neg (by omega), if_neg (by omega), if_pos rfl, pad_in i0 i1, if_neg (by omega)]
    have := L2 (f i) e.1 e.2
    omega
  · unfold sp
    have e := hg j j0 j1
    rw [if_neg (by omega), if_neg (by omega), if_neg (by omega), if_pos rfl, pad_in j0 j1, if_neg (by omega)]
    have := L3 (g j) e.1 e.2
    omega
  · by_cases z : c < 7
    · have : c = 0 ∨ c = 1 ∨ c = 2 ∨ c = 3 ∨ c = 4 ∨ c = 5 ∨ c = 6 := by omega
      rcases this with rfl | rfl | rfl | rfl | rfl | rfl | rfl <;> omega
    · unfold tA tB
      rw [if_neg z, if_neg z]
      obtain ⟨t1, t2, t3, t4, t5, t6, t7, t8, t9⟩ := hS.2.2.2.2 (c - 7) (by omega) (by omega)
      obtain ⟨u1, u2, u3⟩ := hS.1.2.2.2.2.2 (c - 7) (by omega) (by omega)
      obtain ⟨v1, v2, v3⟩ := hS.2.1.2.2.2.2.2 (c - 7) (by omega) (by have := hS.2.2.1; omega)
      simp only [Int.reduceAdd] at u1 u2 u3 v1 v2 v3
      omega
  · rcases sp_bC hP hS lp lq (c := c) (i := i) (j := j) c0 (by omega) with z | z
    · exact absurd z hn
    · refine ⟨z.1, z.2, ?_⟩
      have nz : ∀ {n : Int} {f : Int → Int} {k : Int}, 0 ≤ k → pad n f k ≠ -1 → k < n := fun {n f k} k0 hk => by
        by_cases y : k < n
        · exact y
        · exact absurd (pad_out (by omega)) hk
      by_cases q : c < 7
      · have : c = 0 ∨ c = 1 ∨ c = 2 ∨ c = 3 ∨ c = 4 ∨ c = 5 ∨ c = 6 := by omega
        have n1 := nz (n := la) (f := f) i0
        have n2 := nz (n := lb) (f := g) j0
        have n3 := nz (n := la) (f := f) (k := i + 1) (by omega)
        have n4 := nz (n := lb) (f := g) (k := j + 1) (by omega)
        have li := lp i
        have lj := lq j
        have ei : ¬ pad la f i = -1 → pad la f i = pad lb g j → ¬ pad lb g j = -1 := fun a b => by omega
        unfold sp at hn
        rcases this with rfl | rfl | rfl | rfl | rfl | rfl | rfl
        · rw [if_pos rfl] at hn
          split at hn
          · omega
          · split at hn <;> omega
        · rw [if_neg (by omega), if_pos rfl] at hn
          split at hn <;> omega
        · rw [if_neg (by omega), if_neg (by omega), if_pos rfl] at hn
          split at hn <;> omega
        · rw [if_neg (by omega), if_neg (by omega), if_neg (by omega), if_pos rfl] at hn
          split at hn <;> omega
        · rw [if_neg (by omega), if_neg (by omega), if_neg (by omega), if_neg (by omega), if_pos rfl] at hn
          split at hn <;> omega
        · rw [if_neg (by omega), if_neg (by omega), if_neg (by omega), if_neg (by omega), if_neg (by omega), if_pos rfl] at hn
          split at hn <;> omega
        · rw [if_neg (by omega), if_neg (by omega), if_neg (by omega), if_neg (by omega), if_neg (by omega), if_neg (by omega), if_pos rfl] at hn
          split at hn <;> omega
      · have es : sp h (pad la f) (pad lb g) c i j = sv h (pad la f) (pad lb g) c i j := by
          unfold sp
          rw [if_neg (by omega), if_neg (by omega), if_neg (by omega), if_neg (by omega), if_neg (by omega), if_neg (by omega), if_neg (by omega)]
        by_cases w : stq h 14 (c - 7) (pad la f) i ∧ stq h 17 (c - 7) (pad lb g) j
        · obtain ⟨u1, u2, u3⟩ := hS.1.2.2.2.2.2 (c - 7) (by omega) (by omega)
          obtain ⟨v1, v2, v3⟩ := hS.2.1.2.2.2.2.2 (c - 7) (by omega) (by have := hS.2.2.1; omega)
          have w1 := w.1 (h (14 + 2) (c - 7) - 1) (by omega) (by omega)
          have w2 := w.2 (h (17 + 2) (c - 7) - 1) (by omega) (by omega)
          have x1 := (u3 (h (14 + 2) (c - 7) - 1) (by omega) (by omega)).1
          have x2 := (v3 (h (17 + 2) (c - 7) - 1) (by omega) (by omega)).1
          have y1 := nz (n := la) (f := f) (k := i + (h (14 + 2) (c - 7) - 1)) (by omega) (by omega)
          have y2 := nz (n := lb) (f := g) (k := j + (h (17 + 2) (c - 7) - 1)) (by omega) (by omega)
          unfold tA tB
          rw [if_neg q, if_neg q]
          simp only [Int.reduceAdd] at y1 y2
          omega
        · rw [es, sv_neg w] at hn
          exact absurd rfl hn
theorem cs_okC {h : xH} {t u : Int} (hP : PrC h) (hS : So h) (ht : TQ t h) (hu : TQ u h) : SPok (sp h (tp h t) (tp h u)) (tA h) (tB h) (7 + h 14 2).toNat (h t 1) (h u 1) :=
  sp_okC hP hS ht.1 ht.2.1 hu.1 hu.2.1 ht.2.2 hu.2.2
theorem s_sumByC {h : xH} {o t u c i j : Int} (hP : PrC h) (hS : So h) (ht : TQ t h) (hu : TQ u h) (c0 : 0 ≤ c) (c1 : c < 7 + h 14 2) (i0 : 0 ≤ i) (i1 : i ≤ h t 1) (j0 : 0 ≤ j) (j1 : j ≤ h u 1)
    (hT : ∀ x y, i ≤ x → x ≤ h t 1 → j ≤ y → y ≤ h u 1 → i + j < x + y → 0 ≤ h (o + 1) (x * 13 + y) ∧ h (o + 1) (x * 13 + y) ≤ 1000000) : f_Way_sumBy o c t i u j h = some (vl (sp h (tp h t) (tp h u)) (tA h) (tB h) (fun x y => h (o + 1) (x * 13 + y)) i j c) := by
  have H := cs_okC hP hS ht hu
  have b20 : h 14 2 ≤ 20 := hS.1.2.2.2.2.1
  have t2 := ht.2.1
  have u2 := hu.2.1
  obtain ⟨-, -, -, -, -, -, -, -, g9, g10⟩ := H
  obtain ⟨a1, a2, a3, a4, a5⟩ := g9 c c0 (by omega)
  unfold f_Way_sumBy f_Way_sumBy_64 vl
  rw [s_priceAt hS ht hu c0 c1 i0 (by omega) j0 (by omega), xc1_some, s_meantTaken hS c0 c1, xc1_some, s_typedTaken hS c0 c1, xc1_some, w32_id (z := i + tA h c) (by omega) (by omega), w32_id (z := (i + tA h c) * 13) (by omega) (by omega), w32_id (z := (i + tA h c) * 13 + j) (by omega) (by omega), w32_id (z := (i + tA h c) * 13 + j + tB h c) (by omega) (by omega), xlet_eq]
  by_cases q : sp h (tp h t) (tp h u) c i j = -1
  · rw [if_pos q, if_pos q]
  · obtain ⟨k1, k2, k3, k4⟩ := g10 c i j c0 (by omega) i0 i1 j0 j1 q
    have e : (i + tA h c) * 13 + (j + tB h c) = (i + tA h c) * 13 + j + tB h c := by omega
    have := hT (i + tA h c) (j + tB h c) (by omega) k3 (by omega) k4 (by omega)
    rw [e] at this
    rw [if_neg q, if_neg q, if_neg (by omega), if_pos (by omega), xgd_pos (by omega) (by omega), w32_id (by omega) (by omega)]
    show some (_ + h (o + 1) ((i + tA h c) * 13 + j + tB h c)) = some (_ + h (o + 1) ((i + tA h c) * 13 + (j + tB h c)))
    rw [e]
theorem s_leastFromC {h : xH} {o t u i j : Int} (hP : PrC h) (hS : So h) (ht : TQ t h) (hu : TQ u h) (i0 : 0 ≤ i) (i1 : i ≤ h t 1) (j0 : 0 ≤ j) (j1 : j ≤ h u 1)
    (hT : ∀ x y, i ≤ x → x ≤ h t 1 → j ≤ y → y ≤ h u 1 → i + j < x + y → 0 ≤ h (o + 1) (x * 13 + y) ∧ h (o + 1) (x * 13 + y) ≤ 1000000) : f_Way_leastFrom o t i u j h = some (rhs (sp h (tp h t) (tp h u)) (tA h) (tB h) (7 + h 14 2).toNat (h t 1) (h u 1) (fun x y => h (o + 1) (x * 13 + y)) i j) := by
  have b20 : h 14 2 ≤ 20 := hS.1.2.2.2.2.1
  have bn : 0 ≤ h 14 2 := hS.1.2.2.2.1
  have lp : f_Way_leastFrom_19 o t i u j h = some (mnf (vl (sp h (tp h t) (tp h u)) (tA h) (tB h) (fun x y => h (o + 1) (x * 13 + y)) i j) (7 + h 14 2).toNat) := by
    unfold f_Way_leastFrom_19 f_Way_leastFrom_26
    have key := xloop_T (step := fun s : Int × Int => f_Way_leastFrom_s26 o t i u j s.1 s.2 h) (fun k => (mnf (vl (sp h (tp h t) (tp h u)) (tA h) (tB h) (fun x y => h (o + 1) (x * 13 + y)) i j) k, (k : Int))) (7 + h 14 2).toNat (s0 := (1000000, 0)) (b := mnf (vl (sp h (tp h t) (tp h u)) (tA h) (tB h) (fun x y => h (o + 1) (x * 13 + y)) i j) (7 + h 14 2).toNat) rfl
      (fun k hk => by
        dsimp only [f_Way_leastFrom_s26]
        rw [s_codes hS, xc1_some, if_pos (by omega), s_sumByC hP hS ht hu (by omega) (by omega) i0 i1 j0 j1 hT, xc1_some, w32_id (by omega) (by omega)]
        rfl)
      (by
        dsimp only [f_Way_leastFrom_s26]
        rw [s_codes hS, xc1_some, if_neg (by omega)])
    rw [key, xc1_some]
    rfl
  unfold f_Way_leastFrom rhs
  by_cases q : i = h t 1
  · by_cases r : j = h u 1
    · rw [if_pos q, if_pos r, if_pos ⟨q, r⟩]
    · rw [if_pos q, if_neg r, if_neg (fun z => r z.2), lp]
  · rw [if_neg q, if_neg (fun z => q z.1), lp]
theorem s_measureC {h : xH} {o t u : Int} (ho : o = 28 ∨ o = 34) (hP : PrC h) (hS : So h) (ht : TQ t h) (hu : TQ u h) (n1 : t ≠ o + 1) (n2 : t + 1 ≠ o + 1) (n3 : u ≠ o + 1) (n4 : u + 1 ≠ o + 1) : ∃ h', f_Way_measure o t u h = some (Dc h t u 0 0, h') ∧ (∀ x, x ≠ o + 1 → h' x = h x) ∧ ∀ i j, 0 ≤ i → i ≤ h t 1 → 0 ≤ j → j ≤ h u 1 → h' (o + 1) (i * 13 + j) = Dc h t u i j := by
  have H := cs_okC hP hS ht hu
  have t1 := ht.1
  have t2 := ht.2.1
  have u1 := hu.1
  have u2 := hu.2.1
  have fr : ∀ g : xH, (∀ x, x ≠ o + 1 → g x = h x) → PrC g ∧ So g ∧ TQ t g ∧ TQ u g ∧ g t 1 = h t 1 ∧ g u 1 = h u 1 ∧ ∀ T i j, rhs (sp g (tp g t) (tp g u)) (tA g) (tB g) (7 + g 14 2).toNat (g t 1) (g u 1) T i j = rhs (sp h (tp h t) (tp h u)) (tA h) (tB h) (7 + h 14 2).toNat (h t 1) (h u 1) T i j := by
    intro g hg
    have og : off [29, 35] [] h g := ⟨fun x h0 hn => hg x (fun z => hn (by rcases ho with y | y <;> simp [z, y])), fun x _ => by rw [hg 81 (by omega)]⟩
    have e : ∀ x, 10 ≤ x → x ≤ 20 → g x = h x := fun x a b => hg x (by omega)
    have et : tp g t = tp h t := by unfold tp; rw [hg t n1, hg (t + 1) n2]
    have eu : tp g u = tp h u := by unfold tp; rw [hg u n3, hg (u + 1) n4]
    refine ⟨PrC_off og (by decide) hP, So_off og (by decide) hS, ?_, ?_, by rw [hg t n1], by rw [hg u n3], fun T i j => ?_⟩
    · unfold TQ; rw [hg t n1, hg (t + 1) n2]; exact ht
    · unfold TQ; rw [hg u n3, hg (u + 1) n4]; exact hu
    · rw [sp_cg e, tA_cg e, tB_cg e, et, eu, e 14 (by decide) (by decide), hg t n1, hg u n3]
  unfold f_Way_measure f_Way_measure_5
  rw [xlet_eq]
  obtain ⟨b, e, hb⟩ := xloop_W (step := fun s : Int × xH => f_Way_measure_s5 o t u s.1 s.2) (I := fun s => -1 ≤ s.1 ∧ s.1 ≤ h t 1 ∧ (∀ x, x ≠ o + 1 → s.2 x = h x) ∧ ∀ i j, s.1 < i → i ≤ h t 1 → 0 ≤ j → j ≤ h u 1 → s.2 (o + 1) (i * 13 + j) = Dc h t u i j) (fun s => (s.1 + 1).toNat)
    (post := fun b => (∀ x, x ≠ o + 1 → b x = h x) ∧ ∀ i j, 0 ≤ i → i ≤ h t 1 → 0 ≤ j → j ≤ h u 1 → b (o + 1) (i * 13 + j) = Dc h t u i j) (s := (h t 1, h)) (by
      rintro ⟨i, g⟩ hI
      dsimp only at hI ⊢
      obtain ⟨i0, i1, hg, hT⟩ := hI
      unfold f_Way_measure_s5
      by_cases q : i < 0
      · right
        exact ⟨g, by rw [if_pos q], hg, fun x y x0 x1 y0 y1 => hT x y (by omega) x1 y0 y1⟩
      · left
        rw [if_neg q, xlet_eq]
        unfold f_Way_measure_15
        obtain ⟨b, e, hb⟩ := xloop_W (step := fun s : Int × xH => f_Way_measure_s15 o t u i s.1 s.2) (I := fun s => -1 ≤ s.1 ∧ s.1 ≤ h u 1 ∧ (∀ x, x ≠ o + 1 → s.2 x = h x) ∧ (∀ x y, i < x → x ≤ h t 1 → 0 ≤ y → y ≤ h u 1 → s.2 (o + 1) (x * 13 + y) = Dc h t u x y) ∧ ∀ y, s.1 < y → y ≤ h u 1 → s.2 (o + 1) (i * 13 + y) = Dc h t u i y) (fun s => (s.1 + 1).toNat)
          (post := fun b => (∀ x, x ≠ o + 1 → b x = h x) ∧ ∀ x y, i ≤ x → x ≤ h t 1 → 0 ≤ y → y ≤ h u 1 → b (o + 1) (x * 13 + y) = Dc h t u x y) (s := (g u 1, g)) (by
            rintro ⟨j, g⟩ hI
            dsimp only at hI ⊢
            obtain ⟨j0, j1, hg, hT, hU⟩ := hI
            unfold f_Way_measure_s15
            by_cases r : j < 0
            · right
              refine ⟨g, by rw [if_pos r], hg, fun x y x0 x1 y0 y1 => ?_⟩
              by_cases z : x = i
              · rw [z]; exact hU y (by omega) y1
              · exact hT x y (by omega) x1 y0 y1
            · left
              obtain ⟨P', S', T', U', e1, e2, e3⟩ := fr g hg
              have hv : ∀ x y, i ≤ x → x ≤ h t 1 → j ≤ y → y ≤ h u 1 → i + j < x + y → g (o + 1) (x * 13 + y) = Dc h t u x y := fun x y a b c d f => by
                by_cases z : x = i
                · rw [z]; exact hU y (by omega) d
                · exact hT x y (by omega) b (by omega) d
              have lf := s_leastFromC (o := o) (i := i) (j := j) P' S' T' U' (by omega) (by omega) (by omega) (by omega) (fun x y a b c d f => by
                rw [e1] at b; rw [e2] at d
                rw [hv x y a b c d f]
                have := DS_b H (i := x) (j := y) (by omega) b (by omega) d
                change 0 ≤ DS _ _ _ _ _ _ x y ∧ DS _ _ _ _ _ _ x y ≤ _
                omega)
              rw [e3, DS_eq H (by omega) i1 (by omega) j1 hv] at lf
              refine ⟨(j - 1, xup g (o + 1) (i * 13 + j) (Dc h t u i j)), ?_, ⟨by dsimp only; omega, by dsimp only; omega, fun x hx => by dsimp only; rw [xup_row hx]; exact hg x hx, fun x y a b c d => ?_, fun y a b => ?_⟩, by dsimp only; omega⟩
              · rw [if_neg r, w32_id (z := i * 13) (by omega) (by omega), w32_id (z := i * 13 + j) (by omega) (by omega), xlet_eq, if_pos (by omega), lf, xc1_some, xgd_pos (by omega) (by omega), xlet_eq]
                unfold f_Way_measure_55
                rw [xlet_eq, w32_id (by omega) (by omega)]
                rfl
              · dsimp only
                rw [xup_ne_j (by omega)]
                exact hT x y a b c d
              · dsimp only at a ⊢
                by_cases z : y = j
                · rw [z, xup_same]
                · rw [xup_ne_j (by omega)]
                  exact hU y (by omega) b) ⟨by dsimp only; rw [hg u n3]; omega, by dsimp only; rw [hg u n3]; omega, hg, hT, fun y a b => by dsimp only at a; rw [hg u n3] at a; omega⟩
        rw [e, xc1_some]
        unfold f_Way_measure_61
        refine ⟨(i - 1, b), by rw [xlet_eq, w32_id (by omega) (by omega)]; rfl, ⟨by dsimp only; omega, by dsimp only; omega, hb.1, fun x y a b c d => hb.2 x y (by dsimp only at a; omega) b c d⟩, by dsimp only; omega⟩) ⟨by dsimp only; omega, by dsimp only; omega, fun _ _ => rfl, fun i j a b => by dsimp only at a; omega⟩
  rw [e, xc1_some]
  unfold f_Way_measure_67
  rw [xgd_pos (by omega) (by omega)]
  refine ⟨b, ?_, hb⟩
  have := hb.2 0 0 (by omega) (by omega) (by omega) (by omega)
  rw [show (0 : Int) = 0 * 13 + 0 from rfl, this]
  rfl
theorem s_firstCodeC {h : xH} {o t u i j : Int} (hP : PrC h) (hS : So h) (ht : TQ t h) (hu : TQ u h) (i0 : 0 ≤ i) (i1 : i ≤ h t 1) (j0 : 0 ≤ j) (j1 : j ≤ h u 1) (ne : ¬ (i = h t 1 ∧ j = h u 1))
    (hT : ∀ x y, 0 ≤ x → x ≤ h t 1 → 0 ≤ y → y ≤ h u 1 → h (o + 1) (x * 13 + y) = Dc h t u x y) : f_Way_firstCode o t i u j h = some (fc (sp h (tp h t) (tp h u)) (tA h) (tB h) (7 + h 14 2).toNat (h t 1) (h u 1) i j) := by
  have H := cs_okC hP hS ht hu
  have b20 : h 14 2 ≤ 20 := hS.1.2.2.2.2.1
  have bn : 0 ≤ h 14 2 := hS.1.2.2.2.1
  have hT' : ∀ x y, i ≤ x → x ≤ h t 1 → j ≤ y → y ≤ h u 1 → i + j < x + y → 0 ≤ h (o + 1) (x * 13 + y) ∧ h (o + 1) (x * 13 + y) ≤ 1000000 := fun x y a b c d _ => by
    rw [hT x y (by omega) b (by omega) d]
    have := DS_b H (i := x) (j := y) (by omega) b (by omega) d
    change 0 ≤ DS _ _ _ _ _ _ x y ∧ DS _ _ _ _ _ _ x y ≤ _
    omega
  have sb : ∀ c, 0 ≤ c → c < 7 + h 14 2 → f_Way_sumBy o c t i u j h = some (vl (sp h (tp h t) (tp h u)) (tA h) (tB h) (Dc h t u) i j c) := fun c c0 c1 => by
    rw [s_sumByC hP hS ht hu c0 c1 i0 i1 j0 j1 hT']
    obtain ⟨-, -, -, -, -, -, -, -, g9, g10⟩ := H
    have a := g9 c c0 (by omega)
    unfold vl
    by_cases q : sp h (tp h t) (tp h u) c i j = -1
    · rw [if_pos q, if_pos q]
    · have b := g10 c i j c0 (by omega) i0 i1 j0 j1 q
      rw [if_neg q, if_neg q]
      dsimp only
      rw [hT (i + tA h c) (j + tB h c) (by omega) (by omega) (by omega) (by omega)]
  unfold f_Way_firstCode f_Way_firstCode_6
  obtain ⟨b, e, hb⟩ := xloop_W (step := fun s : Int × Int => f_Way_firstCode_s6 o t i u j s.1 s.2 h) (I := fun s => 0 ≤ s.1 ∧ s.1 < s.2 ∧ s.2 ≤ 7 + h 14 2 ∧ (∀ x, 0 ≤ x → x < s.2 → vl (sp h (tp h t) (tp h u)) (tA h) (tB h) (Dc h t u) i j s.1 ≤ vl (sp h (tp h t) (tp h u)) (tA h) (tB h) (Dc h t u) i j x) ∧ ∀ x, 0 ≤ x → x < s.1 → vl (sp h (tp h t) (tp h u)) (tA h) (tB h) (Dc h t u) i j s.1 < vl (sp h (tp h t) (tp h u)) (tA h) (tB h) (Dc h t u) i j x) (fun s => (7 + h 14 2 - s.2).toNat)
    (post := fun b => isFc (sp h (tp h t) (tp h u)) (tA h) (tB h) (7 + h 14 2).toNat (h t 1) (h u 1) i j b) (s := (0, 1)) (by
      rintro ⟨v, c⟩ hI
      dsimp only at hI ⊢
      obtain ⟨v0, v1, c1, m1, m2⟩ := hI
      unfold f_Way_firstCode_s6 f_Way_firstCode_47
      rw [s_codes hS, xc1_some]
      by_cases q : c < 7 + h 14 2
      · left
        rw [if_pos q, sb c (by omega) q, xc1_some, sb v v0 (by omega), xc1_some, w32_id (by omega) (by omega)]
        by_cases r : vl (sp h (tp h t) (tp h u)) (tA h) (tB h) (Dc h t u) i j c < vl (sp h (tp h t) (tp h u)) (tA h) (tB h) (Dc h t u) i j v
        · rw [if_pos r]
          refine ⟨(c, c + 1), rfl, ⟨by dsimp only; omega, by dsimp only; omega, by dsimp only; omega, fun x a b => ?_, fun x a b => ?_⟩, by dsimp only; omega⟩
          · dsimp only at b ⊢
            by_cases z : x = c
            · rw [z]; omega
            · have := m1 x a (by omega); omega
          · dsimp only at b ⊢
            have := m1 x a b; omega
        · rw [if_neg r]
          refine ⟨(v, c + 1), rfl, ⟨by dsimp only; omega, by dsimp only; omega, by dsimp only; omega, fun x a b => ?_, fun x a b => m2 x a b⟩, by dsimp only; omega⟩
          dsimp only at b ⊢
          by_cases z : x = c
          · rw [z]; omega
          · exact m1 x a (by omega)
      · right
        refine ⟨v, by rw [if_neg q], v0, by omega, ?_, ?_⟩
        · have e := D_mnf H i0 i1 j0 j1 ne
          have bb := DS_b H i0 i1 j0 j1
          have le := mnf_le (f := vl (sp h (tp h t) (tp h u)) (tA h) (tB h) (Dc h t u) i j) (n := (7 + h 14 2).toNat) v0 (by omega)
          have at' := mnf_at (f := vl (sp h (tp h t) (tp h u)) (tA h) (tB h) (Dc h t u) i j) (n := (7 + h 14 2).toNat)
          change Dc h t u i j = mnf (vl _ _ _ (Dc h t u) i j) _ at e
          change 0 ≤ Dc h t u i j ∧ Dc h t u i j ≤ _ at bb
          change vl _ _ _ (Dc h t u) i j v = Dc h t u i j
          rcases at' with z | ⟨d, d0, d1, d2⟩
          · omega
          · have := m1 d d0 (by omega)
            omega
        · intro x x0 x1
          have e := D_mnf H i0 i1 j0 j1 ne
          have le := mnf_le (f := vl (sp h (tp h t) (tp h u)) (tA h) (tB h) (Dc h t u) i j) (n := (7 + h 14 2).toNat) v0 (by omega)
          have := m2 x x0 x1
          change Dc h t u i j = mnf (vl _ _ _ (Dc h t u) i j) _ at e
          change vl _ _ _ (Dc h t u) i j x ≠ Dc h t u i j
          omega) ⟨by dsimp only; omega, by dsimp only; omega, by dsimp only; omega, fun x a b => by
            dsimp only at b ⊢
            rw [show x = 0 by omega]; exact Int.le_refl _, fun x a b => by dsimp only at b; omega⟩
  rw [e, xc1_some]
  unfold f_Way_firstCode_53
  rw [isFc_uniq hb (fc_is H i0 i1 j0 j1 ne)]
theorem s_traceC {h : xH} {o t u : Int} (ho : o = 28 ∨ o = 34) (hP : PrC h) (hS : So h) (ht : TQ t h) (hu : TQ u h) (nt : t + 1 < o ∨ o + 6 ≤ t) (nu : u + 1 < o ∨ o + 6 ≤ u)
    (hT : ∀ x y, 0 ≤ x → x ≤ h t 1 → 0 ≤ y → y ≤ h u 1 → h (o + 1) (x * 13 + y) = Dc h t u x y) : ∃ (h' : xH) (n : Nat), f_Way_trace o t u h = some h' ∧ (∀ x, x ≠ o → x ≠ o + 2 → x ≠ o + 3 → x ≠ o + 4 → x ≠ o + 5 → h' x = h x) ∧ h' o 6 = n ∧ n ≤ 24 ∧ (∀ k, k < n → ¬ wE (sp h (tp h t) (tp h u)) (tA h) (tB h) (7 + h 14 2).toNat (h t 1) (h u 1) k) ∧ wE (sp h (tp h t) (tp h u)) (tA h) (tB h) (7 + h 14 2).toNat (h t 1) (h u 1) n ∧ wyR (sp h (tp h t) (tp h u)) (tA h) (tB h) (7 + h 14 2).toNat (h t 1) (h u 1) n (h' (o + 2)) (h' (o + 3)) (h' (o + 4)) (h' (o + 5)) := by
  have H := cs_okC hP hS ht hu
  have t1 := ht.1
  have t2 := ht.2.1
  have u1 := hu.1
  have u2 := hu.2.1
  have b20 : h 14 2 ≤ 20 := hS.1.2.2.2.2.1
  have bn : 0 ≤ h 14 2 := hS.1.2.2.2.1
  have fr : ∀ g : xH, (∀ x, x ≠ o → x ≠ o + 2 → x ≠ o + 3 → x ≠ o + 4 → x ≠ o + 5 → g x = h x) → PrC g ∧ So g ∧ TQ t g ∧ TQ u g ∧ g t 1 = h t 1 ∧ g u 1 = h u 1 ∧ sp g = sp h ∧ tA g = tA h ∧ tB g = tB h ∧ g 14 = h 14 ∧ tp g t = tp h t ∧ tp g u = tp h u ∧ g (o + 1) = h (o + 1) := by
    intro g hg
    have og : off [28, 30, 31, 32, 33, 34, 36, 37, 38, 39] [] h g := ⟨fun x h0 hn => by
      rcases ho with rfl | rfl
      · exact hg x (fun z => hn (by simp [z])) (fun z => hn (by simp [z])) (fun z => hn (by simp [z])) (fun z => hn (by simp [z])) (fun z => hn (by simp [z]))
      · exact hg x (fun z => hn (by simp [z])) (fun z => hn (by simp [z])) (fun z => hn (by simp [z])) (fun z => hn (by simp [z])) (fun z => hn (by simp [z])), fun x _ => by rw [hg 81 (by omega) (by omega) (by omega) (by omega) (by omega)]⟩
    have e : ∀ x, 10 ≤ x → x ≤ 20 → g x = h x := fun x a b => hg x (by omega) (by omega) (by omega) (by omega) (by omega)
    have et0 := hg t (by omega) (by omega) (by omega) (by omega) (by omega)
    have et1 := hg (t + 1) (by omega) (by omega) (by omega) (by omega) (by omega)
    have eu0 := hg u (by omega) (by omega) (by omega) (by omega) (by omega)
    have eu1 := hg (u + 1) (by omega) (by omega) (by omega) (by omega) (by omega)
    refine ⟨PrC_off og (by decide) hP, So_off og (by decide) hS, ?_, ?_, by rw [et0], by rw [eu0], sp_cg e, tA_cg e, tB_cg e, e 14 (by decide) (by decide), by unfold tp; rw [et0, et1], by unfold tp; rw [eu0, eu1], hg (o + 1) (by omega) (by omega) (by omega) (by omega) (by omega)⟩
    · unfold TQ; rw [et0, et1]; exact ht
    · unfold TQ; rw [eu0, eu1]; exact hu
  unfold f_Way_trace f_Way_trace_10
  rw [xlet_eq]
  obtain ⟨b, e, hb⟩ := xloop_W (step := fun s : Int × Int × xH => f_Way_trace_s10 o t u s.1 s.2.1 s.2.2) (I := fun s => ∃ k : Nat, s.1 = (wP (sp h (tp h t) (tp h u)) (tA h) (tB h) (7 + h 14 2).toNat (h t 1) (h u 1) k).1 ∧ s.2.1 = (wP (sp h (tp h t) (tp h u)) (tA h) (tB h) (7 + h 14 2).toNat (h t 1) (h u 1) k).2 ∧ 0 ≤ s.1 ∧ s.1 ≤ h t 1 ∧ 0 ≤ s.2.1 ∧ s.2.1 ≤ h u 1 ∧ (k : Int) ≤ s.1 + s.2.1 ∧ (∀ x, x ≠ o → x ≠ o + 2 → x ≠ o + 3 → x ≠ o + 4 → x ≠ o + 5 → s.2.2 x = h x) ∧ s.2.2 o 6 = k ∧ (∀ m, m < k → ¬ wE (sp h (tp h t) (tp h u)) (tA h) (tB h) (7 + h 14 2).toNat (h t 1) (h u 1) m) ∧ wyR (sp h (tp h t) (tp h u)) (tA h) (tB h) (7 + h 14 2).toNat (h t 1) (h u 1) k (s.2.2 (o + 2)) (s.2.2 (o + 3)) (s.2.2 (o + 4)) (s.2.2 (o + 5))) (fun s => (24 - s.1 - s.2.1).toNat)
    (post := fun b => ∃ n : Nat, (∀ x, x ≠ o → x ≠ o + 2 → x ≠ o + 3 → x ≠ o + 4 → x ≠ o + 5 → b x = h x) ∧ b o 6 = n ∧ n ≤ 24 ∧ (∀ m, m < n → ¬ wE (sp h (tp h t) (tp h u)) (tA h) (tB h) (7 + h 14 2).toNat (h t 1) (h u 1) m) ∧ wE (sp h (tp h t) (tp h u)) (tA h) (tB h) (7 + h 14 2).toNat (h t 1) (h u 1) n ∧ wyR (sp h (tp h t) (tp h u)) (tA h) (tB h) (7 + h 14 2).toNat (h t 1) (h u 1) n (b (o + 2)) (b (o + 3)) (b (o + 4)) (b (o + 5))) (s := (0, 0, xup h o 6 0)) (by
      rintro ⟨i, j, g⟩ hI
      dsimp only at hI ⊢
      obtain ⟨k, ei, ej, i0, i1, j0, j1, kk, hg, ek, hne, hw⟩ := hI
      unfold f_Way_trace_s10
      by_cases q : i = h t 1 ∧ j = h u 1
      · right
        obtain ⟨P', S', T', U', e1, e2, e3, e4, e5, e6, e7, e8, e9⟩ := fr g hg
        refine ⟨g, ?_, k, hg, ek, by omega, hne, ⟨by rw [← ei]; exact q.1, by rw [← ej]; exact q.2⟩, hw⟩
        rw [e1, e2, if_neg (c := i < h t 1) (by omega), if_neg (c := j < h u 1) (by omega)]
        split <;> rfl
      · left
        obtain ⟨P', S', T', U', e1, e2, e3, e4, e5, e6, e7, e8, e9⟩ := fr g hg
        have F := fc_is H i0 i1 j0 j1 q
        obtain ⟨f1, f2, f3, f4, f5, f6, f7, f8, f9, f10⟩ := fc_to H i0 i1 j0 j1 F
        have F0 := F.1
        have F1 := F.2.1
        have dc : Dc g t u = Dc h t u := by unfold Dc; rw [e1, e2, e3, e4, e5, e6, e7, e8]
        have c1 := s_firstCodeC (o := o) (i := i) (j := j) P' S' T' U' i0 (by omega) j0 (by omega) (by rw [e1, e2]; exact q) (fun x y a b c d => by rw [e9, dc]; exact hT x y a (by omega) c (by omega))
        rw [e1, e2, e3, e4, e5, e6, e7, e8] at c1
        have wi : (wP (sp h (tp h t) (tp h u)) (tA h) (tB h) (7 + h 14 2).toNat (h t 1) (h u 1) (k + 1)).1 = i + tA h (fc (sp h (tp h t) (tp h u)) (tA h) (tB h) (7 + h 14 2).toNat (h t 1) (h u 1) i j) := by rw [ei, ej]; rfl
        have wj : (wP (sp h (tp h t) (tp h u)) (tA h) (tB h) (7 + h 14 2).toNat (h t 1) (h u 1) (k + 1)).2 = j + tB h (fc (sp h (tp h t) (tp h u)) (tA h) (tB h) (7 + h 14 2).toNat (h t 1) (h u 1) i j) := by rw [ei, ej]; rfl
        have nek : ¬ wE (sp h (tp h t) (tp h u)) (tA h) (tB h) (7 + h 14 2).toNat (h t 1) (h u 1) k := fun z => q ⟨by rw [ei]; exact z.1, by rw [ej]; exact z.2⟩
        generalize hc : fc (sp h (tp h t) (tp h u)) (tA h) (tB h) (7 + h 14 2).toNat (h t 1) (h u 1) i j = c at *
        have r0 : o + 2 ≠ o ∧ o + 3 ≠ o ∧ o + 4 ≠ o ∧ o + 5 ≠ o := by omega
        have st : ∃ g', f_Way_trace_36 o t u i j g = some (Sum.inl (i + tA h c, j + tB h c, g')) ∧ g' = xup (xup (xup (xup (xup g (o + 2) k c) (o + 3) k (sp h (tp h t) (tp h u) c i j)) (o + 4) k i) (o + 5) k j) o 6 (k + 1) := by
          have ga := fr (xup g (o + 2) k c) (fun x a b _ _ _ => by rw [xup_row b]; exact hg x a b (by assumption) (by assumption) (by assumption))
          obtain ⟨P2, S2, T2, U2, a1, a2, a3, a4, a5, a6, a7, a8, a9⟩ := ga
          have p1 := s_priceAt (c := c) (i := i) (j := j) S2 T2 U2 F0 (by rw [a6]; omega) i0 (by omega) j0 (by omega)
          rw [a3, a7, a8] at p1
          have gb := fr (xup (xup (xup (xup (xup g (o + 2) k c) (o + 3) k (sp h (tp h t) (tp h u) c i j)) (o + 4) k i) (o + 5) k j) o 6 (k + 1)) (fun x a b c d e => by
            rw [xup_row a, xup_row e, xup_row d, xup_row c, xup_row b]; exact hg x a b c d e)
          obtain ⟨P3, S3, T3, U3, d1, d2, d3, d4, d5, d6, d7, d8, d9⟩ := gb
          have m1 := s_meantTaken (c := c) S3 F0 (by rw [d6]; omega)
          have m2 := s_typedTaken (c := c) S3 F0 (by rw [d6]; omega)
          rw [d4] at m1
          rw [d5] at m2
          refine ⟨_, ?_, rfl⟩
          unfold f_Way_trace_36
          rw [c1, xc1_some, ek, xgd_pos (by omega) (by omega), xlet_eq, p1, xc1_some, xup_row (o' := o) (by omega), ek, xgd_pos (by omega) (by omega), xlet_eq, xup_row (o' := o) (by omega), xup_row (o' := o) (by omega), ek, xgd_pos (by omega) (by omega), xlet_eq, xup_row (o' := o) (by omega), xup_row (o' := o) (by omega), xup_row (o' := o) (by omega), ek, xgd_pos (by omega) (by omega), xlet_eq, xup_row (o' := o) (by omega), xup_row (o' := o) (by omega), xup_row (o' := o) (by omega), xup_row (o' := o) (by omega), ek, w32_id (z := (k : Int) + 1) (by omega) (by omega), xlet_eq, m1, xc1_some, m2, w32_id (by omega) (by omega), xlet_eq, xc1_some, w32_id (by omega) (by omega), xlet_eq]
        obtain ⟨g', s1, s2⟩ := st
        refine ⟨(i + tA h c, j + tB h c, g'), ?_, ⟨k + 1, wi.symm, wj.symm, by dsimp only; omega, f9, by dsimp only; omega, f10, by dsimp only; omega, fun x a b c d e => ?_, ?_, fun m hm => ?_, ?_⟩, by dsimp only; omega⟩
        · rw [e1, e2, ek, if_pos (by omega)]
          by_cases z : i < h t 1
          · rw [if_pos z, s1]
          · rw [if_neg z, if_pos (by omega), s1]
        · dsimp only
          rw [s2, xup_row a, xup_row e, xup_row d, xup_row c, xup_row b]
          exact hg x a b c d e
        · dsimp only
          rw [s2, xup_same]
          rfl
        · by_cases z : m = k
          · rw [z]; exact nek
          · exact hne m (by omega)
        · dsimp only
          intro m hm
          rw [s2]
          simp (disch := omega) only [xup_row (o' := o + 2), xup_row (o' := o + 3), xup_row (o' := o + 4), xup_row (o' := o + 5)]
          by_cases z : m = k
          · rw [z, xup_same, xup_same, xup_same, xup_same, ← ei, ← ej, hc]
            exact ⟨rfl, rfl, rfl, rfl⟩
          · rw [xup_ne_j (by omega), xup_ne_j (by omega), xup_ne_j (by omega), xup_ne_j (by omega)]
            simp (disch := omega) only [xup_row (o' := o + 2), xup_row (o' := o + 3), xup_row (o' := o + 4), xup_row (o' := o + 5)]
            exact hw m (by omega)) ⟨0, rfl, rfl, by dsimp only; omega, by dsimp only; omega, by dsimp only; omega, by dsimp only; omega, by dsimp only; omega, fun x a _ _ _ _ => by dsimp only; rw [xup_row a], by dsimp only; rw [xup_same]; rfl, fun m hm => by omega, fun m hm => by omega⟩
  rw [e, xc1_some]
  obtain ⟨n, hb⟩ := hb
  exact ⟨b, n, rfl, hb⟩
end
