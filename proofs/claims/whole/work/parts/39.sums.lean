/-! LEAST SUMS: both tables -/
section
variable (sp : Int → Int → Int → Int) (ta tb : Int → Int) (K : Nat) (la lb : Int)
noncomputable def Dt : Nat → Int → Int → Int
  | 0 => fun _ _ => 0
  | n + 1 => rhs sp ta tb K la lb (Dt n)
noncomputable def DS : Int → Int → Int := Dt sp ta tb K la lb 30
end
section
variable {sp : Int → Int → Int → Int} {ta tb : Int → Int} {K : Nat} {la lb : Int}
theorem Dt_st (H : SPok sp ta tb K la lb) : ∀ (n : Nat) (i j : Int), 0 ≤ i → i ≤ la → 0 ≤ j → j ≤ lb → (la - i) + (lb - j) < n → Dt sp ta tb K la lb n i j = Dt sp ta tb K la lb (n + 1) i j
  | 0, i, j, _, _, _, _, h => by omega
  | n + 1, i, j, i0, i1, j0, j1, h => by
    show rhs sp ta tb K la lb (Dt sp ta tb K la lb n) i j = rhs sp ta tb K la lb (Dt sp ta tb K la lb (n + 1)) i j
    exact rhs_ext H i0 i1 j0 j1 (fun x y a b c d e => Dt_st H n x y (by omega) b (by omega) d (by omega))
theorem DS_D (H : SPok sp ta tb K la lb) : IsD sp ta tb K la lb (DS sp ta tb K la lb) := fun i j i0 i1 j0 j1 => by
  have := H.1; have := H.2.1; have := H.2.2.1; have := H.2.2.2.1
  exact Dt_st H 30 i j i0 i1 j0 j1 (by omega)
theorem DS_eq (H : SPok sp ta tb K la lb) {T : Int → Int → Int} {i j : Int} (i0 : 0 ≤ i) (i1 : i ≤ la) (j0 : 0 ≤ j) (j1 : j ≤ lb) (hT : ∀ x y, i ≤ x → x ≤ la → j ≤ y → y ≤ lb → i + j < x + y → T x y = DS sp ta tb K la lb x y) : rhs sp ta tb K la lb T i j = DS sp ta tb K la lb i j := by
  rw [DS_D H i j i0 i1 j0 j1]
  exact rhs_ext H i0 i1 j0 j1 hT
theorem DS_b (H : SPok sp ta tb K la lb) {i j : Int} (i0 : 0 ≤ i) (i1 : i ≤ la) (j0 : 0 ≤ j) (j1 : j ≤ lb) : 0 ≤ DS sp ta tb K la lb i j ∧ DS sp ta tb K la lb i j ≤ 239976 := by
  have := D_bd H (DS_D H) i0 i1 j0 j1
  have := H.1; have := H.2.1; have := H.2.2.1; have := H.2.2.2.1
  omega
end
theorem stq_cg {h h' : xH} {o r i : Int} {p : Int → Int} (e1 : h' (o + 1) = h (o + 1)) (e2 : h' (o + 2) = h (o + 2)) : stq h' o r p i ↔ stq h o r p i := by
  unfold stq
  rw [e1, e2]
theorem sv_cg {h h' : xH} (e : ∀ o, 10 ≤ o → o ≤ 20 → h' o = h o) {p q : Int → Int} {c i j : Int} : sv h' p q c i j = sv h p q c i j := by
  have e1 := stq_cg (r := c - 7) (i := i) (p := p) (e (14 + 1) (by decide) (by decide)) (e (14 + 2) (by decide) (by decide))
  have e2 := stq_cg (r := c - 7) (i := j) (p := q) (e (17 + 1) (by decide) (by decide)) (e (17 + 2) (by decide) (by decide))
  by_cases z : stq h 14 (c - 7) p i ∧ stq h 17 (c - 7) q j
  · rw [sv_pos z, sv_pos ⟨e1.2 z.1, e2.2 z.2⟩, e 20 (by decide) (by decide)]
  · rw [sv_neg z, sv_neg (fun w => z ⟨e1.1 w.1, e2.1 w.2⟩)]
theorem sp_cg {h h' : xH} (e : ∀ o, 10 ≤ o → o ≤ 20 → h' o = h o) : sp h' = sp h := by
  funext p q c i j
  unfold sp byL
  rw [sv_cg e]
  simp only [e 10 (by decide) (by decide), e 11 (by decide) (by decide), e 12 (by decide) (by decide), e 13 (by decide) (by decide)]
theorem tA_cg {h h' : xH} (e : ∀ o, 10 ≤ o → o ≤ 20 → h' o = h o) : tA h' = tA h := by
  funext c
  unfold tA
  rw [e 16 (by decide) (by decide)]
theorem tB_cg {h h' : xH} (e : ∀ o, 10 ≤ o → o ≤ 20 → h' o = h o) : tB h' = tB h := by
  funext c
  unfold tB
  rw [e 19 (by decide) (by decide)]
/-- the class's slips over the rows t and u -/
theorem cs_ok {h : xH} {t u : Int} (hP : Pr h) (hS : So h) (ht : TQ t h) (hu : TQ u h) : SPok (sp h (tp h t) (tp h u)) (tA h) (tB h) (7 + h 14 2).toNat (h t 1) (h u 1) :=
  sp_ok hP hS ht.1 ht.2.1 hu.1 hu.2.1 ht.2.2 hu.2.2
noncomputable def Dc (h : xH) (t u : Int) : Int → Int → Int := DS (sp h (tp h t) (tp h u)) (tA h) (tB h) (7 + h 14 2).toNat (h t 1) (h u 1)
theorem s_sumBy {h : xH} {o t u c i j : Int} (hP : Pr h) (hS : So h) (ht : TQ t h) (hu : TQ u h) (c0 : 0 ≤ c) (c1 : c < 7 + h 14 2) (i0 : 0 ≤ i) (i1 : i ≤ h t 1) (j0 : 0 ≤ j) (j1 : j ≤ h u 1)
    (hT : ∀ x y, i ≤ x → x ≤ h t 1 → j ≤ y → y ≤ h u 1 → i + j < x + y → 0 ≤ h (o + 1) (x * 13 + y) ∧ h (o + 1) (x * 13 + y) ≤ 1000000) : f_Way_sumBy o c t i u j h = some (vl (sp h (tp h t) (tp h u)) (tA h) (tB h) (fun x y => h (o + 1) (x * 13 + y)) i j c) := by
  have H := cs_ok hP hS ht hu
  have b20 : h 14 2 ≤ 20 := hS.1.2.2.2.2.1
  have t2 := ht.2.1
  have u2 := hu.2.1
  obtain ⟨-, -, -, -, -, -, -, -, g9, g10⟩ := H
  obtain ⟨a1, a2, a3, a4, a5⟩ := g9 c c0 (by omega)
  unfold f_Way_sumBy f_Way_sumBy_64 vl
  rw [s_priceAt hS ht hu c0 c1 i0 (by omega) j0 (by omega), xc1_some, s_meantTaken hS c0 c1, xc1_some, s_typedTaken hS c0 c1, xc1_some, w32_id (z := i + tA h c) (by omega) (by omega), w32_id (z := (i + tA h c) * 13) (by omega) (by omega), w32_id (z := (i + tA h c) * 13 + j) (by omega) (by omega), w32_id (z := (i + tA h c) * 13 + j + tB h c) (by omega) (by omega), xlet_eq]
  by_cases q : sp h (tp h t) (tp h u) c i j = -1
  · rw [if_pos q, if_pos q]
  · obtain ⟨k1, k2, k3, k4⟩ := g10 c i j c0 (by omega) i0 i1 j0 j1 q
    have e : (i + tA h c) * 13 + (j + tB h c) = (i + tA h c) * 13 + j + tB h c := by omega
    have := hT (i + tA h c) (j + tB h c) (by omega) k3 (by omega) k4 (by omega)
    rw [e] at this
    rw [if_neg q, if_neg q, if_neg (by omega), if_pos (by omega), xgd_pos (by omega) (by omega), w32_id (by omega) (by omega)]
    show some (_ + h (o + 1) ((i + tA h c) * 13 + j + tB h c)) = some (_ + h (o + 1) ((i + tA h c) * 13 + (j + tB h c)))
    rw [e]
theorem s_leastFrom {h : xH} {o t u i j : Int} (hP : Pr h) (hS : So h) (ht : TQ t h) (hu : TQ u h) (i0 : 0 ≤ i) (i1 : i ≤ h t 1) (j0 : 0 ≤ j) (j1 : j ≤ h u 1)
    (hT : ∀ x y, i ≤ x → x ≤ h t 1 → j ≤ y → y ≤ h u 1 → i + j < x + y → 0 ≤ h (o + 1) (x * 13 + y) ∧ h (o + 1) (x * 13 + y) ≤ 1000000) : f_Way_leastFrom o t i u j h = some (rhs (sp h (tp h t) (tp h u)) (tA h) (tB h) (7 + h 14 2).toNat (h t 1) (h u 1) (fun x y => h (o + 1) (x * 13 + y)) i j) := by
  have b20 : h 14 2 ≤ 20 := hS.1.2.2.2.2.1
  have bn : 0 ≤ h 14 2 := hS.1.2.2.2.1
  have lp : f_Way_leastFrom_19 o t i u j h = some (mnf (vl (sp h (tp h t) (tp h u)) (tA h) (tB h) (fun x y => h (o + 1) (x * 13 + y)) i j) (7 + h 14 2).toNat) := by
    unfold f_Way_leastFrom_19 f_Way_leastFrom_26
    have key := xloop_T (step := fun s : Int × Int => f_Way_leastFrom_s26 o t i u j s.1 s.2 h) (fun k => (mnf (vl (sp h (tp h t) (tp h u)) (tA h) (tB h) (fun x y => h (o + 1) (x * 13 + y)) i j) k, (k : Int))) (7 + h 14 2).toNat (s0 := (1000000, 0)) (b := mnf (vl (sp h (tp h t) (tp h u)) (tA h) (tB h) (fun x y => h (o + 1) (x * 13 + y)) i j) (7 + h 14 2).toNat) rfl
      (fun k hk => by
        dsimp only [f_Way_leastFrom_s26]
        rw [s_codes hS, xc1_some, if_pos (by omega), s_sumBy hP hS ht hu (by omega) (by omega) i0 i1 j0 j1 hT, xc1_some, w32_id (by omega) (by omega)]
        rfl)
      (by
        dsimp only [f_Way_leastFrom_s26]
        rw [s_codes hS, xc1_some, if_neg (by omega)])
    rw [key, xc1_some]
    rfl
  unfold f_Way_leastFrom rhs
  by_cases q : i = h t 1
  · by_cases r : j = h u 1
    · rw [if_pos q, if_pos r, if_pos ⟨q, r⟩]
    · rw [if_pos q, if_neg r, if_neg (fun z => r z.2), lp]
  · rw [if_neg q, if_neg (fun z => q z.1), lp]
theorem s_measure {h : xH} {o t u : Int} (ho : o = 28 ∨ o = 34) (hP : Pr h) (hS : So h) (ht : TQ t h) (hu : TQ u h) (n1 : t ≠ o + 1) (n2 : t + 1 ≠ o + 1) (n3 : u ≠ o + 1) (n4 : u + 1 ≠ o + 1) : ∃ h', f_Way_measure o t u h = some (Dc h t u 0 0, h') ∧ (∀ x, x ≠ o + 1 → h' x = h x) ∧ ∀ i j, 0 ≤ i → i ≤ h t 1 → 0 ≤ j → j ≤ h u 1 → h' (o + 1) (i * 13 + j) = Dc h t u i j := by
  have H := cs_ok hP hS ht hu
  have t1 := ht.1
  have t2 := ht.2.1
  have u1 := hu.1
  have u2 := hu.2.1
  have fr : ∀ g : xH, (∀ x, x ≠ o + 1 → g x = h x) → Pr g ∧ So g ∧ TQ t g ∧ TQ u g ∧ g t 1 = h t 1 ∧ g u 1 = h u 1 ∧ ∀ T i j, rhs (sp g (tp g t) (tp g u)) (tA g) (tB g) (7 + g 14 2).toNat (g t 1) (g u 1) T i j = rhs (sp h (tp h t) (tp h u)) (tA h) (tB h) (7 + h 14 2).toNat (h t 1) (h u 1) T i j := by
    intro g hg
    have og : off [29, 35] [] h g := ⟨fun x h0 hn => hg x (fun z => hn (by rcases ho with y | y <;> simp [z, y])), fun x _ => by rw [hg 81 (by omega)]⟩
    have e : ∀ x, 10 ≤ x → x ≤ 20 → g x = h x := fun x a b => hg x (by omega)
    have et : tp g t = tp h t := by unfold tp; rw [hg t n1, hg (t + 1) n2]
    have eu : tp g u = tp h u := by unfold tp; rw [hg u n3, hg (u + 1) n4]
    refine ⟨Pr_off og (by decide) hP, So_off og (by decide) hS, ?_, ?_, by rw [hg t n1], by rw [hg u n3], fun T i j => ?_⟩
    · unfold TQ; rw [hg t n1, hg (t + 1) n2]; exact ht
    · unfold TQ; rw [hg u n3, hg (u + 1) n4]; exact hu
    · rw [sp_cg e, tA_cg e, tB_cg e, et, eu, e 14 (by decide) (by decide), hg t n1, hg u n3]
  unfold f_Way_measure f_Way_measure_5
  rw [xlet_eq]
  obtain ⟨b, e, hb⟩ := xloop_W (step := fun s : Int × xH => f_Way_measure_s5 o t u s.1 s.2) (I := fun s => -1 ≤ s.1 ∧ s.1 ≤ h t 1 ∧ (∀ x, x ≠ o + 1 → s.2 x = h x) ∧ ∀ i j, s.1 < i → i ≤ h t 1 → 0 ≤ j → j ≤ h u 1 → s.2 (o + 1) (i * 13 + j) = Dc h t u i j) (fun s => (s.1 + 1).toNat)
    (post := fun b => (∀ x, x ≠ o + 1 → b x = h x) ∧ ∀ i j, 0 ≤ i → i ≤ h t 1 → 0 ≤ j → j ≤ h u 1 → b (o + 1) (i * 13 + j) = Dc h t u i j) (s := (h t 1, h)) (by
      rintro ⟨i, g⟩ hI
      dsimp only at hI ⊢
      obtain ⟨i0, i1, hg, hT⟩ := hI
      unfold f_Way_measure_s5
      by_cases q : i < 0
      · right
        exact ⟨g, by rw [if_pos q], hg, fun x y x0 x1 y0 y1 => hT x y (by omega) x1 y0 y1⟩
      · left
        rw [if_neg q, xlet_eq]
        unfold f_Way_measure_15
        obtain ⟨b, e, hb⟩ := xloop_W (step := fun s : Int × xH => f_Way_measure_s15 o t u i s.1 s.2) (I := fun s => -1 ≤ s.1 ∧ s.1 ≤ h u 1 ∧ (∀ x, x ≠ o + 1 → s.2 x = h x) ∧ (∀ x y, i < x → x ≤ h t 1 → 0 ≤ y → y ≤ h u 1 → s.2 (o + 1) (x * 13 + y) = Dc h t u x y) ∧ ∀ y, s.1 < y → y ≤ h u 1 → s.2 (o + 1) (i * 13 + y) = Dc h t u i y) (fun s => (s.1 + 1).toNat)
          (post := fun b => (∀ x, x ≠ o + 1 → b x = h x) ∧ ∀ x y, i ≤ x → x ≤ h t 1 → 0 ≤ y → y ≤ h u 1 → b (o + 1) (x * 13 + y) = Dc h t u x y) (s := (g u 1, g)) (by
            rintro ⟨j, g⟩ hI
            dsimp only at hI ⊢
            obtain ⟨j0, j1, hg, hT, hU⟩ := hI
            unfold f_Way_measure_s15
            by_cases r : j < 0
            · right
              refine ⟨g, by rw [if_pos r], hg, fun x y x0 x1 y0 y1 => ?_⟩
              by_cases z : x = i
              · rw [z]; exact hU y (by omega) y1
              · exact hT x y (by omega) x1 y0 y1
            · left
              obtain ⟨P', S', T', U', e1, e2, e3⟩ := fr g hg
              have hv : ∀ x y, i ≤ x → x ≤ h t 1 → j ≤ y → y ≤ h u 1 → i + j < x + y → g (o + 1) (x * 13 + y) = Dc h t u x y := fun x y a b c d f => by
                by_cases z : x = i
                · rw [z]; exact hU y (by omega) d
                · exact hT x y (by omega) b (by omega) d
              have lf := s_leastFrom (o := o) (i := i) (j := j) P' S' T' U' (by omega) (by omega) (by omega) (by omega) (fun x y a b c d f => by
                rw [e1] at b; rw [e2] at d
                rw [hv x y a b c d f]
                have := DS_b H (i := x) (j := y) (by omega) b (by omega) d
                change 0 ≤ DS _ _ _ _ _ _ x y ∧ DS _ _ _ _ _ _ x y ≤ _
                omega)
              rw [e3, DS_eq H (by omega) i1 (by omega) j1 hv] at lf
              refine ⟨(j - 1, xup g (o + 1) (i * 13 + j) (Dc h t u i j)), ?_, ⟨by dsimp only; omega, by dsimp only; omega, fun x hx => by dsimp only; rw [xup_row hx]; exact hg x hx, fun x y a b c d => ?_, fun y a b => ?_⟩, by dsimp only; omega⟩
              · rw [if_neg r, w32_id (z := i * 13) (by omega) (by omega), w32_id (z := i * 13 + j) (by omega) (by omega), xlet_eq, if_pos (by omega), lf, xc1_some, xgd_pos (by omega) (by omega), xlet_eq]
                unfold f_Way_measure_55
                rw [xlet_eq, w32_id (by omega) (by omega)]
                rfl
              · dsimp only
                rw [xup_ne_j (by omega)]
                exact hT x y a b c d
              · dsimp only at a ⊢
                by_cases z : y = j
                · rw [z, xup_same]
                · rw [xup_ne_j (by omega)]
                  exact hU y (by omega) b) ⟨by dsimp only; rw [hg u n3]; omega, by dsimp only; rw [hg u n3]; omega, hg, hT, fun y a b => by dsimp only at a; rw [hg u n3] at a; omega⟩
        rw [e, xc1_some]
        unfold f_Way_measure_61
        refine ⟨(i - 1, b), by rw [xlet_eq, w32_id (by omega) (by omega)]; rfl, ⟨by dsimp only; omega, by dsimp only; omega, hb.1, fun x y a b c d => hb.2 x y (by dsimp only at a; omega) b c d⟩, by dsimp only; omega⟩) ⟨by dsimp only; omega, by dsimp only; omega, fun _ _ => rfl, fun i j a b => by dsimp only at a; omega⟩
  rw [e, xc1_some]
  unfold f_Way_measure_67
  rw [xgd_pos (by omega) (by omega)]
  refine ⟨b, ?_, hb⟩
  have := hb.2 0 0 (by omega) (by omega) (by omega) (by omega)
  rw [show (0 : Int) = 0 * 13 + 0 from rfl, this]
  rfl
