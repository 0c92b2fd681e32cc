/-! WAYS: the first code of a least sum, the places it leads to -/
theorem least_i {p : Int → Prop} : ∀ (n : Nat) {c : Int}, 0 ≤ c → c.toNat ≤ n → p c → ∃ d, 0 ≤ d ∧ d ≤ c ∧ p d ∧ ∀ x, 0 ≤ x → x < d → ¬ p x
  | 0, c, h1, h2, h3 => ⟨c, h1, Int.le_refl _, h3, fun x a b => by omega⟩
  | n + 1, c, h1, h2, h3 => by
    by_cases q : ∃ x, 0 ≤ x ∧ x < c ∧ p x
    · obtain ⟨x, a, b, d⟩ := q
      obtain ⟨y, e1, e2, e3, e4⟩ := least_i n a (by omega) d
      exact ⟨y, e1, by omega, e3, e4⟩
    · exact ⟨c, h1, Int.le_refl _, h3, fun x a b d => q ⟨x, a, b, d⟩⟩
section
variable (sp : Int → Int → Int → Int) (ta tb : Int → Int) (K : Nat) (la lb : Int)
def isFc (i j c : Int) : Prop := 0 ≤ c ∧ c < (K : Int) ∧ vl sp ta tb (DS sp ta tb K la lb) i j c = DS sp ta tb K la lb i j ∧ ∀ x, 0 ≤ x → x < c → vl sp ta tb (DS sp ta tb K la lb) i j x ≠ DS sp ta tb K la lb i j
noncomputable def fc (i j : Int) : Int := Classical.epsilon (fun c => isFc sp ta tb K la lb i j c)
noncomputable def wP : Nat → Int × Int
  | 0 => (0, 0)
  | k + 1 => ((wP k).1 + ta (fc sp ta tb K la lb (wP k).1 (wP k).2), (wP k).2 + tb (fc sp ta tb K la lb (wP k).1 (wP k).2))
def wE (k : Nat) : Prop := (wP sp ta tb K la lb k).1 = la ∧ (wP sp ta tb K la lb k).2 = lb
end
section
variable {sp : Int → Int → Int → Int} {ta tb : Int → Int} {K : Nat} {la lb : Int}
theorem isFc_uniq {i j c d : Int} (hc : isFc sp ta tb K la lb i j c) (hd : isFc sp ta tb K la lb i j d) : c = d := by
  by_cases q : c < d
  · exact absurd hc.2.2.1 (hd.2.2.2 c hc.1 q)
  · by_cases r : d < c
    · exact absurd hd.2.2.1 (hc.2.2.2 d hd.1 r)
    · omega
theorem D_mnf (H : SPok sp ta tb K la lb) {i j : Int} (i0 : 0 ≤ i) (i1 : i ≤ la) (j0 : 0 ≤ j) (j1 : j ≤ lb) (ne : ¬ (i = la ∧ j = lb)) : DS sp ta tb K la lb i j = mnf (vl sp ta tb (DS sp ta tb K la lb) i j) K := by
  rw [DS_D H i j i0 i1 j0 j1]
  unfold rhs
  rw [if_neg ne]
theorem fc_is (H : SPok sp ta tb K la lb) {i j : Int} (i0 : 0 ≤ i) (i1 : i ≤ la) (j0 : 0 ≤ j) (j1 : j ≤ lb) (ne : ¬ (i = la ∧ j = lb)) : isFc sp ta tb K la lb i j (fc sp ta tb K la lb i j) := by
  have e := D_mnf H i0 i1 j0 j1 ne
  have b := DS_b H i0 i1 j0 j1
  rcases mnf_at (f := vl sp ta tb (DS sp ta tb K la lb) i j) (n := K) with z | ⟨c, c0, c1, c2⟩
  · omega
  · obtain ⟨d, d0, d1, d2, d3⟩ := least_i (p := fun x => vl sp ta tb (DS sp ta tb K la lb) i j x = DS sp ta tb K la lb i j) c.toNat c0 (Nat.le_refl _) (by rw [e, c2])
    exact Classical.epsilon_spec (p := fun c => isFc sp ta tb K la lb i j c) ⟨d, d0, by omega, d2, d3⟩
theorem fc_to (H : SPok sp ta tb K la lb) {i j : Int} (i0 : 0 ≤ i) (i1 : i ≤ la) (j0 : 0 ≤ j) (j1 : j ≤ lb) {c : Int} (hc : isFc sp ta tb K la lb i j c) : sp c i j ≠ -1 ∧ 0 ≤ sp c i j ∧ sp c i j ≤ 9999 ∧ 0 ≤ ta c ∧ 0 ≤ tb c ∧ ta c ≤ 3 ∧ tb c ≤ 3 ∧ 1 ≤ ta c + tb c ∧ i + ta c ≤ la ∧ j + tb c ≤ lb := by
  have b := DS_b H i0 i1 j0 j1
  obtain ⟨c0, c1, c2, -⟩ := hc
  have q : sp c i j ≠ -1 := fun z => by unfold vl at c2; rw [if_pos z] at c2; omega
  obtain ⟨-, -, -, -, -, -, -, -, g9, g10⟩ := H
  have := g9 c c0 c1
  have := g10 c i j c0 c1 i0 i1 j0 j1 q
  exact ⟨q, by omega, by omega, by omega, by omega, by omega, by omega, by omega, by omega, by omega⟩
theorem wE_uniq {n m : Nat} (h1 : ∀ k, k < n → ¬ wE sp ta tb K la lb k) (h2 : wE sp ta tb K la lb n) (h3 : ∀ k, k < m → ¬ wE sp ta tb K la lb k) (h4 : wE sp ta tb K la lb m) : n = m := by
  by_cases q : n < m
  · exact absurd h2 (h3 n q)
  · by_cases r : m < n
    · exact absurd h4 (h1 m r)
    · omega
end
/-- a way, as rows of a heap hold it -/
def wyR (sp : Int → Int → Int → Int) (ta tb : Int → Int) (K : Nat) (la lb : Int) (n : Nat) (r1 r2 r3 r4 : Int → Int) : Prop := ∀ k : Nat, k < n → r1 k = fc sp ta tb K la lb (wP sp ta tb K la lb k).1 (wP sp ta tb K la lb k).2 ∧ r2 k = sp (fc sp ta tb K la lb (wP sp ta tb K la lb k).1 (wP sp ta tb K la lb k).2) (wP sp ta tb K la lb k).1 (wP sp ta tb K la lb k).2 ∧ r3 k = (wP sp ta tb K la lb k).1 ∧ r4 k = (wP sp ta tb K la lb k).2
theorem s_firstCode {h : xH} {o t u i j : Int} (hP : Pr h) (hS : So h) (ht : TQ t h) (hu : TQ u h) (i0 : 0 ≤ i) (i1 : i ≤ h t 1) (j0 : 0 ≤ j) (j1 : j ≤ h u 1) (ne : ¬ (i = h t 1 ∧ j = h u 1))
    (hT : ∀ x y, 0 ≤ x → x ≤ h t 1 → 0 ≤ y → y ≤ h u 1 → h (o + 1) (x * 13 + y) = Dc h t u x y) : f_Way_firstCode o t i u j h = some (fc (sp h (tp h t) (tp h u)) (tA h) (tB h) (7 + h 14 2).toNat (h t 1) (h u 1) i j) := by
  have H := cs_ok hP hS ht hu
  have b20 : h 14 2 ≤ 20 := hS.1.2.2.2.2.1
  have bn : 0 ≤ h 14 2 := hS.1.2.2.2.1
  have hT' : ∀ x y, i ≤ x → x ≤ h t 1 → j ≤ y → y ≤ h u 1 → i + j < x + y → 0 ≤ h (o + 1) (x * 13 + y) ∧ h (o + 1) (x * 13 + y) ≤ 1000000 := fun x y a b c d _ => by
    rw [hT x y (by omega) b (by omega) d]
    have := DS_b H (i := x) (j := y) (by omega) b (by omega) d
    change 0 ≤ DS _ _ _ _ _ _ x y ∧ DS _ _ _ _ _ _ x y ≤ _
    omega
  have sb : ∀ c, 0 ≤ c → c < 7 + h 14 2 → f_Way_sumBy o c t i u j h = some (vl (sp h (tp h t) (tp h u)) (tA h) (tB h) (Dc h t u) i j c) := fun c c0 c1 => by
    rw [s_sumBy hP hS ht hu c0 c1 i0 i1 j0 j1 hT']
    obtain ⟨-, -, -, -, -, -, -, -, g9, g10⟩ := H
    have a := g9 c c0 (by omega)
    unfold vl
    by_cases q : sp h (tp h t) (tp h u) c i j = -1
    · rw [if_pos q, if_pos q]
    · have b := g10 c i j c0 (by omega) i0 i1 j0 j1 q
      rw [if_neg q, if_neg q]
      dsimp only
      rw [hT (i + tA h c) (j + tB h c) (by omega) (by omega) (by omega) (by omega)]
  unfold f_Way_firstCode f_Way_firstCode_6
  obtain ⟨b, e, hb⟩ := xloop_W (step := fun s : Int × Int => f_Way_firstCode_s6 o t i u j s.1 s.2 h) (I := fun s => 0 ≤ s.1 ∧ s.1 < s.2 ∧ s.2 ≤ 7 + h 14 2 ∧ (∀ x, 0 ≤ x → x < s.2 → vl (sp h (tp h t) (tp h u)) (tA h) (tB h) (Dc h t u) i j s.1 ≤ vl (sp h (tp h t) (tp h u)) (tA h) (tB h) (Dc h t u) i j x) ∧ ∀ x, 0 ≤ x → x < s.1 → vl (sp h (tp h t) (tp h u)) (tA h) (tB h) (Dc h t u) i j s.1 < vl (sp h (tp h t) (tp h u)) (tA h) (tB h) (Dc h t u) i j x) (fun s => (7 + h 14 2 - s.2).toNat)
    (post := fun b => isFc (sp h (tp h t) (tp h u)) (tA h) (tB h) (7 + h 14 2).toNat (h t 1) (h u 1) i j b) (s := (0, 1)) (by
      rintro ⟨v, c⟩ hI
      dsimp only at hI ⊢
      obtain ⟨v0, v1, c1, m1, m2⟩ := hI
      unfold f_Way_firstCode_s6 f_Way_firstCode_47
      rw [s_codes hS, xc1_some]
      by_cases q : c < 7 + h 14 2
      · left
        rw [if_pos q, sb c (by omega) q, xc1_some, sb v v0 (by omega), xc1_some, w32_id (by omega) (by omega)]
        by_cases r : vl (sp h (tp h t) (tp h u)) (tA h) (tB h) (Dc h t u) i j c < vl (sp h (tp h t) (tp h u)) (tA h) (tB h) (Dc h t u) i j v
        · rw [if_pos r]
          refine ⟨(c, c + 1), rfl, ⟨by dsimp only; omega, by dsimp only; omega, by dsimp only; omega, fun x a b => ?_, fun x a b => ?_⟩, by dsimp only; omega⟩
          · dsimp only at b ⊢
            by_cases z : x = c
            · rw [z]; omega
            · have := m1 x a (by omega); omega
          · dsimp only at b ⊢
            have := m1 x a b; omega
        · rw [if_neg r]
          refine ⟨(v, c + 1), rfl, ⟨by dsimp only; omega, by dsimp only; omega, by dsimp only; omega, fun x a b => ?_, fun x a b => m2 x a b⟩, by dsimp only; omega⟩
          dsimp only at b ⊢
          by_cases z : x = c
          · rw [z]; omega
          · exact m1 x a (by omega)
      · right
        refine ⟨v, by rw [if_neg q], v0, by omega, ?_, ?_⟩
        · have e := D_mnf H i0 i1 j0 j1 ne
          have bb := DS_b H i0 i1 j0 j1
          have le := mnf_le (f := vl (sp h (tp h t) (tp h u)) (tA h) (tB h) (Dc h t u) i j) (n := (7 + h 14 2).toNat) v0 (by omega)
          have at' := mnf_at (f := vl (sp h (tp h t) (tp h u)) (tA h) (tB h) (Dc h t u) i j) (n := (7 + h 14 2).toNat)
          change Dc h t u i j = mnf (vl _ _ _ (Dc h t u) i j) _ at e
          change 0 ≤ Dc h t u i j ∧ Dc h t u i j ≤ _ at bb
          change vl _ _ _ (Dc h t u) i j v = Dc h t u i j
          rcases at' with z | ⟨d, d0, d1, d2⟩
          · omega
          · have := m1 d d0 (by omega)
            omega
        · intro x x0 x1
          have e := D_mnf H i0 i1 j0 j1 ne
          have le := mnf_le (f := vl (sp h (tp h t) (tp h u)) (tA h) (tB h) (Dc h t u) i j) (n := (7 + h 14 2).toNat) v0 (by omega)
          have := m2 x x0 x1
          change Dc h t u i j = mnf (vl _ _ _ (Dc h t u) i j) _ at e
          change vl _ _ _ (Dc h t u) i j x ≠ Dc h t u i j
          omega) ⟨by dsimp only; omega, by dsimp only; omega, by dsimp only; omega, fun x a b => by
            dsimp only at b ⊢
            rw [show x = 0 by omega]; exact Int.le_refl _, fun x a b => by dsimp only at b; omega⟩
  rw [e, xc1_some]
  unfold f_Way_firstCode_53
  rw [isFc_uniq hb (fc_is H i0 i1 j0 j1 ne)]
theorem s_trace {h : xH} {o t u : Int} (ho : o = 28 ∨ o = 34) (hP : Pr h) (hS : So h) (ht : TQ t h) (hu : TQ u h) (nt : t + 1 < o ∨ o + 6 ≤ t) (nu : u + 1 < o ∨ o + 6 ≤ u)
    (hT : ∀ x y, 0 ≤ x → x ≤ h t 1 → 0 ≤ y → y ≤ h u 1 → h (o + 1) (x * 13 + y) = Dc h t u x y) : ∃ (h' : xH) (n : Nat), f_Way_trace o t u h = some h' ∧ (∀ x, x ≠ o → x ≠ o + 2 → x ≠ o + 3 → x ≠ o + 4 → x ≠ o + 5 → h' x = h x) ∧ h' o 6 = n ∧ n ≤ 24 ∧ (∀ k, k < n → ¬ wE (sp h (tp h t) (tp h u)) (tA h) (tB h) (7 + h 14 2).toNat (h t 1) (h u 1) k) ∧ wE (sp h (tp h t) (tp h u)) (tA h) (tB h) (7 + h 14 2).toNat (h t 1) (h u 1) n ∧ wyR (sp h (tp h t) (tp h u)) (tA h) (tB h) (7 + h 14 2).toNat (h t 1) (h u 1) n (h' (o + 2)) (h' (o + 3)) (h' (o + 4)) (h' (o + 5)) := by
  have H := cs_ok hP hS ht hu
  have t1 := ht.1
  have t2 := ht.2.1
  have u1 := hu.1
  have u2 := hu.2.1
  have b20 : h 14 2 ≤ 20 := hS.1.2.2.2.2.1
  have bn : 0 ≤ h 14 2 := hS.1.2.2.2.1
  have fr : ∀ g : xH, (∀ x, x ≠ o → x ≠ o + 2 → x ≠ o + 3 → x ≠ o + 4 → x ≠ o + 5 → g x = h x) → Pr g ∧ So g ∧ TQ t g ∧ TQ u g ∧ g t 1 = h t 1 ∧ g u 1 = h u 1 ∧ sp g = sp h ∧ tA g = tA h ∧ tB g = tB h ∧ g 14 = h 14 ∧ tp g t = tp h t ∧ tp g u = tp h u ∧ g (o + 1) = h (o + 1) := by
    intro g hg
    have og : off [28, 30, 31, 32, 33, 34, 36, 37, 38, 39] [] h g := ⟨fun x h0 hn => by
      rcases ho with rfl | rfl
      · exact hg x (fun z => hn (by simp [z])) (fun z => hn (by simp [z])) (fun z => hn (by simp [z])) (fun z => hn (by simp [z])) (fun z => hn (by simp [z]))
      · exact hg x (fun z => hn (by simp [z])) (fun z => hn (by simp [z])) (fun z => hn (by simp [z])) (fun z => hn (by simp [z])) (fun z => hn (by simp [z])), fun x _ => by rw [hg 81 (by omega) (by omega) (by omega) (by omega) (by omega)]⟩
    have e : ∀ x, 10 ≤ x → x ≤ 20 → g x = h x := fun x a b => hg x (by omega) (by omega) (by omega) (by omega) (by omega)
    have et0 := hg t (by omega) (by omega) (by omega) (by omega) (by omega)
    have et1 := hg (t + 1) (by omega) (by omega) (by omega) (by omega) (by omega)
    have eu0 := hg u (by omega) (by omega) (by omega) (by omega) (by omega)
    have eu1 := hg (u + 1) (by omega) (by omega) (by omega) (by omega) (by omega)
    refine ⟨Pr_off og (by decide) hP, So_off og (by decide) hS, ?_, ?_, by rw [et0], by rw [eu0], sp_cg e, tA_cg e, tB_cg e, e 14 (by decide) (by decide), by unfold tp; rw [et0, et1], by unfold tp; rw [eu0, eu1], hg (o + 1) (by omega) (by omega) (by omega) (by omega) (by omega)⟩
    · unfold TQ; rw [et0, et1]; exact ht
    · unfold TQ; rw [eu0, eu1]; exact hu
  unfold f_Way_trace f_Way_trace_10
  rw [xlet_eq]
  obtain ⟨b, e, hb⟩ := xloop_W (step := fun s : Int × Int × xH => f_Way_trace_s10 o t u s.1 s.2.1 s.2.2) (I := fun s => ∃ k : Nat, s.1 = (wP (sp h (tp h t) (tp h u)) (tA h) (tB h) (7 + h 14 2).toNat (h t 1) (h u 1) k).1 ∧ s.2.1 = (wP (sp h (tp h t) (tp h u)) (tA h) (tB h) (7 + h 14 2).toNat (h t 1) (h u 1) k).2 ∧ 0 ≤ s.1 ∧ s.1 ≤ h t 1 ∧ 0 ≤ s.2.1 ∧ s.2.1 ≤ h u 1 ∧ (k : Int) ≤ s.1 + s.2.1 ∧ (∀ x, x ≠ o → x ≠ o + 2 → x ≠ o + 3 → x ≠ o + 4 → x ≠ o + 5 → s.2.2 x = h x) ∧ s.2.2 o 6 = k ∧ (∀ m, m < k → ¬ wE (sp h (tp h t) (tp h u)) (tA h) (tB h) (7 + h 14 2).toNat (h t 1) (h u 1) m) ∧ wyR (sp h (tp h t) (tp h u)) (tA h) (tB h) (7 + h 14 2).toNat (h t 1) (h u 1) k (s.2.2 (o + 2)) (s.2.2 (o + 3)) (s.2.2 (o + 4)) (s.2.2 (o + 5))) (fun s => (24 - s.1 - s.2.1).toNat)
    (post := fun b => ∃ n : Nat, (∀ x, x ≠ o → x ≠ o + 2 → x ≠ o + 3 → x ≠ o + 4 → x ≠ o + 5 → b x = h x) ∧ b o 6 = n ∧ n ≤ 24 ∧ (∀ m, m < n → ¬ wE (sp h (tp h t) (tp h u)) (tA h) (tB h) (7 + h 14 2).toNat (h t 1) (h u 1) m) ∧ wE (sp h (tp h t) (tp h u)) (tA h) (tB h) (7 + h 14 2).toNat (h t 1) (h u 1) n ∧ wyR (sp h (tp h t) (tp h u)) (tA h) (tB h) (7 + h 14 2).toNat (h t 1) (h u 1) n (b (o + 2)) (b (o + 3)) (b (o + 4)) (b (o + 5))) (s := (0, 0, xup h o 6 0)) (by
      rintro ⟨i, j, g⟩ hI
      dsimp only at hI ⊢
      obtain ⟨k, ei, ej, i0, i1, j0, j1, kk, hg, ek, hne, hw⟩ := hI
      unfold f_Way_trace_s10
      by_cases q : i = h t 1 ∧ j = h u 1
      · right
        obtain ⟨P', S', T', U', e1, e2, e3, e4, e5, e6, e7, e8, e9⟩ := fr g hg
        refine ⟨g, ?_, k, hg, ek, by omega, hne, ⟨by rw [← ei]; exact q.1, by rw [← ej]; exact q.2⟩, hw⟩
        rw [e1, e2, if_neg (c := i < h t 1) (by omega), if_neg (c := j < h u 1) (by omega)]
        split <;> rfl
      · left
        obtain ⟨P', S', T', U', e1, e2, e3, e4, e5, e6, e7, e8, e9⟩ := fr g hg
        have F := fc_is H i0 i1 j0 j1 q
        obtain ⟨f1, f2, f3, f4, f5, f6, f7, f8, f9, f10⟩ := fc_to H i0 i1 j0 j1 F
        have F0 := F.1
        have F1 := F.2.1
        have dc : Dc g t u = Dc h t u := by unfold Dc; rw [e1, e2, e3, e4, e5, e6, e7, e8]
        have c1 := s_firstCode (o := o) (i := i) (j := j) P' S' T' U' i0 (by omega) j0 (by omega) (by rw [e1, e2]; exact q) (fun x y a b c d => by rw [e9, dc]; exact hT x y a (by omega) c (by omega))
        rw [e1, e2, e3, e4, e5, e6, e7, e8] at c1
        have wi : (wP (sp h (tp h t) (tp h u)) (tA h) (tB h) (7 + h 14 2).toNat (h t 1) (h u 1) (k + 1)).1 = i + tA h (fc (sp h (tp h t) (tp h u)) (tA h) (tB h) (7 + h 14 2).toNat (h t 1) (h u 1) i j) := by rw [ei, ej]; rfl
        have wj : (wP (sp h (tp h t) (tp h u)) (tA h) (tB h) (7 + h 14 2).toNat (h t 1) (h u 1) (k + 1)).2 = j + tB h (fc (sp h (tp h t) (tp h u)) (tA h) (tB h) (7 + h 14 2).toNat (h t 1) (h u 1) i j) := by rw [ei, ej]; rfl
        have nek : ¬ wE (sp h (tp h t) (tp h u)) (tA h) (tB h) (7 + h 14 2).toNat (h t 1) (h u 1) k := fun z => q ⟨by rw [ei]; exact z.1, by rw [ej]; exact z.2⟩
        generalize hc : fc (sp h (tp h t) (tp h u)) (tA h) (tB h) (7 + h 14 2).toNat (h t 1) (h u 1) i j = c at *
        have r0 : o + 2 ≠ o ∧ o + 3 ≠ o ∧ o + 4 ≠ o ∧ o + 5 ≠ o := by omega
        have st : ∃ g', f_Way_trace_36 o t u i j g = some (Sum.inl (i + tA h c, j + tB h c, g')) ∧ g' = xup (xup (xup (xup (xup g (o + 2) k c) (o + 3) k (sp h (tp h t) (tp h u) c i j)) (o + 4) k i) (o + 5) k j) o 6 (k + 1) := by
          have ga := fr (xup g (o + 2) k c) (fun x a b _ _ _ => by rw [xup_row b]; exact hg x a b (by assumption) (by assumption) (by assumption))
          obtain ⟨P2, S2, T2, U2, a1, a2, a3, a4, a5, a6, a7, a8, a9⟩ := ga
          have p1 := s_priceAt (c := c) (i := i) (j := j) S2 T2 U2 F0 (by rw [a6]; omega) i0 (by omega) j0 (by omega)
          rw [a3, a7, a8] at p1
          have gb := fr (xup (xup (xup (xup (xup g (o + 2) k c) (o + 3) k (sp h (tp h t) (tp h u) c i j)) (o + 4) k i) (o + 5) k j) o 6 (k + 1)) (fun x a b c d e => by
            rw [xup_row a, xup_row e, xup_row d, xup_row c, xup_row b]; exact hg x a b c d e)
          obtain ⟨P3, S3, T3, U3, d1, d2, d3, d4, d5, d6, d7, d8, d9⟩ := gb
          have m1 := s_meantTaken (c := c) S3 F0 (by rw [d6]; omega)
          have m2 := s_typedTaken (c := c) S3 F0 (by rw [d6]; omega)
          rw [d4] at m1
          rw [d5] at m2
          refine ⟨_, ?_, rfl⟩
          unfold f_Way_trace_36
          rw [c1, xc1_some, ek, xgd_pos (by omega) (by omega), xlet_eq, p1, xc1_some, xup_row (o' := o) (by omega), ek, xgd_pos (by omega) (by omega), xlet_eq, xup_row (o' := o) (by omega), xup_row (o' := o) (by omega), ek, xgd_pos (by omega) (by omega), xlet_eq, xup_row (o' := o) (by omega), xup_row (o' := o) (by omega), xup_row (o' := o) (by omega), ek, xgd_pos (by omega) (by omega), xlet_eq, xup_row (o' := o) (by omega), xup_row (o' := o) (by omega), xup_row (o' := o) (by omega), xup_row (o' := o) (by omega), ek, w32_id (z := (k : Int) + 1) (by omega) (by omega), xlet_eq, m1, xc1_some, m2, w32_id (by omega) (by omega), xlet_eq, xc1_some, w32_id (by omega) (by omega), xlet_eq]
        obtain ⟨g', s1, s2⟩ := st
        refine ⟨(i + tA h c, j + tB h c, g'), ?_, ⟨k + 1, wi.symm, wj.symm, by dsimp only; omega, f9, by dsimp only; omega, f10, by dsimp only; omega, fun x a b c d e => ?_, ?_, fun m hm => ?_, ?_⟩, by dsimp only; omega⟩
        · rw [e1, e2, ek, if_pos (by omega)]
          by_cases z : i < h t 1
          · rw [if_pos z, s1]
          · rw [if_neg z, if_pos (by omega), s1]
        · dsimp only
          rw [s2, xup_row a, xup_row e, xup_row d, xup_row c, xup_row b]
          exact hg x a b c d e
        · dsimp only
          rw [s2, xup_same]
          rfl
        · by_cases z : m = k
          · rw [z]; exact nek
          · exact hne m (by omega)
        · dsimp only
          intro m hm
          rw [s2]
          simp (disch := omega) only [xup_row (o' := o + 2), xup_row (o' := o + 3), xup_row (o' := o + 4), xup_row (o' := o + 5)]
          by_cases z : m = k
          · rw [z, xup_same, xup_same, xup_same, xup_same, ← ei, ← ej, hc]
            exact ⟨rfl, rfl, rfl, rfl⟩
          · rw [xup_ne_j (by omega), xup_ne_j (by omega), xup_ne_j (by omega), xup_ne_j (by omega)]
            simp (disch := omega) only [xup_row (o' := o + 2), xup_row (o' := o + 3), xup_row (o' := o + 4), xup_row (o' := o + 5)]
            exact hw m (by omega)) ⟨0, rfl, rfl, by dsimp only; omega, by dsimp only; omega, by dsimp only; omega, by dsimp only; omega, by dsimp only; omega, fun x a _ _ _ _ => by dsimp only; rw [xup_row a], by dsimp only; rw [xup_same]; rfl, fun m hm => by omega, fun m hm => by omega⟩
  rw [e, xc1_some]
  obtain ⟨n, hb⟩ := hb
  exact ⟨b, n, rfl, hb⟩
