/-! LEARNING: the ways of the pairs by one set of prices; the class's round -/
/-- the heap with other prices of the kinds -/
def hK (κ : Int → Int) (h : xH) : xH := fun o j => if o = 10 then κ j else h o j
theorem hK_10 {κ : Int → Int} {h : xH} : hK κ h 10 = κ := by
  funext j
  unfold hK
  rw [if_pos rfl]
theorem hK_row {κ : Int → Int} {h : xH} {o : Int} (ho : o ≠ 10) : hK κ h o = h o := by
  funext j
  unfold hK
  rw [if_neg ho]
def KO (h : xH) (κ : Int → Int) : Prop := (∀ k, 1 ≤ k → k ≤ 6 → 1 ≤ κ k ∧ κ k ≤ 9999) ∧ ∀ j, (j < 1 ∨ 6 < j) → κ j = h 10 j
theorem KO_h {h : xH} (hP : Pr h) : KO h (h 10) := ⟨fun k a b => (hP.1 k a b).2, fun _ _ => rfl⟩
theorem hK_C {h : xH} {κ : Int → Int} (hP : Pr h) (hk : KO h κ) : PrC (hK κ h) := by
  have c := Pr_c hP
  unfold PrC
  rw [hK_10, hK_row (o := 11) (by decide), hK_row (o := 12) (by decide), hK_row (o := 13) (by decide)]
  exact ⟨hk.1, c.2⟩
theorem hK_S {h : xH} {κ : Int → Int} (hS : So h) : So (hK κ h) := So_off (R := [10]) (K := []) ⟨fun o _ hn => hK_row (fun z => hn (by simp [z])), fun j _ => by rw [hK_row (by decide)]⟩ (by decide) hS
theorem hK_A {h : xH} {κ : Int → Int} (hA : Pa h) : Pa (hK κ h) := Pa_off (R := [10]) (K := []) ⟨fun o _ hn => hK_row (fun z => hn (by simp [z])), fun j _ => by rw [hK_row (by decide)]⟩ (by decide) hA
/-- the way of a pair: how many slips, which codes -/
def wSt (H : xH) (p : Int) (n : Nat) : Prop := (∀ k, k < n → ¬ wE (sp H (rp H 40 p) (rp H 43 p)) (tA H) (tB H) (7 + H 14 2).toNat (H 42 p) (H 45 p) k) ∧ wE (sp H (rp H 40 p) (rp H 43 p)) (tA H) (tB H) (7 + H 14 2).toNat (H 42 p) (H 45 p) n
noncomputable def wN (H : xH) (p : Int) : Nat := Classical.epsilon (wSt H p)
noncomputable def wC (H : xH) (p : Int) (k : Nat) : Int := fc (sp H (rp H 40 p) (rp H 43 p)) (tA H) (tB H) (7 + H 14 2).toNat (H 42 p) (H 45 p) (wP (sp H (rp H 40 p) (rp H 43 p)) (tA H) (tB H) (7 + H 14 2).toNat (H 42 p) (H 45 p) k).1 (wP (sp H (rp H 40 p) (rp H 43 p)) (tA H) (tB H) (7 + H 14 2).toNat (H 42 p) (H 45 p) k).2
noncomputable def cd (H : xH) (p k : Int) : Int := if k < (wN H p : Int) then wC H p k.toNat else -1
theorem wN_of {H : xH} {p : Int} {n : Nat} (h : wSt H p n) : wN H p = n := by
  have e : wSt H p (wN H p) := Classical.epsilon_spec ⟨n, h⟩
  exact wE_uniq e.1 e.2 h.1 h.2
theorem pr_okC {h : xH} (hP : PrC h) (hS : So h) (hA : Pa h) {p : Int} (p0 : 0 ≤ p) (p1 : p < h 40 2) : SPok (sp h (rp h 40 p) (rp h 43 p)) (tA h) (tB h) (7 + h 14 2).toNat (h 42 p) (h 45 p) := by
  obtain ⟨R1, R2, e1, -⟩ := hA
  obtain ⟨a1, a2, a3⟩ := RO_let R1 p0 p1
  obtain ⟨b1, b2, b3⟩ := RO_let R2 p0 (by rw [e1]; exact p1)
  simp only [Int.reduceAdd] at a1 a2 a3 b1 b2 b3
  have a0 : 0 ≤ h 42 p := by omega
  have b0 : 0 ≤ h 45 p := by omega
  exact sp_okC hP hS a0 a2 b0 b2 a3 b3
/-- a way's codes -/
theorem wC_b {H : xH} (hP : PrC H) (hS : So H) (hA : Pa H) {p : Int} (p0 : 0 ≤ p) (p1 : p < H 40 2) {n : Nat} (hn : wSt H p n) {k : Nat} (hk : k < n) : 0 ≤ wC H p k ∧ wC H p k ≤ 26 := by
  have Hs := pr_okC hP hS hA p0 p1
  obtain ⟨i1, i2, i3, i4⟩ := wP_in Hs (k := k) (fun m hm => hn.1 m (by omega))
  have F := fc_is Hs i1 i2 i3 i4 (fun z => hn.1 k hk z)
  have b20 : H 14 2 ≤ 20 := hS.1.2.2.2.2.1
  have F0 := F.1
  have F1 := F.2.1
  unfold wC
  omega
/-- a way isn't empty -/
theorem wSt_1 {H : xH} (hA : Pa H) {p : Int} (p0 : 0 ≤ p) (p1 : p < H 40 2) {n : Nat} (hn : wSt H p n) : 1 ≤ n := by
  obtain ⟨R1, -⟩ := hA
  obtain ⟨a1, a2, a3⟩ := RO_let R1 p0 p1
  simp only [Int.reduceAdd] at a1
  cases n with
  | zero =>
    have := hn.2.1
    change (0 : Int) = H 42 p at this
    omega
  | succ n => omega
/-- how often a code is among the first -/
def cnN (f : Int → Int) (c : Int) : Nat → Int
  | 0 => 0
  | k + 1 => cnN f c k + if f k = c then 1 else 0
theorem cnN_b {f : Int → Int} {c : Int} : ∀ n : Nat, 0 ≤ cnN f c n ∧ cnN f c n ≤ n
  | 0 => ⟨Int.le_refl _, Int.le_refl _⟩
  | n + 1 => by
    have := cnN_b (f := f) (c := c) n
    show 0 ≤ cnN f c n + _ ∧ cnN f c n + _ ≤ _
    split <;> omega
noncomputable def cT (H : xH) (c : Int) : Nat → Int
  | 0 => 0
  | p + 1 => cT H c p + cnN (cd H p) c 24
theorem cT_b {H : xH} {c : Int} : ∀ n : Nat, 0 ≤ cT H c n ∧ cT H c n ≤ 24 * n
  | 0 => ⟨Int.le_refl _, Int.le_refl _⟩
  | n + 1 => by
    have a := cT_b (H := H) (c := c) n
    have b := cnN_b (f := cd H n) (c := c) 24
    show 0 ≤ cT H c n + _ ∧ cT H c n + _ ≤ _
    omega
theorem s_fillA {h : xH} {o v : Int} (hn : (xN o : Int) ≤ 100000) : f_Arr_fill o v h = some (hLay o 0 (xN o : Int) (fun _ => v) h) := by
  unfold f_Arr_fill f_Arr_fill_5
  rw [xlet_eq]
  have key := xloop_T (step := fun s : Int × xH => f_Arr_fill_s5 o v s.1 (xN o : Int) s.2) (fun k => ((k : Int), hLay o 0 k (fun _ => v) h)) (xN o) (s0 := (0, h)) (b := hLay o 0 (xN o : Int) (fun _ => v) h) (by rw [show ((0 : Nat) : Int) = 0 from rfl, hLay_0])
    (fun k hk => by
      dsimp only [f_Arr_fill_s5]
      have sc := hLay_succ (o := o) (p := 0) (n := k) (f := fun _ => v) (h := h) (by omega)
      rw [Int.zero_add] at sc
      rw [if_pos (by omega), xgd_pos (by omega) (by omega), xlet_eq, w32_id (by omega) (by omega), xlet_eq, sc]
      rfl)
    (by
      dsimp only [f_Arr_fill_s5]
      rw [if_neg (by omega)])
  rw [key, xc1_some]
  rfl
theorem s_note {y : xH} {p : Int} {f : Int → Int} (p0 : 0 ≤ p) (p1 : p < 40) (hc : ∀ k, 0 ≤ k → k < 24 → (if k < y 34 6 then y 36 k else -1) = f k) (hr : ∀ k, 0 ≤ k → k < 24 → -1 ≤ f k ∧ f k ≤ 26) (hb : ∀ c, 0 ≤ c → c < 7 → 0 ≤ y 47 c ∧ y 47 c ≤ 2000) :
    ∃ r y', f_WM_noteWay (p * 24) y = some (r, y') ∧ off [46, 47] [] y y' ∧ (r = 1 ∧ (∀ k, 0 ≤ k → k < 24 → y 46 (p * 24 + k) = f k) ∨ r = 0 ∧ ∃ k, 0 ≤ k ∧ k < 24 ∧ y 46 (p * 24 + k) ≠ f k) ∧ (∀ k, 0 ≤ k → k < 24 → y' 46 (p * 24 + k) = f k) ∧ (∀ c, (c < p * 24 ∨ p * 24 + 24 ≤ c) → y' 46 c = y 46 c) ∧ ∀ c, 0 ≤ c → c < 7 → y' 47 c = y 47 c + cnN f c 24 := by
  unfold f_WM_noteWay f_WM_noteWay_4
  obtain ⟨⟨r, g⟩, e, e1, e2, e3, e4, e5⟩ := xloop_W (step := fun s : Int × Int × xH => f_WM_noteWay_s4 (p * 24) s.1 s.2.1 s.2.2)
    (I := fun s => 0 ≤ s.2.1 ∧ s.2.1 ≤ 24 ∧ off [46, 47] [] y s.2.2 ∧ (s.1 = 1 ∧ (∀ k, 0 ≤ k → k < s.2.1 → y 46 (p * 24 + k) = f k) ∨ s.1 = 0 ∧ ∃ k, 0 ≤ k ∧ k < s.2.1 ∧ y 46 (p * 24 + k) ≠ f k) ∧ (∀ k, 0 ≤ k → k < s.2.1 → s.2.2 46 (p * 24 + k) = f k) ∧ (∀ c, (c < p * 24 ∨ p * 24 + s.2.1 ≤ c) → s.2.2 46 c = y 46 c) ∧ ∀ c, 0 ≤ c → c < 7 → s.2.2 47 c = y 47 c + cnN f c s.2.1.toNat) (fun s => (24 - s.2.1).toNat)
    (post := fun s => off [46, 47] [] y s.2 ∧ (s.1 = 1 ∧ (∀ k, 0 ≤ k → k < 24 → y 46 (p * 24 + k) = f k) ∨ s.1 = 0 ∧ ∃ k, 0 ≤ k ∧ k < 24 ∧ y 46 (p * 24 + k) ≠ f k) ∧ (∀ k, 0 ≤ k → k < 24 → s.2 46 (p * 24 + k) = f k) ∧ (∀ c, (c < p * 24 ∨ p * 24 + 24 ≤ c) → s.2 46 c = y 46 c) ∧ ∀ c, 0 ≤ c → c < 7 → s.2 47 c = y 47 c + cnN f c 24) (s := (1, 0, y)) (by
      rintro ⟨b, k, z⟩ hI
      dsimp only at hI ⊢
      obtain ⟨k0, k1, zo, zs, zf, zc, zn⟩ := hI
      unfold f_WM_noteWay_s4
      by_cases q : k < 24
      · left
        have cA : f_Way_codeAt 34 k z = some (f k) := by
          rw [← hc k k0 q]
          unfold f_Way_codeAt
          rw [zo.1 34 (by decide) (by decide), zo.1 (34 + 2) (by decide) (by decide), if_neg (by omega)]
          by_cases c : k < y 34 6
          · rw [if_pos c, if_pos q, xgd_pos k0 (by omega), if_pos c]
            rfl
          · rw [if_neg c, if_neg c]
        rw [if_pos q, cA, xc1_some]
        have fr := hr k k0 q
        -- the codes' part
        have tl : ∀ z' : xH, z' 46 = z 46 → ∃ b', f_WM_noteWay_46 (p * 24) b k (f k) z' = some (Sum.inl (b', k + 1, xup z' 46 (p * 24 + k) (f k))) ∧ (b' = 1 ∧ b = 1 ∧ y 46 (p * 24 + k) = f k ∨ b' = 0 ∧ (b = 0 ∨ y 46 (p * 24 + k) ≠ f k)) := by
          intro z' hz'
          have e46 : z' 46 (p * 24 + k) = y 46 (p * 24 + k) := by rw [hz']; exact zc _ (by omega)
          unfold f_WM_noteWay_46 f_WM_noteWay_86 f_WM_noteWay_87 f_WM_noteWay_97
          rw [w32_id (z := p * 24 + k) (by omega) (by omega), xlet_eq, if_neg (by omega), if_pos (by omega), xgd_pos (by omega) (by omega), xgd_pos (by omega) (by omega), xgd_pos (by omega) (by omega), xlet_eq, xlet_eq, w32_id (z := k + 1) (by omega) (by omega), xlet_eq, xlet_eq, e46]
          by_cases c : b = 0
          · exact ⟨0, by rw [if_pos c], Or.inr ⟨rfl, Or.inl c⟩⟩
          · have b1 : b = 1 := by rcases zs with ⟨a, _⟩ | ⟨a, _⟩ <;> omega
            rw [if_neg c]
            by_cases c2 : y 46 (p * 24 + k) = f k
            · exact ⟨1, by rw [if_pos c2], Or.inl ⟨rfl, b1, c2⟩⟩
            · exact ⟨0, by rw [if_neg c2], Or.inr ⟨rfl, Or.inr c2⟩⟩
        have nx : ∀ c, cnN f c (k + 1).toNat = cnN f c k.toNat + if f k = c then 1 else 0 := fun c => by
          rw [show (k + 1).toNat = k.toNat + 1 by omega]
          show cnN f c k.toNat + (if f ((k.toNat : Nat) : Int) = c then 1 else 0) = _
          rw [show ((k.toNat : Nat) : Int) = k by omega]
        have fin : ∀ z' : xH, z' 46 = z 46 → off [46, 47] [] y z' → (∀ c, 0 ≤ c → c < 7 → z' 47 c = y 47 c + cnN f c (k + 1).toNat) → ∃ s', f_WM_noteWay_46 (p * 24) b k (f k) z' = some (Sum.inl s') ∧ (0 ≤ s'.2.1 ∧ s'.2.1 ≤ 24 ∧ off [46, 47] [] y s'.2.2 ∧ (s'.1 = 1 ∧ (∀ k, 0 ≤ k → k < s'.2.1 → y 46 (p * 24 + k) = f k) ∨ s'.1 = 0 ∧ ∃ k, 0 ≤ k ∧ k < s'.2.1 ∧ y 46 (p * 24 + k) ≠ f k) ∧ (∀ k, 0 ≤ k → k < s'.2.1 → s'.2.2 46 (p * 24 + k) = f k) ∧ (∀ c, (c < p * 24 ∨ p * 24 + s'.2.1 ≤ c) → s'.2.2 46 c = y 46 c) ∧ ∀ c, 0 ≤ c → c < 7 → s'.2.2 47 c = y 47 c + cnN f c s'.2.1.toNat) ∧ (24 - s'.2.1).toNat < (24 - k).toNat := by
          intro z' hz' ho hn
          obtain ⟨b', t1, t2⟩ := tl z' hz'
          refine ⟨_, t1, ⟨by dsimp only; omega, by dsimp only; omega, off_w (off_tr ho (off_up (by decide))) (by decide) (by decide), ?_, fun j j0 j1 => ?_, fun c c0 => ?_, fun c c0 c1 => ?_⟩, by dsimp only; omega⟩
          · dsimp only
            rcases t2 with ⟨u1, u2, u3⟩ | ⟨u1, u2⟩
            · left
              refine ⟨u1, fun j j0 j1 => ?_⟩
              by_cases c : j = k
              · rw [c]; exact u3
              · rcases zs with ⟨_, a⟩ | ⟨a, _⟩
                · exact a j j0 (by omega)
                · omega
            · right
              refine ⟨u1, ?_⟩
              rcases u2 with u2 | u2
              · rcases zs with ⟨a, _⟩ | ⟨_, j, j0, j1, j2⟩
                · omega
                · exact ⟨j, j0, by omega, j2⟩
              · exact ⟨k, k0, by omega, u2⟩
          · dsimp only at j1 ⊢
            by_cases c : j = k
            · rw [c, xup_same]
            · rw [xup_ne_j (by omega), hz']
              exact zf j j0 (by omega)
          · dsimp only at c0 ⊢
            rw [xup_ne_j (by omega), hz']
            exact zc c (by omega)
          · dsimp only
            rw [xup_row (by decide)]
            exact hn c c0 c1
        by_cases c1 : f k < 0
        · rw [if_pos c1]
          refine fin z rfl zo (fun c c0 c1' => ?_)
          rw [nx, if_neg (by omega), Int.add_zero]
          exact zn c c0 c1'
        · rw [if_neg c1]
          by_cases c2 : f k < 7
          · have bb := hb (f k) (by omega) c2
            have zb := zn (f k) (by omega) c2
            have cb := cnN_b (f := f) (c := f k) k.toNat
            rw [if_pos c2, xgd_pos (by omega) (by omega), xgd_pos (by omega) (by omega), w32_id (by omega) (by omega), xlet_eq]
            refine fin _ (xup_row (by decide)) (off_w (off_tr zo (off_up (by decide))) (by decide) (by decide)) (fun c c0 c1' => ?_)
            rw [nx]
            by_cases c3 : f k = c
            · rw [if_pos c3, ← c3, xup_same, zb]
              omega
            · rw [if_neg c3, Int.add_zero, xup_ne_j (fun z => c3 z.symm)]
              exact zn c c0 c1'
          · rw [if_neg c2]
            refine fin z rfl zo (fun c c0 c1' => ?_)
            rw [nx, if_neg (by omega), Int.add_zero]
            exact zn c c0 c1'
      · right
        have ek : k = 24 := by omega
        subst ek
        exact ⟨(b, z), by rw [if_neg q], zo, zs, zf, zc, zn⟩) ⟨Int.le_refl _, by dsimp only; omega, off_rf, Or.inl ⟨rfl, fun k k0 k1 => by dsimp only at k1; omega⟩, fun k k0 k1 => by dsimp only at k1; omega, fun _ _ => rfl, fun c _ _ => by show y 47 c = y 47 c + 0; omega⟩
  dsimp only at e1 e2 e3 e4 e5
  rw [e, xc1_some]
  unfold f_WM_noteWay_103
  exact ⟨r, g, by rw [xgb_pos (by rcases e2 with ⟨a, _⟩ | ⟨a, _⟩ <;> omega)], e1, e2, e3, e4, e5⟩
/-- one pair: its way is found -/
theorem s_pairWay {h y : xH} {κ : Int → Int} {p : Int} (hP : Pr h) (hS : So h) (hA : Pa h) (hk : KO h κ) (oy : off [10, 21, 22, 23, 24, 34, 35, 36, 37, 38, 39, 46, 47] [] h y) (y10 : y 10 = κ) (p0 : 0 ≤ p) (p1 : p < h 40 2) :
    ∃ y1 y2 v y3, f_WM_readPair p y = some y1 ∧ f_Way_measure 34 21 23 y1 = some (v, y2) ∧ f_Way_trace 34 21 23 y2 = some y3 ∧ off [21, 22, 23, 24, 34, 35, 36, 37, 38, 39] [] y y3 ∧ y3 34 6 = wN (hK κ h) p ∧ wSt (hK κ h) p (wN (hK κ h) p) ∧ wN (hK κ h) p ≤ 24 ∧ ∀ k : Nat, k < wN (hK κ h) p → y3 36 k = wC (hK κ h) p k := by
  have A1 : Pa y := Pa_off oy (by decide) hA
  obtain ⟨y1, k1, k2, k3, k4, k5, k6, k7, k8⟩ := s_readPair A1 p0 (by rw [oy.1 40 (by decide) (by decide)]; exact p1)
  have o1 := off_tr oy k2
  have c1 : ∀ x, 10 ≤ x → x ≤ 20 → y1 x = hK κ h x := fun x a b => by
    rw [k2.1 x (by omega) (fun z => by simp at z; omega)]
    by_cases c : x = 10
    · rw [c, hK_10, y10]
    · rw [hK_row c]
      exact oy.1 x (by omega) (fun z => by simp at z; omega)
  have PK := hK_C hP hk
  have P1 : PrC y1 := by
    unfold PrC
    rw [c1 10 (by decide) (by decide), c1 11 (by decide) (by decide), c1 12 (by decide) (by decide), c1 13 (by decide) (by decide)]
    exact PK
  have S1 : So y1 := So_off o1 (by decide) hS
  have e42 : y 42 = hK κ h 42 := by rw [hK_row (by decide)]; exact oy.1 42 (by decide) (by decide)
  have e45 : y 45 = hK κ h 45 := by rw [hK_row (by decide)]; exact oy.1 45 (by decide) (by decide)
  have er1 : rp y 40 p = rp (hK κ h) 40 p := rp_congr (by rw [hK_row (by decide)]; exact oy.1 _ (by decide) (by decide)) (by rw [hK_row (by decide)]; exact oy.1 _ (by decide) (by decide))
  have er2 : rp y 43 p = rp (hK κ h) 43 p := rp_congr (by rw [hK_row (by decide)]; exact oy.1 _ (by decide) (by decide)) (by rw [hK_row (by decide)]; exact oy.1 _ (by decide) (by decide))
  rw [e42] at k5
  rw [e45] at k6
  rw [er1] at k7
  rw [er2] at k8
  obtain ⟨y2, l1, l2, l3⟩ := s_measureC (o := 34) (Or.inr rfl) P1 S1 (TQ_of k3) (TQ_of k4) (by decide) (by decide) (by decide) (by decide)
  have o2 : off [35] [] y1 y2 := ⟨fun x h0 hn => l2 x (fun z => hn (by simp [z])), fun x _ => by rw [l2 81 (by decide)]⟩
  have t3 : ∀ x, x ≠ 35 → y2 x = y1 x := fun x hx => l2 x hx
  have T3 : TQ 21 y2 := by unfold TQ; rw [t3 21 (by decide), t3 (21 + 1) (by decide)]; exact TQ_of k3
  have U3 : TQ 23 y2 := by unfold TQ; rw [t3 23 (by decide), t3 (23 + 1) (by decide)]; exact TQ_of k4
  have c2 : ∀ x, 10 ≤ x → x ≤ 20 → y2 x = hK κ h x := fun x a b => by rw [t3 x (by omega), c1 x a b]
  have p3 : tp y2 21 = rp (hK κ h) 40 p := by rw [← k7]; unfold tp; rw [t3 21 (by decide), t3 (21 + 1) (by decide)]
  have q3 : tp y2 23 = rp (hK κ h) 43 p := by rw [← k8]; unfold tp; rw [t3 23 (by decide), t3 (23 + 1) (by decide)]
  have n3 : y2 21 1 = hK κ h 42 p := by rw [t3 21 (by decide)]; exact k5
  have m3 : y2 23 1 = hK κ h 45 p := by rw [t3 23 (by decide)]; exact k6
  have D3 : Dc y2 21 23 = Dc y1 21 23 := by
    unfold Dc
    rw [sp_cg c2, tA_cg c2, tB_cg c2, c2 14 (by decide) (by decide), n3, m3, p3, q3, sp_cg c1, tA_cg c1, tB_cg c1, c1 14 (by decide) (by decide), k5, k6, k7, k8]
  obtain ⟨y3, n, u1, u2, u3, u4, u5, u6, u7⟩ := s_traceC (o := 34) (Or.inr rfl) (PrC_off o2 (by decide) P1) (So_off o2 (by decide) S1) T3 U3 (by decide) (by decide) (fun x y' a b c d => by rw [D3]; exact l3 x y' a (by rw [k5, ← n3]; exact b) c (by rw [k6, ← m3]; exact d))
  rw [sp_cg c2, tA_cg c2, tB_cg c2, c2 14 (by decide) (by decide), n3, m3, p3, q3] at u5 u6 u7
  simp only [Int.reduceAdd] at u2 u7
  have hn : wN (hK κ h) p = n := wN_of ⟨u5, u6⟩
  have o3 : off [34, 36, 37, 38, 39] [] y2 y3 := ⟨fun x h0 hn => u2 x (fun z => hn (by simp [z])) (fun z => hn (by simp [z])) (fun z => hn (by simp [z])) (fun z => hn (by simp [z])) (fun z => hn (by simp [z])), fun x _ => by rw [u2 81 (by decide) (by decide) (by decide) (by decide) (by decide)]⟩
  rw [hn]
  exact ⟨y1, y2, _, y3, k1, l1, u1, off_w (off_tr k2 (off_tr o2 o3)) (by decide) (by decide), u3, ⟨u5, u6⟩, u4, fun k hk => (u7 k hk).1⟩
theorem s_findWays {h y : xH} {κ : Int → Int} (hP : Pr h) (hS : So h) (hA : Pa h) (hk : KO h κ) (oy : off [10, 21, 22, 23, 24, 34, 35, 36, 37, 38, 39, 46, 47] [] h y) (y10 : y 10 = κ) :
    ∃ r y', f_WM_findWays y = some (r, y') ∧ off [21, 22, 23, 24, 34, 35, 36, 37, 38, 39, 46, 47] [] y y' ∧ (r = 1 ∧ (∀ p k, 0 ≤ p → p < h 40 2 → 0 ≤ k → k < 24 → y 46 (p * 24 + k) = cd (hK κ h) p k) ∨ r = 0 ∧ ∃ p k, 0 ≤ p ∧ p < h 40 2 ∧ 0 ≤ k ∧ k < 24 ∧ y 46 (p * 24 + k) ≠ cd (hK κ h) p k) ∧ (∀ p k, 0 ≤ p → p < h 40 2 → 0 ≤ k → k < 24 → y' 46 (p * 24 + k) = cd (hK κ h) p k) ∧ (∀ c, 0 ≤ c → c < 7 → y' 47 c = cT (hK κ h) c (h 40 2).toNat) ∧ ∀ p, 0 ≤ p → p < h 40 2 → wSt (hK κ h) p (wN (hK κ h) p) ∧ wN (hK κ h) p ≤ 24 := by
  have c40 : h 40 2 ≤ 40 := hA.1.2.2.2.2.1
  have c0 : 0 ≤ h 40 2 := hA.1.2.2.2.1
  have PK := hK_C hP hk
  have SK := hK_S (κ := κ) hS
  have AK := hK_A (κ := κ) hA
  unfold f_WM_findWays
  rw [s_fillA (o := 47) (by decide), xc1_some]
  generalize hy0 : hLay 47 0 (xN 47 : Int) (fun _ => 0) y = y0
  have x47 : (xN 47 : Int) = 7 := rfl
  have o0 : off [47] [] y y0 := by rw [← hy0]; exact off_lay (by decide)
  unfold f_WM_findWays_12
  obtain ⟨⟨r, g⟩, e, e1, e2, e3, e4, e5⟩ := xloop_W (step := fun s : Int × Int × xH => f_WM_findWays_s12 s.1 s.2.1 s.2.2)
    (I := fun s => 0 ≤ s.2.1 ∧ s.2.1 ≤ h 40 2 ∧ off [21, 22, 23, 24, 34, 35, 36, 37, 38, 39, 46, 47] [] y s.2.2 ∧ (s.1 = 1 ∧ (∀ p k, 0 ≤ p → p < s.2.1 → 0 ≤ k → k < 24 → y 46 (p * 24 + k) = cd (hK κ h) p k) ∨ s.1 = 0 ∧ ∃ p k, 0 ≤ p ∧ p < s.2.1 ∧ 0 ≤ k ∧ k < 24 ∧ y 46 (p * 24 + k) ≠ cd (hK κ h) p k) ∧ (∀ p k, 0 ≤ p → p < s.2.1 → 0 ≤ k → k < 24 → s.2.2 46 (p * 24 + k) = cd (hK κ h) p k) ∧ (∀ c, s.2.1 * 24 ≤ c → s.2.2 46 c = y 46 c) ∧ (∀ c, 0 ≤ c → c < 7 → s.2.2 47 c = cT (hK κ h) c s.2.1.toNat) ∧ ∀ p, 0 ≤ p → p < s.2.1 → wSt (hK κ h) p (wN (hK κ h) p) ∧ wN (hK κ h) p ≤ 24) (fun s => (h 40 2 - s.2.1).toNat)
    (post := fun s => off [21, 22, 23, 24, 34, 35, 36, 37, 38, 39, 46, 47] [] y s.2 ∧ (s.1 = 1 ∧ (∀ p k, 0 ≤ p → p < h 40 2 → 0 ≤ k → k < 24 → y 46 (p * 24 + k) = cd (hK κ h) p k) ∨ s.1 = 0 ∧ ∃ p k, 0 ≤ p ∧ p < h 40 2 ∧ 0 ≤ k ∧ k < 24 ∧ y 46 (p * 24 + k) ≠ cd (hK κ h) p k) ∧ (∀ p k, 0 ≤ p → p < h 40 2 → 0 ≤ k → k < 24 → s.2 46 (p * 24 + k) = cd (hK κ h) p k) ∧ (∀ c, 0 ≤ c → c < 7 → s.2 47 c = cT (hK κ h) c (h 40 2).toNat) ∧ ∀ p, 0 ≤ p → p < h 40 2 → wSt (hK κ h) p (wN (hK κ h) p) ∧ wN (hK κ h) p ≤ 24) (s := (1, 0, y0)) (by
      rintro ⟨b, p, z⟩ hI
      dsimp only at hI ⊢
      obtain ⟨p0, p1, zo, zs, zf, zr, zn, zw⟩ := hI
      unfold f_WM_findWays_s12
      have oz : off [10, 21, 22, 23, 24, 34, 35, 36, 37, 38, 39, 46, 47] [] h z := off_w (off_tr oy zo) (by decide) (by decide)
      rw [oz.1 40 (by decide) (by decide)]
      by_cases q : p < h 40 2
      · left
        obtain ⟨z1, z2, v, z3, k1, k2, k3, k4, k5, k6, k7, k8⟩ := s_pairWay hP hS hA hk oz (by rw [zo.1 10 (by decide) (by decide)]; exact y10) p0 q
        have cdr : ∀ k, 0 ≤ k → k < 24 → -1 ≤ cd (hK κ h) p k ∧ cd (hK κ h) p k ≤ 26 := fun k x0 x1 => by
          unfold cd
          split
          · next c =>
            have := wC_b PK SK AK p0 (by rw [hK_row (by decide)]; exact q) k6 (k := k.toNat) (by omega)
            omega
          · omega
        obtain ⟨r, z4, t1, t2, t3, t4, t5, t6⟩ := s_note (y := z3) (p := p) (f := cd (hK κ h) p) p0 (by omega) (fun k x0 x1 => by
          unfold cd
          rw [k5]
          by_cases c : k < (wN (hK κ h) p : Int)
          · rw [if_pos c, if_pos c]
            have := k8 k.toNat (by omega)
            rw [show ((k.toNat : Nat) : Int) = k by omega] at this
            exact this
          · rw [if_neg c, if_neg c]) cdr (fun c x0 x1 => by
          rw [k4.1 47 (by decide) (by decide), zn c x0 x1]
          have := cT_b (H := hK κ h) (c := c) p.toNat
          omega)
        have z346 : z3 46 = z 46 := k4.1 46 (by decide) (by decide)
        have z347 : z3 47 = z 47 := k4.1 47 (by decide) (by decide)
        rw [z346] at t3 t5
        have nx : ∀ c, cT (hK κ h) c (p + 1).toNat = cT (hK κ h) c p.toNat + cnN (cd (hK κ h) p) c 24 := fun c => by
          rw [show (p + 1).toNat = p.toNat + 1 by omega]
          show cT (hK κ h) c p.toNat + cnN (cd (hK κ h) ((p.toNat : Nat) : Int)) c 24 = _
          rw [show ((p.toNat : Nat) : Int) = p by omega]
        have zy : ∀ k, 0 ≤ k → z 46 (p * 24 + k) = y 46 (p * 24 + k) := fun k x0 => zr _ (by omega)
        have o4 : off [21, 22, 23, 24, 34, 35, 36, 37, 38, 39, 46, 47] [] y z4 := off_w (off_tr zo (off_tr k4 t2)) (by decide) (by decide)
        have fin : ∀ b' : Int, (b' = 1 ∧ b = 1 ∧ r = 1 ∨ b' = 0 ∧ (b = 0 ∨ r = 0)) → (0 ≤ p + 1 ∧ p + 1 ≤ h 40 2 ∧ off [21, 22, 23, 24, 34, 35, 36, 37, 38, 39, 46, 47] [] y z4 ∧ (b' = 1 ∧ (∀ p' k, 0 ≤ p' → p' < p + 1 → 0 ≤ k → k < 24 → y 46 (p' * 24 + k) = cd (hK κ h) p' k) ∨ b' = 0 ∧ ∃ p' k, 0 ≤ p' ∧ p' < p + 1 ∧ 0 ≤ k ∧ k < 24 ∧ y 46 (p' * 24 + k) ≠ cd (hK κ h) p' k) ∧ (∀ p' k, 0 ≤ p' → p' < p + 1 → 0 ≤ k → k < 24 → z4 46 (p' * 24 + k) = cd (hK κ h) p' k) ∧ (∀ c, (p + 1) * 24 ≤ c → z4 46 c = y 46 c) ∧ (∀ c, 0 ≤ c → c < 7 → z4 47 c = cT (hK κ h) c (p + 1).toNat) ∧ ∀ p', 0 ≤ p' → p' < p + 1 → wSt (hK κ h) p' (wN (hK κ h) p') ∧ wN (hK κ h) p' ≤ 24) := by
          intro b' hb'
          refine ⟨by omega, by omega, o4, ?_, fun p' k x0 x1 x2 x3 => ?_, fun c x0 => ?_, fun c x0 x1 => ?_, fun p' x0 x1 => ?_⟩
          · rcases hb' with ⟨u1, u2, u3⟩ | ⟨u1, u2⟩
            · left
              refine ⟨u1, fun p' k x0 x1 x2 x3 => ?_⟩
              by_cases c : p' = p
              · subst c
                rcases t3 with ⟨_, a⟩ | ⟨a, _⟩
                · rw [← zy k x2]; exact a k x2 x3
                · omega
              · rcases zs with ⟨_, a⟩ | ⟨a, _⟩
                · exact a p' k x0 (by omega) x2 x3
                · omega
            · right
              refine ⟨u1, ?_⟩
              rcases u2 with u2 | u2
              · rcases zs with ⟨a, _⟩ | ⟨_, p', k, x0, x1, x2⟩
                · omega
                · exact ⟨p', k, x0, by omega, x2⟩
              · rcases t3 with ⟨a, _⟩ | ⟨_, k, x0, x1, x2⟩
                · omega
                · exact ⟨p, k, p0, by omega, x0, x1, by rw [← zy k x0]; exact x2⟩
          · by_cases c : p' = p
            · rw [c]; exact t4 k x2 x3
            · rw [t5 _ (by omega), zf p' k x0 (by omega) x2 x3]
          · rw [t5 _ (by omega)]
            exact zr c (by omega)
          · rw [t6 c x0 x1, z347, zn c x0 x1, nx]
          · by_cases c : p' = p
            · rw [c]; exact ⟨k6, k7⟩
            · exact zw p' x0 (by omega)
        have e72 : ∀ b' : Int, f_WM_findWays_72 b' p z4 = some (Sum.inl (b', p + 1, z4)) := fun b' => by
          unfold f_WM_findWays_72
          rw [w32_id (by omega) (by omega), xlet_eq]
        rw [if_pos q, k1, xc1_some, k2, xc2_some, k3, xc1_some, w32_id (z := p * 24) (by omega) (by omega), t1, xc2_some, e72, e72]
        by_cases c : r = 0
        · exact ⟨(0, p + 1, z4), by rw [if_pos c], fin 0 (Or.inr ⟨rfl, Or.inr c⟩), by dsimp only; omega⟩
        · have r1 : r = 1 := by rcases t3 with ⟨a, _⟩ | ⟨a, _⟩ <;> omega
          refine ⟨(b, p + 1, z4), by rw [if_neg c], fin b ?_, by dsimp only; omega⟩
          rcases zs with ⟨a, _⟩ | ⟨a, _⟩
          · exact Or.inl ⟨a, a, r1⟩
          · exact Or.inr ⟨a, Or.inl a⟩
      · right
        have ep : p = h 40 2 := by omega
        subst ep
        exact ⟨(b, z), by rw [if_neg q], zo, zs, zf, zn, zw⟩) ⟨Int.le_refl _, c0, off_w o0 (by decide) (by decide), Or.inl ⟨rfl, fun p k p0 p1 => by dsimp only at p1; omega⟩, fun p k p0 p1 => by dsimp only at p1; omega, fun c _ => by dsimp only; rw [o0.1 46 (by decide) (by decide)], fun c x0 x1 => by dsimp only; rw [← hy0, x47, hLay_in x0 (by omega)]; rfl, fun p p0 p1 => by dsimp only at p1; omega⟩
  dsimp only at e1 e2 e3 e4 e5
  rw [e, xc1_some]
  unfold f_WM_findWays_78
  exact ⟨r, g, by rw [xgb_pos (by rcases e2 with ⟨a, _⟩ | ⟨a, _⟩ <;> omega)], e1, e2, e3, e4, e5⟩
