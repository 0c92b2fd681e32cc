/-! LEAST SUMS, from behind and from before: the same -/
theorem mnf_le {f : Int → Int} : ∀ {n : Nat} {c : Int}, 0 ≤ c → c < n → mnf f n ≤ f c
  | 0, c, h1, h2 => by omega
  | n + 1, c, h1, h2 => by
    show min (mnf f n) (f n) ≤ f c
    by_cases q : c = n
    · rw [q]; omega
    · have := mnf_le (f := f) (n := n) h1 (by omega)
      omega
theorem mnf_far {f : Int → Int} : ∀ {n : Nat}, mnf f n ≤ 1000000
  | 0 => Int.le_refl _
  | n + 1 => by
    show min (mnf f n) (f n) ≤ _
    have := mnf_far (f := f) (n := n)
    omega
theorem mnf_ge {f : Int → Int} {m : Int} (hm : m ≤ 1000000) : ∀ {n : Nat}, (∀ c, 0 ≤ c → c < (n : Int) → m ≤ f c) → m ≤ mnf f n
  | 0, _ => hm
  | n + 1, h => by
    show m ≤ min (mnf f n) (f n)
    have h1 := mnf_ge hm (n := n) (fun c a b => h c a (by omega))
    have h2 := h n (by omega) (by omega)
    omega
theorem mnf_at {f : Int → Int} : ∀ {n : Nat}, mnf f n = 1000000 ∨ ∃ c, 0 ≤ c ∧ c < (n : Int) ∧ mnf f n = f c
  | 0 => Or.inl rfl
  | n + 1 => by
    rcases mnf_at (f := f) (n := n) with h | ⟨c, c1, c2, c3⟩
    · by_cases q : f n ≤ 1000000
      · exact Or.inr ⟨n, by omega, by omega, by show min (mnf f n) (f n) = f n; omega⟩
      · exact Or.inl (by show min (mnf f n) (f n) = _; omega)
    · by_cases q : f n ≤ mnf f n
      · exact Or.inr ⟨n, by omega, by omega, by show min (mnf f n) (f n) = f n; omega⟩
      · exact Or.inr ⟨c, c1, by omega, by show min (mnf f n) (f n) = f c; omega⟩
theorem mnf_ext {f g : Int → Int} : ∀ {n : Nat}, (∀ c, 0 ≤ c → c < (n : Int) → f c = g c) → mnf f n = mnf g n
  | 0, _ => rfl
  | n + 1, h => by
    show min (mnf f n) (f n) = min (mnf g n) (g n)
    rw [mnf_ext (n := n) (fun c a b => h c a (by omega)), h n (by omega) (by omega)]
section
variable (sp : Int → Int → Int → Int) (ta tb : Int → Int) (K : Nat) (la lb : Int)
/-- slips as they may stand -/
def SPok : Prop := 0 ≤ la ∧ la ≤ 12 ∧ 0 ≤ lb ∧ lb ≤ 12 ∧ 7 ≤ K ∧ (ta 2 = 1 ∧ tb 2 = 0 ∧ ta 3 = 0 ∧ tb 3 = 1) ∧ (∀ i j, 0 ≤ i → i < la → 0 ≤ j → j ≤ lb → sp 2 i j ≠ -1) ∧ (∀ i j, 0 ≤ i → i ≤ la → 0 ≤ j → j < lb → sp 3 i j ≠ -1) ∧
  (∀ c, 0 ≤ c → c < (K : Int) → 0 ≤ ta c ∧ ta c ≤ 3 ∧ 0 ≤ tb c ∧ tb c ≤ 3 ∧ 1 ≤ ta c + tb c) ∧
  ∀ c i j, 0 ≤ c → c < (K : Int) → 0 ≤ i → i ≤ la → 0 ≤ j → j ≤ lb → sp c i j ≠ -1 → 0 ≤ sp c i j ∧ sp c i j ≤ 9999 ∧ i + ta c ≤ la ∧ j + tb c ≤ lb
def vl (T : Int → Int → Int) (i j c : Int) : Int := if sp c i j = -1 then 1000000 else sp c i j + T (i + ta c) (j + tb c)
def rhs (T : Int → Int → Int) (i j : Int) : Int := if i = la ∧ j = lb then 0 else mnf (vl sp ta tb T i j) K
def IsD (T : Int → Int → Int) : Prop := ∀ i j, 0 ≤ i → i ≤ la → 0 ≤ j → j ≤ lb → T i j = rhs sp ta tb K la lb T i j
def vlF (F : Int → Int → Int) (d j c : Int) : Int := if d - ta c < 0 ∨ j - tb c < 0 then 1000000 else if sp c (d - ta c) (j - tb c) = -1 then 1000000 else sp c (d - ta c) (j - tb c) + F (d - ta c) (j - tb c)
def rhsF (F : Int → Int → Int) (d j : Int) : Int := min (if d = 0 ∧ j = 0 then 0 else 1000000) (mnf (vlF sp ta tb F d j) K)
def IsF (F : Int → Int → Int) : Prop := ∀ d j, 0 ≤ d → d ≤ la → 0 ≤ j → j ≤ lb → F d j = rhsF sp ta tb K F d j
end
section
variable {sp : Int → Int → Int → Int} {ta tb : Int → Int} {K : Nat} {la lb : Int}
theorem rhs_ext (H : SPok sp ta tb K la lb) {T U : Int → Int → Int} {i j : Int} (i1 : 0 ≤ i) (i2 : i ≤ la) (j1 : 0 ≤ j) (j2 : j ≤ lb) (h : ∀ x y, i ≤ x → x ≤ la → j ≤ y → y ≤ lb → i + j < x + y → T x y = U x y) : rhs sp ta tb K la lb T i j = rhs sp ta tb K la lb U i j := by
  obtain ⟨b1, b2, b3, b4, b5, b6, b7, b8, b9, b10⟩ := H
  unfold rhs
  split
  · rfl
  · refine mnf_ext fun c c1 c2 => ?_
    unfold vl
    split
    · rfl
    · next q =>
      obtain ⟨a3, a4, a5, a6, a0⟩ := b9 c c1 c2
      obtain ⟨a1, a2, a7, a8⟩ := b10 c i j c1 c2 i1 i2 j1 j2 q
      rw [h _ _ (by omega) a7 (by omega) a8 (by omega)]
theorem rhsF_ext (H : SPok sp ta tb K la lb) {T U : Int → Int → Int} {i j : Int} (h : ∀ x y, 0 ≤ x → x ≤ i → 0 ≤ y → y ≤ j → x + y < i + j → T x y = U x y) : rhsF sp ta tb K T i j = rhsF sp ta tb K U i j := by
  obtain ⟨b1, b2, b3, b4, b5, b6, b7, b8, b9, b10⟩ := H
  unfold rhsF
  congr 1
  refine mnf_ext fun c c1 c2 => ?_
  obtain ⟨a3, a4, a5, a6, a0⟩ := b9 c c1 c2
  unfold vlF
  split
  · rfl
  · split
    · rfl
    · rw [h _ _ (by omega) (by omega) (by omega) (by omega) (by omega)]
theorem D_uniq (H : SPok sp ta tb K la lb) {T U : Int → Int → Int} (hT : IsD sp ta tb K la lb T) (hU : IsD sp ta tb K la lb U) {i j : Int} (i1 : 0 ≤ i) (i2 : i ≤ la) (j1 : 0 ≤ j) (j2 : j ≤ lb) : T i j = U i j := by
  have key : ∀ (m : Nat) (i j : Int), 0 ≤ i → i ≤ la → 0 ≤ j → j ≤ lb → ((la - i) + (lb - j)).toNat ≤ m → T i j = U i j := by
    intro m
    induction m with
    | zero =>
      intro i j i1 i2 j1 j2 hm
      rw [hT i j i1 i2 j1 j2, hU i j i1 i2 j1 j2]
      exact rhs_ext H i1 i2 j1 j2 (fun x y a b c d e => by omega)
    | succ m ih =>
      intro i j i1 i2 j1 j2 hm
      rw [hT i j i1 i2 j1 j2, hU i j i1 i2 j1 j2]
      exact rhs_ext H i1 i2 j1 j2 (fun x y a b c d e => ih x y (by omega) b (by omega) d (by omega))
  exact key _ i j i1 i2 j1 j2 (Nat.le_refl _)
theorem F_uniq (H : SPok sp ta tb K la lb) {T U : Int → Int → Int} (hT : IsF sp ta tb K la lb T) (hU : IsF sp ta tb K la lb U) {i j : Int} (i1 : 0 ≤ i) (i2 : i ≤ la) (j1 : 0 ≤ j) (j2 : j ≤ lb) : T i j = U i j := by
  have key : ∀ (m : Nat) (i j : Int), 0 ≤ i → i ≤ la → 0 ≤ j → j ≤ lb → (i + j).toNat ≤ m → T i j = U i j := by
    intro m
    induction m with
    | zero =>
      intro i j i1 i2 j1 j2 hm
      rw [hT i j i1 i2 j1 j2, hU i j i1 i2 j1 j2]
      exact rhsF_ext H (fun x y a b c d e => by omega)
    | succ m ih =>
      intro i j i1 i2 j1 j2 hm
      rw [hT i j i1 i2 j1 j2, hU i j i1 i2 j1 j2]
      exact rhsF_ext H (fun x y a b c d e => ih x y a (by omega) c (by omega) (by omega))
  exact key _ i j i1 i2 j1 j2 (Nat.le_refl _)
theorem D_bd (H : SPok sp ta tb K la lb) {T : Int → Int → Int} (hT : IsD sp ta tb K la lb T) {i j : Int} (i1 : 0 ≤ i) (i2 : i ≤ la) (j1 : 0 ≤ j) (j2 : j ≤ lb) : 0 ≤ T i j ∧ T i j ≤ 9999 * ((la - i) + (lb - j)) := by
  have key : ∀ (m : Nat) (i j : Int), 0 ≤ i → i ≤ la → 0 ≤ j → j ≤ lb → ((la - i) + (lb - j)).toNat ≤ m → 0 ≤ T i j ∧ T i j ≤ 9999 * ((la - i) + (lb - j)) := by
    obtain ⟨b1, b2, b3, b4, b5, ⟨e1, e2, e3, e4⟩, b7, b8, b9, b10⟩ := H
    intro m
    induction m with
    | zero =>
      intro i j i1 i2 j1 j2 hm
      rw [hT i j i1 i2 j1 j2]
      unfold rhs
      rw [if_pos (by omega)]
      omega
    | succ m ih =>
      intro i j i1 i2 j1 j2 hm
      rw [hT i j i1 i2 j1 j2]
      unfold rhs
      by_cases z : i = la ∧ j = lb
      · rw [if_pos z]; omega
      · rw [if_neg z]
        constructor
        · refine mnf_ge (by omega) fun c c1 c2 => ?_
          unfold vl
          split
          · omega
          · next q =>
            obtain ⟨a3, a4, a5, a6, a0⟩ := b9 c c1 c2
            obtain ⟨a1, a2, a7, a8⟩ := b10 c i j c1 c2 i1 i2 j1 j2 q
            have := (ih (i + ta c) (j + tb c) (by omega) a7 (by omega) a8 (by omega)).1
            omega
        · by_cases y : i < la
          · have hc := mnf_le (f := vl sp ta tb T i j) (n := K) (c := 2) (by omega) (by omega)
            have q := b7 i j i1 y j1 j2
            have hv : vl sp ta tb T i j 2 = sp 2 i j + T (i + 1) (j + 0) := by unfold vl; rw [if_neg q, e1, e2]
            have := ih (i + 1) (j + 0) (by omega) (by omega) (by omega) (by omega) (by omega)
            have := b10 2 i j (by omega) (by omega) i1 i2 j1 j2 q
            omega
          · have hc := mnf_le (f := vl sp ta tb T i j) (n := K) (c := 3) (by omega) (by omega)
            have q := b8 i j i1 i2 j1 (by omega)
            have hv : vl sp ta tb T i j 3 = sp 3 i j + T (i + 0) (j + 1) := by unfold vl; rw [if_neg q, e3, e4]
            have := ih (i + 0) (j + 1) (by omega) (by omega) (by omega) (by omega) (by omega)
            have := b10 3 i j (by omega) (by omega) i1 i2 j1 j2 q
            omega
  exact key _ i j i1 i2 j1 j2 (Nat.le_refl _)
theorem F_bd (H : SPok sp ta tb K la lb) {F : Int → Int → Int} (hF : IsF sp ta tb K la lb F) {i j : Int} (i1 : 0 ≤ i) (i2 : i ≤ la) (j1 : 0 ≤ j) (j2 : j ≤ lb) : 0 ≤ F i j ∧ F i j ≤ 9999 * (i + j) := by
  have key : ∀ (m : Nat) (i j : Int), 0 ≤ i → i ≤ la → 0 ≤ j → j ≤ lb → (i + j).toNat ≤ m → 0 ≤ F i j ∧ F i j ≤ 9999 * (i + j) := by
    obtain ⟨b1, b2, b3, b4, b5, ⟨e1, e2, e3, e4⟩, b7, b8, b9, b10⟩ := H
    intro m
    induction m with
    | zero =>
      intro i j i1 i2 j1 j2 hm
      rw [hF i j i1 i2 j1 j2]
      unfold rhsF
      rw [if_pos (by omega)]
      have h0 : 0 ≤ mnf (vlF sp ta tb F i j) K := by
        refine mnf_ge (by omega) fun c c1 c2 => ?_
        obtain ⟨a3, a4, a5, a6, a0⟩ := b9 c c1 c2
        unfold vlF
        rw [if_pos (by omega)]
        omega
      omega
    | succ m ih =>
      intro i j i1 i2 j1 j2 hm
      rw [hF i j i1 i2 j1 j2]
      unfold rhsF
      have h0 : 0 ≤ mnf (vlF sp ta tb F i j) K := by
        refine mnf_ge (by omega) fun c c1 c2 => ?_
        obtain ⟨a3, a4, a5, a6, a0⟩ := b9 c c1 c2
        unfold vlF
        split
        · omega
        · split
          · omega
          · next z q =>
            have := (ih (i - ta c) (j - tb c) (by omega) (by omega) (by omega) (by omega) (by omega)).1
            have := b10 c _ _ c1 c2 (by omega) (by omega) (by omega) (by omega) q
            omega
      by_cases z : i = 0 ∧ j = 0
      · rw [if_pos z]; omega
      · rw [if_neg z]
        refine ⟨by omega, ?_⟩
        by_cases y : 0 < i
        · have hc := mnf_le (f := vlF sp ta tb F i j) (n := K) (c := 2) (by omega) (by omega)
          have q := b7 (i - 1) (j - 0) (by omega) (by omega) (by omega) (by omega)
          have hv : vlF sp ta tb F i j 2 = sp 2 (i - 1) (j - 0) + F (i - 1) (j - 0) := by unfold vlF; rw [e1, e2, if_neg (by omega), if_neg q]
          have := ih (i - 1) (j - 0) (by omega) (by omega) (by omega) (by omega) (by omega)
          have := b10 2 (i - 1) (j - 0) (by omega) (by omega) (by omega) (by omega) (by omega) (by omega) q
          omega
        · have hc := mnf_le (f := vlF sp ta tb F i j) (n := K) (c := 3) (by omega) (by omega)
          have q := b8 (i - 0) (j - 1) (by omega) (by omega) (by omega) (by omega)
          have hv : vlF sp ta tb F i j 3 = sp 3 (i - 0) (j - 1) + F (i - 0) (j - 1) := by unfold vlF; rw [e3, e4, if_neg (by omega), if_neg q]
          have := ih (i - 0) (j - 1) (by omega) (by omega) (by omega) (by omega) (by omega)
          have := b10 3 (i - 0) (j - 1) (by omega) (by omega) (by omega) (by omega) (by omega) (by omega) q
          omega
  exact key _ i j i1 i2 j1 j2 (Nat.le_refl _)
/-- from before and from behind -/
theorem FD (H : SPok sp ta tb K la lb) {F T : Int → Int → Int} (hF : IsF sp ta tb K la lb F) (hT : IsD sp ta tb K la lb T) : F la lb = T 0 0 := by
  have H0 := H
  obtain ⟨b1, b2, b3, b4, b5, b6, b7, b8, b9, b10⟩ := H
  have k1 : ∀ (m : Nat) (i j : Int), 0 ≤ i → i ≤ la → 0 ≤ j → j ≤ lb → (i + j).toNat ≤ m → T 0 0 ≤ F i j + T i j := by
    intro m
    induction m with
    | zero =>
      intro i j i1 i2 j1 j2 hm
      have hi : i = 0 := by omega
      have hj : j = 0 := by omega
      subst hi; subst hj
      have := (F_bd H0 hF i1 i2 j1 j2).1
      omega
    | succ m ih =>
      intro i j i1 i2 j1 j2 hm
      have hb := F_bd H0 hF i1 i2 j1 j2
      by_cases z : i = 0 ∧ j = 0
      · obtain ⟨rfl, rfl⟩ := z
        omega
      · have he := hF i j i1 i2 j1 j2
        unfold rhsF at he
        rw [if_neg z] at he
        rcases mnf_at (f := vlF sp ta tb F i j) (n := K) with h | ⟨c, c1, c2, c3⟩
        · omega
        · obtain ⟨a3, a4, a5, a6, a0⟩ := b9 c c1 c2
          have hv : vlF sp ta tb F i j c < 1000000 := by omega
          by_cases y : i - ta c < 0 ∨ j - tb c < 0
          · have : vlF sp ta tb F i j c = 1000000 := by unfold vlF; rw [if_pos y]
            omega
          · by_cases q : sp c (i - ta c) (j - tb c) = -1
            · have : vlF sp ta tb F i j c = 1000000 := by unfold vlF; rw [if_neg y, if_pos q]
              omega
            · have hx : vlF sp ta tb F i j c = sp c (i - ta c) (j - tb c) + F (i - ta c) (j - tb c) := by unfold vlF; rw [if_neg y, if_neg q]
              have h1 := ih (i - ta c) (j - tb c) (by omega) (by omega) (by omega) (by omega) (by omega)
              have h2 : T (i - ta c) (j - tb c) ≤ sp c (i - ta c) (j - tb c) + T i j := by
                have e := hT (i - ta c) (j - tb c) (by omega) (by omega) (by omega) (by omega)
                unfold rhs at e
                rw [if_neg (by omega)] at e
                have e2 := mnf_le (f := vl sp ta tb T (i - ta c) (j - tb c)) (n := K) c1 c2
                have e3 : vl sp ta tb T (i - ta c) (j - tb c) c = sp c (i - ta c) (j - tb c) + T i j := by
                  unfold vl
                  rw [if_neg q, show i - ta c + ta c = i by omega, show j - tb c + tb c = j by omega]
                omega
              omega
  have k2 : ∀ (m : Nat) (i j : Int), 0 ≤ i → i ≤ la → 0 ≤ j → j ≤ lb → ((la - i) + (lb - j)).toNat ≤ m → F la lb ≤ F i j + T i j := by
    intro m
    induction m with
    | zero =>
      intro i j i1 i2 j1 j2 hm
      have hi : i = la := by omega
      have hj : j = lb := by omega
      subst hi; subst hj
      have := (D_bd H0 hT i1 i2 j1 j2).1
      omega
    | succ m ih =>
      intro i j i1 i2 j1 j2 hm
      have hb := D_bd H0 hT i1 i2 j1 j2
      by_cases z : i = la ∧ j = lb
      · obtain ⟨rfl, rfl⟩ := z
        omega
      · have he := hT i j i1 i2 j1 j2
        unfold rhs at he
        rw [if_neg z] at he
        rcases mnf_at (f := vl sp ta tb T i j) (n := K) with h | ⟨c, c1, c2, c3⟩
        · omega
        · obtain ⟨a3, a4, a5, a6, a0⟩ := b9 c c1 c2
          have hv : vl sp ta tb T i j c < 1000000 := by omega
          by_cases q : sp c i j = -1
          · have : vl sp ta tb T i j c = 1000000 := by unfold vl; rw [if_pos q]
            omega
          · have hx : vl sp ta tb T i j c = sp c i j + T (i + ta c) (j + tb c) := by unfold vl; rw [if_neg q]
            obtain ⟨a1, a2, a7, a8⟩ := b10 c i j c1 c2 i1 i2 j1 j2 q
            have h1 := ih (i + ta c) (j + tb c) (by omega) a7 (by omega) a8 (by omega)
            have h2 : F (i + ta c) (j + tb c) ≤ sp c i j + F i j := by
              have e := hF (i + ta c) (j + tb c) (by omega) a7 (by omega) a8
              unfold rhsF at e
              have e2 := mnf_le (f := vlF sp ta tb F (i + ta c) (j + tb c)) (n := K) c1 c2
              have e3 : vlF sp ta tb F (i + ta c) (j + tb c) c = sp c i j + F i j := by
                unfold vlF
                rw [show i + ta c - ta c = i by omega, show j + tb c - tb c = j by omega, if_neg (by omega), if_neg q]
              omega
            omega
  have e1 := k1 _ la lb b1 (Int.le_refl _) b3 (Int.le_refl _) (Nat.le_refl _)
  have e2 := k2 _ 0 0 (Int.le_refl _) b1 (Int.le_refl _) b3 (Nat.le_refl _)
  have e3 : T la lb = 0 := by
    rw [hT la lb b1 (Int.le_refl _) b3 (Int.le_refl _)]
    unfold rhs
    rw [if_pos ⟨rfl, rfl⟩]
  have e4 : F 0 0 = 0 := by
    have := F_bd H0 hF (Int.le_refl 0) b1 (Int.le_refl 0) b3
    omega
  omega
/-- where three rows lie above a bound, all behind them do -/
theorem F_left (H : SPok sp ta tb K la lb) {F : Int → Int → Int} (hF : IsF sp ta tb K la lb F) {c0 bd : Int} (hb : bd < 1000000) (h0 : 0 ≤ c0) (hl : ∀ d j, c0 - 2 ≤ d → 0 ≤ d → d ≤ c0 → d ≤ la → 0 ≤ j → j ≤ lb → bd < F d j) {d j : Int} (d0 : c0 ≤ d) (d1 : d ≤ la) (j1 : 0 ≤ j) (j2 : j ≤ lb) : bd < F d j := by
  obtain ⟨b1, b2, b3, b4, b5, b6, b7, b8, b9, b10⟩ := H
  have key : ∀ (m : Nat) (d j : Int), c0 ≤ d → d ≤ la → 0 ≤ j → j ≤ lb → (d + j).toNat ≤ m → bd < F d j := by
    intro m
    induction m with
    | zero =>
      intro d j a b c e hm
      exact hl d j (by omega) (by omega) (by omega) b c e
    | succ m ih =>
      intro d j a b c e hm
      by_cases q : d = c0
      · exact hl d j (by omega) (by omega) (by omega) b c e
      · rw [hF d j (by omega) b c e]
        unfold rhsF
        rw [if_neg (by omega)]
        have : bd + 1 ≤ mnf (vlF sp ta tb F d j) K := by
          refine mnf_ge (by omega) fun x x1 x2 => ?_
          obtain ⟨a3, a4, a5, a6, a0⟩ := b9 x x1 x2
          unfold vlF
          split
          · omega
          · split
            · omega
            · next y z =>
              have h1 := b10 x _ _ x1 x2 (by omega) (by omega) (by omega) (by omega) z
              have h2 : bd < F (d - ta x) (j - tb x) := by
                by_cases w : c0 ≤ d - ta x
                · exact ih _ _ w (by omega) (by omega) (by omega) (by omega)
                · exact hl _ _ (by omega) (by omega) (by omega) (by omega) (by omega) (by omega)
              omega
        omega
  exact key _ d j d0 d1 j1 j2 (Nat.le_refl _)
end
