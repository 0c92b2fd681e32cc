/-! THE TREE'S NODES in their order, as far as the bound lets them be met -/
theorem FS_loc {sp sp' : Int → Int → Int → Int} {ta tb : Int → Int} {K : Nat} {la la' lb n : Int} (H : SPok sp ta tb K la lb) (H' : SPok sp' ta tb K la' lb) (n1 : n ≤ la) (n2 : n ≤ la') (hs : ∀ c i j, 0 ≤ c → c < (K : Int) → 0 ≤ i → i + ta c ≤ n → 0 ≤ j → j + tb c ≤ lb → sp c i j = sp' c i j) : ∀ (N : Nat) (i j : Int), 0 ≤ i → i ≤ n → 0 ≤ j → j ≤ lb → (i + j).toNat < N → FS sp ta tb K i j = FS sp' ta tb K i j
  | 0, i, j, _, _, _, _, h => by omega
  | N + 1, i, j, i0, i1, j0, j1, hN => by
    rw [FS_F H i j i0 (by omega) j0 j1, FS_F H' i j i0 (by omega) j0 j1]
    unfold rhsF
    congr 1
    refine mnf_ext fun c c1 c2 => ?_
    obtain ⟨-, -, -, -, -, -, -, -, h9, -⟩ := id H
    obtain ⟨a3, a4, a5, a6, a0⟩ := h9 c c1 c2
    unfold vlF
    by_cases q : i - ta c < 0 ∨ j - tb c < 0
    · rw [if_pos q, if_pos q]
    · rw [if_neg q, if_neg q, hs c (i - ta c) (j - tb c) c1 c2 (by omega) (by omega) (by omega) (by omega), FS_loc H H' n1 n2 hs N (i - ta c) (j - tb c) (by omega) (by omega) (by omega) (by omega) (by omega)]
/-- letters, so many -/
def LR (n : Int) (p : Int → Int) : Prop := 0 ≤ n ∧ n ≤ 12 ∧ ∃ f : Int → Int, p = pad n f ∧ ∀ k, 0 ≤ k → k < n → 0 ≤ f k ∧ f k ≤ 25
theorem LR_w {h : xH} (W : Wd0 h) {w : Int} (h1 : 0 ≤ w) (h2 : w < h 5 2) : LR (h 7 w) (rp h 5 w) := by
  obtain ⟨l1, l2, l3⟩ := Wd_len W h1 h2
  exact ⟨by omega, l2, _, rfl, l3⟩
theorem LR_t {h : xH} {t : Int} (hT : TQ t h) : LR (h t 1) (tp h t) := ⟨hT.1, hT.2.1, _, rfl, hT.2.2⟩
theorem LR_in {n : Int} {p : Int → Int} (h : LR n p) {k : Int} (k0 : 0 ≤ k) (k1 : k < n) : 0 ≤ p k ∧ p k ≤ 25 := by
  obtain ⟨_, _, f, rfl, hf⟩ := h
  rw [pad_in k0 k1]
  exact hf k k0 k1
theorem LR_out {n : Int} {p : Int → Int} (h : LR n p) {k : Int} (k1 : n ≤ k) : p k = -1 := by
  obtain ⟨_, _, f, rfl, hf⟩ := h
  exact pad_out k1
theorem LR_ok {h : xH} (hP : Pr h) (hS : So h) {n m : Int} {p q : Int → Int} (hp : LR n p) (hq : LR m q) : SPok (sp h p q) (tA h) (tB h) (7 + h 14 2).toNat n m := by
  obtain ⟨a0, a1, f, rfl, hf⟩ := hp
  obtain ⟨b0, b1, g, rfl, hg⟩ := hq
  exact sp_ok hP hS a0 a1 b0 b1 hf hg
/-- the sums of a row's beginnings -/
noncomputable def Gs (h : xH) (q p : Int → Int) : Int → Int → Int := FS (sp h p q) (tA h) (tB h) (7 + h 14 2).toNat
theorem Gs_agr {h : xH} (hP : Pr h) (hS : So h) {n n' m k : Int} {p p' q : Int → Int} (hp : LR n p) (hp' : LR n' p') (hq : LR m q) (k1 : k ≤ n) (k2 : k ≤ n') (ha : ∀ x, 0 ≤ x → x < k → p x = p' x) {i j : Int} (i0 : 0 ≤ i) (i1 : i ≤ k) (j0 : 0 ≤ j) (j1 : j ≤ m) : Gs h q p i j = Gs h q p' i j := by
  have bn : 0 ≤ h 14 2 := hS.1.2.2.2.1
  exact FS_loc (LR_ok hP hS hp hq) (LR_ok hP hS hp' hq) k1 k2 (fun c x y c0 c1 x0 x1 y0 y1 => sp_loc hS c0 (by omega) (fun z z0 z1 => ha z (by omega) (by omega)) (fun _ _ _ => rfl)) ((i + j).toNat + 1) i j i0 i1 j0 j1 (by omega)
theorem Gs_b {h : xH} (hP : Pr h) (hS : So h) {n m : Int} {p q : Int → Int} (hp : LR n p) (hq : LR m q) {i j : Int} (i0 : 0 ≤ i) (i1 : i ≤ n) (j0 : 0 ≤ j) (j1 : j ≤ m) : 0 ≤ Gs h q p i j ∧ Gs h q p i j ≤ 239976 := FS_b (LR_ok hP hS hp hq) i0 i1 j0 j1
section
variable (h : xH) (q : Int → Int) (m b : Int)
noncomputable def lsG (p : Int → Int) (d : Int) : Int := mnf (fun j => Gs h q p d j) (m + 1).toNat
def lft (p : Int → Int) (d : Int) : Prop := ∀ k, max (d - 2) 0 ≤ k → k ≤ d → b < lsG h q m p k
/-- how deep the node on the way to a word is that is left; 13: none -/
def isCut (w c : Int) : Prop := (0 ≤ c ∧ c ≤ h 7 w ∧ lft h q m b (rp h 5 w) c ∧ ∀ d, 0 ≤ d → d < c → ¬ lft h q m b (rp h 5 w) d) ∨ (c = 13 ∧ ∀ d, 0 ≤ d → d ≤ h 7 w → ¬ lft h q m b (rp h 5 w) d)
noncomputable def ct (w : Int) : Int := Classical.epsilon (isCut h q m b w)
noncomputable def dpt (w : Int) : Int := min (ct h q m b w) (h 7 w)
/-- how many nodes are met before a word's own -/
noncomputable def bsN : Nat → Int
  | 0 => 0
  | n + 1 => bsN n + max 0 (dpt h q m b n - shW h n)
noncomputable def bs (w : Int) : Int := bsN h q m b w.toNat
/-- how many of them are left -/
noncomputable def lfN : Nat → Int
  | 0 => 0
  | n + 1 => lfN n + if shW h n < ct h q m b n ∧ ct h q m b n ≤ h 7 n then 1 else 0
noncomputable def lfs (w : Int) : Int := lfN h q m b w.toNat
/-- where a word's node stands in their order -/
noncomputable def ps (w d : Int) : Int := bs h q m b w + (d - shW h w - 1)
end
section
variable {h : xH} {q : Int → Int} {m b : Int}
theorem bs_0 : bs h q m b 0 = 0 := rfl
theorem lfs_0 : lfs h q m b 0 = 0 := rfl
theorem bs_s {w : Int} (w0 : 0 ≤ w) : bs h q m b (w + 1) = bs h q m b w + max 0 (dpt h q m b w - shW h w) := by
  unfold bs
  rw [show (w + 1).toNat = w.toNat + 1 by omega]
  show _ + max 0 (dpt h q m b ((w.toNat : Nat) : Int) - shW h ((w.toNat : Nat) : Int)) = _
  rw [show ((w.toNat : Nat) : Int) = w by omega]
theorem lfs_s {w : Int} (w0 : 0 ≤ w) : lfs h q m b (w + 1) = lfs h q m b w + if shW h w < ct h q m b w ∧ ct h q m b w ≤ h 7 w then 1 else 0 := by
  unfold lfs
  rw [show (w + 1).toNat = w.toNat + 1 by omega]
  show _ + (if shW h ((w.toNat : Nat) : Int) < ct h q m b ((w.toNat : Nat) : Int) ∧ ct h q m b ((w.toNat : Nat) : Int) ≤ h 7 ((w.toNat : Nat) : Int) then 1 else 0) = _
  rw [show ((w.toNat : Nat) : Int) = w by omega]
theorem cut_ex {w : Int} : ∃ c, isCut h q m b w c := by
  by_cases z : ∃ d, 0 ≤ d ∧ d ≤ h 7 w ∧ lft h q m b (rp h 5 w) d
  · obtain ⟨d, d0, d1, d2⟩ := z
    obtain ⟨c, c0, c1, c2, c3⟩ := least_i (p := fun d => lft h q m b (rp h 5 w) d) d.toNat d0 (Nat.le_refl _) d2
    exact ⟨c, Or.inl ⟨c0, by omega, c2, c3⟩⟩
  · exact ⟨13, Or.inr ⟨rfl, fun d d0 d1 d2 => z ⟨d, d0, d1, d2⟩⟩⟩
theorem ct_is {w : Int} : isCut h q m b w (ct h q m b w) := Classical.epsilon_spec cut_ex
theorem cut_uniq {w c d : Int} (hl : h 7 w ≤ 12) (h1 : isCut h q m b w c) (h2 : isCut h q m b w d) : c = d := by
  rcases h1 with ⟨a1, a2, a3, a4⟩ | ⟨a1, a2⟩ <;> rcases h2 with ⟨b1, b2, b3, b4⟩ | ⟨b1, b2⟩
  · rcases Int.lt_trichotomy c d with z | z | z
    · exact absurd a3 (b4 c a1 z)
    · exact z
    · exact absurd b3 (a4 d b1 z)
  · exact absurd a3 (b2 c a1 a2)
  · exact absurd b3 (a2 d b1 b2)
  · omega
theorem ct_of {w c : Int} (hl : h 7 w ≤ 12) (h1 : isCut h q m b w c) : ct h q m b w = c := cut_uniq hl ct_is h1
theorem ct_b {w : Int} (hl : h 7 w ≤ 12) : 0 ≤ ct h q m b w ∧ ct h q m b w ≤ 13 ∧ (ct h q m b w ≤ h 7 w ∨ ct h q m b w = 13) := by
  rcases ct_is (h := h) (q := q) (m := m) (b := b) (w := w) with ⟨a, c, -, -⟩ | ⟨a, -⟩ <;> omega
/-- a depth that is not behind the cut is not left before it -/
theorem ct_not {w d : Int} (d0 : 0 ≤ d) (d1 : d ≤ h 7 w) (d2 : d < ct h q m b w) : ¬ lft h q m b (rp h 5 w) d := by
  rcases ct_is (h := h) (q := q) (m := m) (b := b) (w := w) with ⟨a, c, e, f⟩ | ⟨a, c⟩
  · exact f d d0 d2
  · exact c d d0 d1
theorem ct_lft {w : Int} (d1 : ct h q m b w ≤ h 7 w) (hl : h 7 w ≤ 12) : lft h q m b (rp h 5 w) (ct h q m b w) := by
  rcases ct_is (h := h) (q := q) (m := m) (b := b) (w := w) with ⟨a, c, e, f⟩ | ⟨a, c⟩
  · exact e
  · omega
theorem ct_ge {w d : Int} (hl : h 7 w ≤ 12) (d1 : d ≤ 13) (hd : ∀ x, 0 ≤ x → x < d → x ≤ h 7 w → ¬ lft h q m b (rp h 5 w) x) : d ≤ ct h q m b w := by
  rcases ct_is (h := h) (q := q) (m := m) (b := b) (w := w) with ⟨a, c, e, f⟩ | ⟨a, c⟩
  · by_cases z : d ≤ ct h q m b w
    · exact z
    · exact absurd e (hd _ a (by omega) c)
  · omega
theorem ct_eq {w d : Int} (hl : h 7 w ≤ 12) (d0 : 0 ≤ d) (d1 : d ≤ h 7 w) (hd : ∀ x, 0 ≤ x → x < d → ¬ lft h q m b (rp h 5 w) x) (hf : lft h q m b (rp h 5 w) d) : ct h q m b w = d := ct_of hl (Or.inl ⟨d0, d1, hf, hd⟩)
theorem ct_13 {w : Int} (hl : h 7 w ≤ 12) (hd : ∀ x, 0 ≤ x → x ≤ h 7 w → ¬ lft h q m b (rp h 5 w) x) : ct h q m b w = 13 := ct_of hl (Or.inr ⟨rfl, hd⟩)
theorem lsG_agr (hP : Pr h) (hS : So h) (hq : LR m q) {n n' k : Int} {p p' : Int → Int} (hp : LR n p) (hp' : LR n' p') (k1 : k ≤ n) (k2 : k ≤ n') (ha : ∀ x, 0 ≤ x → x < k → p x = p' x) {d : Int} (d0 : 0 ≤ d) (d1 : d ≤ k) : lsG h q m p d = lsG h q m p' d := by
  have m0 := hq.1
  unfold lsG
  exact mnf_ext fun j j0 j1 => Gs_agr hP hS hp hp' hq k1 k2 ha d0 d1 j0 (by omega)
theorem lft_agr (hP : Pr h) (hS : So h) (hq : LR m q) {n n' k : Int} {p p' : Int → Int} (hp : LR n p) (hp' : LR n' p') (k1 : k ≤ n) (k2 : k ≤ n') (ha : ∀ x, 0 ≤ x → x < k → p x = p' x) {d : Int} (d1 : d ≤ k) : lft h q m b p d ↔ lft h q m b p' d := by
  unfold lft
  constructor
  · intro z x x0 x1
    rw [← lsG_agr hP hS hq hp hp' k1 k2 ha (show 0 ≤ x by omega) (show x ≤ k by omega)]
    exact z x x0 x1
  · intro z x x0 x1
    rw [lsG_agr hP hS hq hp hp' k1 k2 ha (show 0 ≤ x by omega) (show x ≤ k by omega)]
    exact z x x0 x1
/-- what words that begin alike have in common -/
theorem ct_agr (hP : Pr h) (hS : So h) (W : Wd0 h) (hq : LR m q) {v w k : Int} (v0 : 0 ≤ v) (v1 : v < h 5 2) (w0 : 0 ≤ w) (w1 : w < h 5 2) (k1 : k ≤ h 7 v) (k2 : k ≤ h 7 w) (ha : ∀ x, 0 ≤ x → x < k → rp h 5 v x = rp h 5 w x) : (ct h q m b v ≤ k → ct h q m b w = ct h q m b v) ∧ (k < ct h q m b v → k < ct h q m b w) := by
  have lv := LR_w W v0 v1
  have lw := LR_w W w0 w1
  have e := fun d d1 => lft_agr (b := b) hP hS hq lv lw k1 k2 ha (d := d) d1
  have bv := ct_b (h := h) (q := q) (m := m) (b := b) lv.2.1
  constructor
  · intro z
    refine ct_eq lw.2.1 bv.1 (by omega) (fun x x0 x1 => ?_) ?_
    · rw [← e x (by omega)]
      exact ct_not x0 (by omega) x1
    · rw [← e _ z]
      exact ct_lft (by omega) lv.2.1
  · intro z
    have h1 := ct_ge (h := h) (q := q) (m := m) (b := b) (w := w) (d := k + 1) lw.2.1 (by have := lv.2.1; omega) (fun x x0 x1 x2 => by
      rw [← e x (by omega)]
      exact ct_not x0 (by omega) (by omega))
    omega
/-- the letters that a word shares with the one before it -/
theorem shW_agr (W : Wd0 h) {w : Int} (w0 : 1 ≤ w) (w1 : w < h 5 2) : 0 ≤ shW h w ∧ shW h w < h 7 w ∧ shW h w ≤ h 7 (w - 1) ∧ (∀ x, 0 ≤ x → x < shW h w → rp h 5 (w - 1) x = rp h 5 w x) ∧ rp h 5 w (shW h w) ≠ rp h 5 (w - 1) (shW h w) := by
  obtain ⟨a1, a2, a3, a4⟩ := shW_shr W w0 w1
  have a5 := shW_lt W (show 0 ≤ w by omega) w1
  have lv := LR_w W (show 0 ≤ w - 1 by omega) (by omega)
  have lw := LR_w W (show 0 ≤ w by omega) w1
  refine ⟨a1, a5.2.1, ?_, fun x x0 x1 => (a3 x x0 x1).symm, a4.elim (fun z => by omega) id⟩
  by_cases z : shW h w ≤ h 7 (w - 1)
  · exact z
  · have e := a3 (h 7 (w - 1)) (by have := lv.1; omega) (by omega)
    rw [LR_out lv (Int.le_refl _)] at e
    have := LR_in lw (k := h 7 (w - 1)) (by have := lv.1; omega) (by omega)
    omega
theorem ct_sh (hP : Pr h) (hS : So h) (W : Wd0 h) (hq : LR m q) {w : Int} (w0 : 1 ≤ w) (w1 : w < h 5 2) : (ct h q m b (w - 1) ≤ shW h w → ct h q m b w = ct h q m b (w - 1)) ∧ (shW h w < ct h q m b (w - 1) → shW h w < ct h q m b w) := by
  obtain ⟨a1, a2, a3, a4, -⟩ := shW_agr W w0 w1
  exact ct_agr hP hS W hq (by omega) (by omega) (by omega) w1 a3 (by omega) a4
theorem dpt_b (W : Wd0 h) {w : Int} (w0 : 0 ≤ w) (w1 : w < h 5 2) : 0 ≤ dpt h q m b w ∧ dpt h q m b w ≤ h 7 w ∧ dpt h q m b w ≤ 12 ∧ 1 ≤ h 7 w ∧ h 7 w ≤ 12 := by
  have l := Wd_len W w0 w1
  have := ct_b (h := h) (q := q) (m := m) (b := b) l.2.1
  unfold dpt
  omega
theorem bs_b (W : Wd0 h) : ∀ n : Nat, (n : Int) ≤ h 5 2 → 0 ≤ bs h q m b n ∧ bs h q m b n ≤ 12 * n + (if n = 0 then 0 else 1)
  | 0, _ => by rw [show ((0 : Nat) : Int) = 0 from rfl, bs_0]; exact ⟨by omega, by simp⟩
  | n + 1, hn => by
    have ih := bs_b W n (by omega)
    have d := dpt_b (q := q) (m := m) (b := b) W (w := (n : Int)) (by omega) (by omega)
    have s := shW_lt W (w := (n : Int)) (by omega) (by omega)
    have e := bs_s (h := h) (q := q) (m := m) (b := b) (w := (n : Int)) (by omega)
    rw [show ((n + 1 : Nat) : Int) = (n : Int) + 1 by omega, e]
    by_cases z : n = 0
    · subst z
      rw [if_neg (by omega)]
      rw [if_pos rfl] at ih
      omega
    · rw [if_neg (by omega)]
      rw [if_neg z] at ih
      omega
theorem bs_bd (W : Wd0 h) {w : Int} (w0 : 0 ≤ w) (w1 : w ≤ h 5 2) : 0 ≤ bs h q m b w ∧ bs h q m b w ≤ 2401 := by
  have a := bs_b (q := q) (m := m) (b := b) W w.toNat (by omega)
  have := Wd_n W
  rw [show ((w.toNat : Nat) : Int) = w by omega] at a
  split at a <;> omega
theorem bs_mono {v w : Int} (v0 : 0 ≤ v) (v1 : v ≤ w) : bs h q m b v ≤ bs h q m b w := by
  have key : ∀ n : Nat, bs h q m b v ≤ bs h q m b (v + n) := by
    intro n
    induction n with
    | zero => rw [show v + ((0 : Nat) : Int) = v by omega]; omega
    | succ n ih => rw [show v + ((n + 1 : Nat) : Int) = v + n + 1 by omega, bs_s (by omega)]; omega
  have := key (w - v).toNat
  rw [show v + (((w - v).toNat : Nat) : Int) = w by omega] at this
  exact this
theorem ps_b (W : Wd0 h) {w d : Int} (w0 : 0 ≤ w) (w1 : w < h 5 2) (d0 : shW h w < d) (d1 : d ≤ dpt h q m b w) : 0 ≤ ps h q m b w d ∧ bs h q m b w ≤ ps h q m b w d ∧ ps h q m b w d < bs h q m b (w + 1) ∧ ps h q m b w d < 2401 := by
  have a := bs_bd (q := q) (m := m) (b := b) W w0 (by omega)
  have c := bs_bd (q := q) (m := m) (b := b) W (w := w + 1) (by omega) (by omega)
  have e := bs_s (h := h) (q := q) (m := m) (b := b) w0
  unfold ps
  omega
theorem ps_ex : ∀ (n : Nat) (i : Int), 0 ≤ i → i < bs h q m b n → ∃ w d, 0 ≤ w ∧ w < (n : Int) ∧ shW h w < d ∧ d ≤ dpt h q m b w ∧ i = ps h q m b w d
  | 0, i, i0, i1 => by rw [show ((0 : Nat) : Int) = 0 from rfl, bs_0] at i1; omega
  | n + 1, i, i0, i1 => by
    have e := bs_s (h := h) (q := q) (m := m) (b := b) (w := (n : Int)) (by omega)
    by_cases z : i < bs h q m b n
    · obtain ⟨w, d, a1, a2, a3⟩ := ps_ex n i i0 z
      exact ⟨w, d, a1, by omega, a3⟩
    · rw [show ((n + 1 : Nat) : Int) = (n : Int) + 1 by omega, e] at i1
      refine ⟨n, i - bs h q m b n + shW h n + 1, by omega, by omega, by omega, by omega, ?_⟩
      unfold ps
      omega
end
