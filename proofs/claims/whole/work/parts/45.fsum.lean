/-! LEAST SUMS FROM BEFORE; a slip looks only at what it takes -/
section
variable (sp : Int → Int → Int → Int) (ta tb : Int → Int) (K : Nat)
noncomputable def Ft : Nat → Int → Int → Int
  | 0 => fun _ _ => 0
  | n + 1 => rhsF sp ta tb K (Ft n)
noncomputable def FS : Int → Int → Int := Ft sp ta tb K 30
end
section
variable {sp : Int → Int → Int → Int} {ta tb : Int → Int} {K : Nat} {la lb : Int}
theorem Ft_st (H : SPok sp ta tb K la lb) : ∀ (n : Nat) (i j : Int), 0 ≤ i → 0 ≤ j → i + j < n → Ft sp ta tb K n i j = Ft sp ta tb K (n + 1) i j
  | 0, i, j, _, _, h => by omega
  | n + 1, i, j, i0, j0, h => by
    show rhsF sp ta tb K (Ft sp ta tb K n) i j = rhsF sp ta tb K (Ft sp ta tb K (n + 1)) i j
    exact rhsF_ext H (fun x y a b c d e => Ft_st H n x y a c (by omega))
theorem FS_F (H : SPok sp ta tb K la lb) : IsF sp ta tb K la lb (FS sp ta tb K) := fun i j i0 i1 j0 j1 => by
  have := H.1; have := H.2.1; have := H.2.2.1; have := H.2.2.2.1
  exact Ft_st H 30 i j i0 j0 (by omega)
theorem FS_eq (H : SPok sp ta tb K la lb) {T : Int → Int → Int} {i j : Int} (i0 : 0 ≤ i) (i1 : i ≤ la) (j0 : 0 ≤ j) (j1 : j ≤ lb) (hT : ∀ x y, 0 ≤ x → x ≤ i → 0 ≤ y → y ≤ j → x + y < i + j → T x y = FS sp ta tb K x y) : rhsF sp ta tb K T i j = FS sp ta tb K i j := by
  rw [FS_F H i j i0 i1 j0 j1]
  exact rhsF_ext H hT
theorem FS_b (H : SPok sp ta tb K la lb) {i j : Int} (i0 : 0 ≤ i) (i1 : i ≤ la) (j0 : 0 ≤ j) (j1 : j ≤ lb) : 0 ≤ FS sp ta tb K i j ∧ FS sp ta tb K i j ≤ 239976 := by
  have := F_bd H (FS_F H) i0 i1 j0 j1
  have := H.1; have := H.2.1; have := H.2.2.1; have := H.2.2.2.1
  omega
end
theorem sp_0 {h : xH} {p q : Int → Int} {i j : Int} : sp h p q 0 i j = (if p i = -1 then -1 else if p i = q j then 0 else -1) := by
  unfold sp
  rw [if_pos rfl]
theorem sp_1 {h : xH} {p q : Int → Int} {i j : Int} : sp h p q 1 i j = (if p i = -1 ∨ q j = -1 ∨ p i = q j then -1 else byL h 11 (p i * 26 + q j) (h 10 1)) := by
  unfold sp
  rw [if_neg (by omega), if_pos rfl]
theorem sp_2 {h : xH} {p q : Int → Int} {i j : Int} : sp h p q 2 i j = (if p i = -1 then -1 else byL h 12 (p i) (h 10 2)) := by
  unfold sp
  rw [if_neg (by omega), if_neg (by omega), if_pos rfl]
theorem sp_3 {h : xH} {p q : Int → Int} {i j : Int} : sp h p q 3 i j = (if q j = -1 then -1 else byL h 13 (q j) (h 10 3)) := by
  unfold sp
  rw [if_neg (by omega), if_neg (by omega), if_neg (by omega), if_pos rfl]
theorem sp_4 {h : xH} {p q : Int → Int} {i j : Int} : sp h p q 4 i j = (if p i = -1 ∨ q j = -1 ∨ p i = q j ∨ p (i + 1) ≠ q j ∨ q (j + 1) ≠ p i then -1 else h 10 4) := by
  unfold sp
  rw [if_neg (by omega), if_neg (by omega), if_neg (by omega), if_neg (by omega), if_pos rfl]
theorem sp_5 {h : xH} {p q : Int → Int} {i j : Int} : sp h p q 5 i j = (if p i = -1 ∨ p i ≠ q j ∨ q (j + 1) ≠ p i then -1 else h 10 5) := by
  unfold sp
  rw [if_neg (by omega), if_neg (by omega), if_neg (by omega), if_neg (by omega), if_neg (by omega), if_pos rfl]
theorem sp_6 {h : xH} {p q : Int → Int} {i j : Int} : sp h p q 6 i j = (if p i = -1 ∨ p i ≠ q j ∨ p (i + 1) ≠ p i then -1 else h 10 6) := by
  unfold sp
  rw [if_neg (by omega), if_neg (by omega), if_neg (by omega), if_neg (by omega), if_neg (by omega), if_neg (by omega), if_pos rfl]
theorem sp_loc {h : xH} (hS : So h) {p p' q q' : Int → Int} {c i j : Int} (c0 : 0 ≤ c) (c1 : c < 7 + h 14 2) (hp : ∀ k, i ≤ k → k < i + tA h c → p k = p' k) (hq : ∀ k, j ≤ k → k < j + tB h c → q k = q' k) : sp h p q c i j = sp h p' q' c i j := by
  obtain ⟨tA0, tA1, tA2, tA3, tA4, tA5, tA6⟩ := tA_k (h := h)
  obtain ⟨tB0, tB1, tB2, tB3, tB4, tB5, tB6⟩ := tB_k (h := h)
  by_cases z : c < 7
  · have : c = 0 ∨ c = 1 ∨ c = 2 ∨ c = 3 ∨ c = 4 ∨ c = 5 ∨ c = 6 := by omega
    rcases this with rfl | rfl | rfl | rfl | rfl | rfl | rfl
    · rw [sp_0, sp_0, hp i (by omega) (by omega), hq j (by omega) (by omega)]
    · rw [sp_1, sp_1, hp i (by omega) (by omega), hq j (by omega) (by omega)]
    · rw [sp_2, sp_2, hp i (by omega) (by omega)]
    · rw [sp_3, sp_3, hq j (by omega) (by omega)]
    · rw [sp_4, sp_4, hp i (by omega) (by omega), hq j (by omega) (by omega), hp (i + 1) (by omega) (by omega), hq (j + 1) (by omega) (by omega)]
    · rw [sp_5, sp_5, hp i (by omega) (by omega), hq j (by omega) (by omega), hq (j + 1) (by omega) (by omega)]
    · rw [sp_6, sp_6, hp i (by omega) (by omega), hq j (by omega) (by omega), hp (i + 1) (by omega) (by omega)]
  · have es : ∀ p q, sp h p q c i j = sv h p q c i j := fun p q => by
      unfold sp
      rw [if_neg (by omega), if_neg (by omega), if_neg (by omega), if_neg (by omega), if_neg (by omega), if_neg (by omega), if_neg (by omega)]
    have eA : tA h c = h 16 (c - 7) := by unfold tA; rw [if_neg z]
    have eB : tB h c = h 19 (c - 7) := by unfold tB; rw [if_neg z]
    have a1 : stq h 14 (c - 7) p i ↔ stq h 14 (c - 7) p' i := by
      unfold stq
      constructor
      · intro w k k0 k1
        rw [← hp (i + k) (by omega) (by rw [eA]; simp only [Int.reduceAdd] at k1; omega)]; exact w k k0 k1
      · intro w k k0 k1
        rw [hp (i + k) (by omega) (by rw [eA]; simp only [Int.reduceAdd] at k1; omega)]; exact w k k0 k1
    have a2 : stq h 17 (c - 7) q j ↔ stq h 17 (c - 7) q' j := by
      unfold stq
      constructor
      · intro w k k0 k1
        rw [← hq (j + k) (by omega) (by rw [eB]; simp only [Int.reduceAdd] at k1; omega)]; exact w k k0 k1
      · intro w k k0 k1
        rw [hq (j + k) (by omega) (by rw [eB]; simp only [Int.reduceAdd] at k1; omega)]; exact w k k0 k1
    rw [es, es]
    by_cases w : stq h 14 (c - 7) p i ∧ stq h 17 (c - 7) q j
    · rw [sv_pos w, sv_pos ⟨a1.1 w.1, a2.1 w.2⟩]
    · rw [sv_neg w, sv_neg (fun x => w ⟨a1.2 x.1, a2.2 x.2⟩)]
