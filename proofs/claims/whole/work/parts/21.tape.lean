/-! THE TAPE, in the class and in the model -/
def seg (t : Int → Int) (a e lo : Int) : Prop := 1 ≤ e - a ∧ e - a ≤ lo ∧ ∀ k, a ≤ k → k < e → 97 ≤ t k ∧ t k ≤ 122
def fstP (t : Int → Int) (sg a n e : Int) : Prop := a ≤ e ∧ e ≤ n ∧ (∀ k, a ≤ k → k < e → t k ≠ sg) ∧ (e < n → t e = sg)
theorem in_1 {x a b : Int} {h : xH} (h1 : a ≤ x) (h2 : x ≤ b) : f_Md_in x a b h = some 1 := by
  simp (disch := omega) only [f_Md_in, ↓if_pos, ↓if_neg, ↓xgd_pos, ↓xgb_pos, ↓xgc_pos, ↓xlet_eq, xc1_some, xc2_some, w32_id, xup_same, xup_row, xup_ne_j, xsw_l, xsw_r]
theorem in_0 {x a b : Int} {h : xH} (h1 : x < a ∨ b < x) : f_Md_in x a b h = some 0 := by
  unfold f_Md_in
  by_cases q : x < a
  · rw [if_pos q]
  · rw [if_neg q, if_pos (by omega)]
theorem min_s {x y : Int} {h : xH} : f_Md_min x y h = some (min x y) := by
  unfold f_Md_min
  rw [Int.min_def]
  by_cases q : x < y
  · rw [if_pos q, if_pos (by omega)]
  · by_cases q2 : x ≤ y
    · rw [if_neg q, if_pos q2]; congr 1; omega
    · rw [if_neg q, if_neg q2]
/-- the bytes of a tape -/
def byt (t : Int → Int) (n : Int) : Prop := ∀ k, 0 ≤ k → k < n → 0 ≤ t k ∧ t k ≤ 255
theorem s_Tape_read {a e lo t n : Int} {h : xH} (ha : 0 ≤ a) (ha2 : a ≤ 241) (he : e ≤ 240) (he0 : 0 ≤ e) (hlo : lo ≤ 12) (ht : t ≠ 3 ∧ t + 1 ≠ 3) (hb : byt (h 3) e) : ∃ b h', f_Tape_read a e lo t h = some (b, h') ∧ (∀ o', o' ≠ t → o' ≠ t + 1 → h' o' = h o') ∧ (b = 1 ∧ seg (h 3) a e lo ∧ h' = hRow t (e - a) (fun k => h 3 (a + k) - 97) h ∨ b = 0 ∧ ¬ seg (h 3) a e lo) := by
  obtain ⟨t1, t2⟩ := ht
  unfold f_Tape_read
  rw [s_Row_clear, xc1_some, if_neg (by omega), if_neg (by omega), w32_id (by omega) (by omega)]
  by_cases q1 : e - a < 1
  · exact ⟨0, _, by rw [if_pos q1], fun o' b1 b2 => xup_row b1, Or.inr ⟨rfl, fun z => by have := z.1; omega⟩⟩
  · rw [if_neg q1]
    by_cases q2 : lo < e - a
    · exact ⟨0, _, by rw [if_pos q2], fun o' b1 b2 => xup_row b1, Or.inr ⟨rfl, fun z => by have := z.2.1; omega⟩⟩
    · rw [if_neg q2]
      have key := xloop_W (step := fun s : Int × xH => f_Tape_read_s37 e t s.1 s.2) (I := fun s => a ≤ s.1 ∧ s.1 ≤ e ∧ s.2 = hRow t (s.1 - a) (fun k => h 3 (a + k) - 97) h ∧ ∀ k, a ≤ k → k < s.1 → 97 ≤ h 3 k ∧ h 3 k ≤ 122) (fun s => (e - s.1).toNat)
        (post := fun b => (∃ h', b = Sum.inl h' ∧ seg (h 3) a e lo ∧ h' = hRow t (e - a) (fun k => h 3 (a + k) - 97) h) ∨ ∃ h', b = Sum.inr (0, h') ∧ ¬ seg (h 3) a e lo ∧ ∀ o', o' ≠ t → o' ≠ t + 1 → h' o' = h o') (s := (a, xup h t 1 0)) ?_ ?_
      · obtain ⟨b, e1, hb⟩ := key
        unfold f_Tape_read_37
        rcases hb with ⟨h', rfl, hs, rfl⟩ | ⟨h', rfl, hs, hf⟩
        · exact ⟨1, _, by rw [e1]; rfl, fun o' b1 b2 => hRow_row b1 b2, Or.inl ⟨rfl, hs, rfl⟩⟩
        · exact ⟨0, _, by rw [e1]; rfl, hf, Or.inr ⟨rfl, hs⟩⟩
      · rintro ⟨i, hh⟩ hI
        dsimp only [f_Tape_read_s37] at hI ⊢
        obtain ⟨i1, i2, rfl, i4⟩ := hI
        have e3 : hRow t (i - a) (fun k => h 3 (a + k) - 97) h 3 = h 3 := hRow_row (by omega) (by omega)
        have e4 : h 3 i - 97 = (fun k => h 3 (a + k) - 97) (i - a) := by
          show _ = h 3 (a + (i - a)) - 97
          congr 2
          omega
        by_cases q3 : i < e
        · have hbi := hb i (by omega) q3
          rw [if_pos q3, xgd_pos (by omega) (by omega), e3, w32_id (by omega) (by omega), xlet_eq]
          by_cases q4 : h 3 i - 97 < 0
          · right
            exact ⟨_, by rw [if_pos q4], Or.inr ⟨_, rfl, fun z => by have := z.2.2 i i1 q3; omega, fun o' b1 b2 => hRow_row b1 b2⟩⟩
          · rw [if_neg q4]
            by_cases q5 : h 3 i - 97 < 26
            · left
              rw [if_pos q5, e4, s_Row_append_hRow (f := fun k => h 3 (a + k) - 97) (k := i - a) (by omega) (by omega), xc2_some, if_neg (by decide), w32_id (by omega) (by omega), xlet_eq]
              refine ⟨_, rfl, ⟨by dsimp only; omega, by dsimp only; omega, ?_, fun k b1 b2 => ?_⟩, by dsimp only; omega⟩
              · dsimp only
                congr 1
                omega
              · dsimp only at b2
                by_cases hk : k = i
                · rw [hk]; omega
                · exact i4 k b1 (by omega)
            · right
              exact ⟨_, by rw [if_neg q5], Or.inr ⟨_, rfl, fun z => by have := z.2.2 i i1 q3; omega, fun o' b1 b2 => hRow_row b1 b2⟩⟩
        · right
          have : i = e := by omega
          subst this
          exact ⟨_, by rw [if_neg q3], Or.inl ⟨_, rfl, ⟨by omega, by omega, i4⟩, rfl⟩⟩
      · refine ⟨by dsimp only; omega, by dsimp only; omega, ?_, fun k b1 b2 => by dsimp only at b2; omega⟩
        dsimp only
        rw [show a - a = 0 by omega, hRow_0]
theorem s_Tape_seek {sg a n : Int} {h : xH} (ha : 0 ≤ a) (hn : a ≤ n) (hn2 : n ≤ 240) : ∃ e, f_Tape_seek sg a n h = some e ∧ fstP (h 3) sg a n e := by
  unfold f_Tape_seek f_Tape_seek_3
  have key := xloop_W (step := fun s : Int => f_Tape_seek_s3 sg n s h) (I := fun s => a ≤ s ∧ s ≤ n ∧ ∀ k, a ≤ k → k < s → h 3 k ≠ sg) (fun s => (n - s).toNat)
    (post := fun b => b = Sum.inl () ∧ fstP (h 3) sg a n n ∨ ∃ e, b = Sum.inr e ∧ fstP (h 3) sg a n e) (s := a) ?_ ⟨by omega, by omega, fun k b1 b2 => by omega⟩
  · obtain ⟨b, e1, hb⟩ := key
    rw [e1]
    rcases hb with ⟨rfl, hb⟩ | ⟨e, rfl, hb⟩
    · exact ⟨n, rfl, hb⟩
    · exact ⟨e, rfl, hb⟩
  · intro i ⟨i1, i2, i3⟩
    dsimp only [f_Tape_seek_s3, f_Tape_seek_38]
    by_cases q1 : i < n
    · by_cases q2 : h 3 i = sg
      · right
        exact ⟨Sum.inr i, by simp (disch := omega) only [↓if_pos, ↓if_neg, ↓xgd_pos, ↓xgb_pos, ↓xgc_pos, ↓xlet_eq, xc1_some, xc2_some, w32_id, xup_same, xup_row, xup_ne_j, xsw_l, xsw_r], Or.inr ⟨i, rfl, i1, i2, i3, fun _ => q2⟩⟩
      · left
        refine ⟨i + 1, by simp (disch := omega) only [↓if_pos, ↓if_neg, ↓xgd_pos, ↓xgb_pos, ↓xgc_pos, ↓xlet_eq, xc1_some, xc2_some, w32_id, xup_same, xup_row, xup_ne_j, xsw_l, xsw_r], ⟨by omega, by omega, fun k b1 b2 => ?_⟩, by omega⟩
        by_cases hk : k = i
        · rw [hk]; exact q2
        · exact i3 k b1 (by omega)
    · right
      exact ⟨Sum.inl (), by simp (disch := omega) only [↓if_pos, ↓if_neg, ↓xgd_pos, ↓xgb_pos, ↓xgc_pos, ↓xlet_eq, xc1_some, xc2_some, w32_id, xup_same, xup_row, xup_ne_j, xsw_l, xsw_r], Or.inl ⟨rfl, hn, Int.le_refl _, fun k b1 b2 => i3 k b1 (by omega), fun z => by omega⟩⟩
theorem s_Tape_takeRow {t : Int} {h : xH} (hn : 0 ≤ h 2 1 ∧ h 2 1 ≤ 240) (hb : byt (h 3) (h 2 1)) (ht : t ≠ 3 ∧ t + 1 ≠ 3 ∧ t ≠ 2 ∧ t + 1 ≠ 2) : ∃ b h', f_Tape_takeRow t h = some (b, h') ∧ (∀ o', o' ≠ 2 → o' ≠ t → o' ≠ t + 1 → h' o' = h o') ∧ h' 2 1 = 0 ∧ (b = 1 ∧ seg (h 3) 0 (h 2 1) 12 ∧ h' = hRow t (h 2 1) (fun k => h 3 k - 97) (xup h 2 1 0) ∨ b = 0 ∧ ¬ seg (h 3) 0 (h 2 1) 12) := by
  have e3 : xup h 2 1 0 3 = h 3 := xup_row (by omega)
  obtain ⟨b, h', e1, hf, hc⟩ := s_Tape_read (a := 0) (e := h 2 1) (lo := 12) (t := t) (n := 0) (h := xup h 2 1 0) (by omega) (by omega) (by omega) (by omega) (by omega) ⟨ht.1, ht.2.1⟩ (by rw [e3]; exact hb)
  rw [e3] at hc
  have hb01 : b = 0 ∨ b = 1 := by rcases hc with ⟨rfl, -⟩ | ⟨rfl, -⟩ <;> simp
  refine ⟨b, h', ?_, fun o' b1 b2 b3 => by rw [hf o' b2 b3, xup_row b1], by rw [hf 2 (by omega) (by omega), xup_same], ?_⟩
  · unfold f_Tape_takeRow
    rw [xlet_eq, xlet_eq, e1, xc2_some, xgb_pos hb01]
  · rcases hc with ⟨rfl, hs, rfl⟩ | ⟨rfl, hs⟩
    · refine Or.inl ⟨rfl, hs, ?_⟩
      rw [show h 2 1 - 0 = h 2 1 by omega]
      congr 1
      funext k
      rw [show 0 + k = k by omega]
    · exact Or.inr ⟨rfl, hs⟩
theorem s_Tape_takeTwo {lo t u : Int} {h : xH} (hn : 0 ≤ h 2 1 ∧ h 2 1 ≤ 240) (hlo : lo ≤ 12) (hb : byt (h 3) (h 2 1)) (ht : t ≠ 3 ∧ t + 1 ≠ 3 ∧ t ≠ 2 ∧ t + 1 ≠ 2) (hu : u ≠ 3 ∧ u + 1 ≠ 3 ∧ u ≠ 2 ∧ u + 1 ≠ 2) : ∃ e b h', fstP (h 3) 61 0 (h 2 1) e ∧ f_Tape_takeTwo lo t u h = some (b, h') ∧ (∀ o', o' ≠ 2 → o' ≠ t → o' ≠ t + 1 → o' ≠ u → o' ≠ u + 1 → h' o' = h o') ∧ h' 2 1 = 0 ∧ (b = 1 ∧ seg (h 3) 0 e lo ∧ seg (h 3) (e + 1) (h 2 1) lo ∧ h' = hRow u (h 2 1 - (e + 1)) (fun k => h 3 (e + 1 + k) - 97) (hRow t e (fun k => h 3 k - 97) (xup h 2 1 0)) ∨ b = 0 ∧ ¬ (seg (h 3) 0 e lo ∧ seg (h 3) (e + 1) (h 2 1) lo)) := by
  have e3 : xup h 2 1 0 3 = h 3 := xup_row (by omega)
  obtain ⟨e, q1, hfst⟩ := s_Tape_seek (sg := 61) (a := 0) (n := h 2 1) (h := xup h 2 1 0) (by omega) (by omega) (by omega)
  rw [e3] at hfst
  have hfst2 := hfst
  obtain ⟨f1, f2, f3, f4⟩ := hfst
  obtain ⟨b1, h1, q2, hf1, hc1⟩ := s_Tape_read (a := 0) (e := e) (lo := lo) (t := t) (n := 0) (h := xup h 2 1 0) (by omega) (by omega) (by omega) (by omega) hlo ⟨ht.1, ht.2.1⟩ (by rw [e3]; exact fun k a b => hb k a (by omega))
  have e31 : h1 3 = h 3 := by rw [hf1 3 (by omega) (by omega), e3]
  obtain ⟨b2, h2, q3, hf2, hc2⟩ := s_Tape_read (a := e + 1) (e := h 2 1) (lo := lo) (t := u) (n := 0) (h := h1) (by omega) (by omega) (by omega) (by omega) hlo ⟨hu.1, hu.2.1⟩ (by rw [e31]; exact hb)
  rw [e3] at hc1
  rw [e31] at hc2
  refine ⟨e, ?_⟩
  unfold f_Tape_takeTwo
  rw [xlet_eq, xlet_eq, q1, xc1_some, q2, xc2_some, w32_id (by omega) (by omega)]
  rcases hc1 with ⟨rfl, hs1, rfl⟩ | ⟨rfl, hs1⟩
  · rw [if_neg (by decide), q3, xc2_some]
    rcases hc2 with ⟨rfl, hs2, rfl⟩ | ⟨rfl, hs2⟩
    · refine ⟨1, _, hfst2, by rw [if_neg (by decide)], fun o' a1 a2 a3 a4 a5 => by rw [hf2 o' a4 a5, hf1 o' a2 a3, xup_row a1], by rw [hf2 2 (by omega) (by omega), hf1 2 (by omega) (by omega), xup_same], Or.inl ⟨rfl, hs1, hs2, ?_⟩⟩
      rw [show e - 0 = e by omega]
      congr 2
      funext k
      rw [show 0 + k = k by omega]
    · exact ⟨0, _, hfst2, by rw [if_pos rfl], fun o' a1 a2 a3 a4 a5 => by rw [hf2 o' a4 a5, hf1 o' a2 a3, xup_row a1], by rw [hf2 2 (by omega) (by omega), hf1 2 (by omega) (by omega), xup_same], Or.inr ⟨rfl, fun z => hs2 z.2⟩⟩
  · exact ⟨0, _, hfst2, by rw [if_pos rfl], fun o' a1 a2 a3 a4 a5 => by rw [hf1 o' a2 a3, xup_row a1], by rw [hf1 2 (by omega) (by omega), xup_same], Or.inr ⟨rfl, fun z => hs1 z.1⟩⟩
/-- the model's rows: letters laid from a place on -/
def hLet (p n : Int) (f : Int → Int) (h : xH) : xH := fun o j => if o = 84 ∧ p ≤ j ∧ j < p + n then f (j - p) else h o j
theorem hLet_row {p n : Int} {f : Int → Int} {h : xH} {o : Int} (ho : o ≠ 84) : hLet p n f h o = h o := by
  funext j
  unfold hLet
  rw [if_neg (fun q => ho q.1)]
theorem hLet_in {p n : Int} {f : Int → Int} {h : xH} {j : Int} (h1 : p ≤ j) (h2 : j < p + n) : hLet p n f h 84 j = f (j - p) := if_pos ⟨rfl, h1, h2⟩
theorem hLet_out {p n : Int} {f : Int → Int} {h : xH} {j : Int} (h1 : j < p ∨ p + n ≤ j) : hLet p n f h 84 j = h 84 j := if_neg (by omega)
theorem hLet_0 {p : Int} {f : Int → Int} {h : xH} : hLet p 0 f h = h := by
  funext o j
  unfold hLet
  rw [if_neg (by omega)]
theorem hLet_succ {p n : Int} {f : Int → Int} {h : xH} (hn : 0 ≤ n) : xup (hLet p n f h) 84 (p + n) (f n) = hLet p (n + 1) f h := by
  funext o j
  simp only [xup, hLet]
  by_cases c1 : o = 84 ∧ j = p + n
  · rw [if_pos c1, if_pos (by omega), c1.2]
    congr 1
    omega
  · rw [if_neg c1]
    by_cases c2 : o = 84 ∧ p ≤ j ∧ j < p + n
    · rw [if_pos c2, if_pos (by omega)]
    · rw [if_neg c2, if_neg (by omega)]
noncomputable def mstep (sg most lo n : Int) : Int × Int × xH → Option ((Int × Int × xH) ⊕ (xH ⊕ (Int × xH))) := fun s => f_Md_reads_s22 sg most lo n s.1 s.2.1 s.2.2
/-- within a row of the model's reading -/
theorem mseg {sg most lo n a e : Int} {h : xH} (hsg : ¬ (97 ≤ sg ∧ sg ≤ 122)) (hr : 0 ≤ h 81 2 ∧ h 81 2 < 12) (hlo : lo ≤ 12) (ha : 0 ≤ a) (hn : n ≤ 240) (hb : byt (h 82) n) (hf : fstP (h 82) sg a n e) : ∀ (m : Nat) (k : Int), (e - (a + k)).toNat = m → 0 ≤ k → k ≤ lo → a + k ≤ e → (∀ j, a ≤ j → j < a + k → 97 ≤ h 82 j ∧ h 82 j ≤ 122) →
    ((e - a ≤ lo ∧ ∀ j, a ≤ j → j < e → 97 ≤ h 82 j ∧ h 82 j ≤ 122) ∧ xloop (mstep sg most lo n) (k, a + k, hLet (12 * h 81 2) k (fun k => h 82 (a + k) - 97) h) = xloop (mstep sg most lo n) (e - a, e, hLet (12 * h 81 2) (e - a) (fun k => h 82 (a + k) - 97) h)) ∨
    (¬ (e - a ≤ lo ∧ ∀ j, a ≤ j → j < e → 97 ≤ h 82 j ∧ h 82 j ≤ 122) ∧ ∃ k', xloop (mstep sg most lo n) (k, a + k, hLet (12 * h 81 2) k (fun k => h 82 (a + k) - 97) h) = some (Sum.inr (0, hLet (12 * h 81 2) k' (fun k => h 82 (a + k) - 97) h))) := by
  obtain ⟨f1, f2, f3, f4⟩ := hf
  intro m
  induction m with
  | zero =>
    intro k hm k0 k1 k2 k3
    have hk : k = e - a := by omega
    subst hk
    left
    refine ⟨⟨by omega, fun j b1 b2 => k3 j b1 (by omega)⟩, ?_⟩
    rw [show a + (e - a) = e by omega]
  | succ m ih =>
    intro k hm k0 k1 k2 k3
    have hlt : a + k < e := by omega
    have hbi := hb (a + k) (by omega) (by omega)
    have hne := f3 (a + k) (by omega) hlt
    have e82 : hLet (12 * h 81 2) k (fun k => h 82 (a + k) - 97) h 82 = h 82 := hLet_row (by omega)
    have e81 : hLet (12 * h 81 2) k (fun k => h 82 (a + k) - 97) h 81 = h 81 := hLet_row (by omega)
    by_cases q1 : 97 ≤ h 82 (a + k) ∧ h 82 (a + k) ≤ 122
    · by_cases q2 : k = lo
      · right
        refine ⟨fun z => by omega, k, xloop_out ?_⟩
        dsimp only [mstep, f_Md_reads_s22]
        rw [if_neg (by omega), if_neg (by omega), xgd_pos (by omega) (by omega)]
        simp only [e82]
        rw [if_neg hne, xgd_pos (by omega) (by omega), in_1 q1.1 q1.2, xc1_some, if_neg (by decide), if_pos q2]
      · have hstep : mstep sg most lo n (k, a + k, hLet (12 * h 81 2) k (fun k => h 82 (a + k) - 97) h) = some (Sum.inl (k + 1, a + (k + 1), hLet (12 * h 81 2) (k + 1) (fun k => h 82 (a + k) - 97) h)) := by
          dsimp only [mstep, f_Md_reads_s22, f_Md_reads_145]
          rw [if_neg (by omega), if_neg (by omega), xgd_pos (by omega) (by omega)]
          simp only [e82]
          rw [if_neg hne, xgd_pos (by omega) (by omega), in_1 q1.1 q1.2, xc1_some, if_neg (by decide), if_neg q2, w32_id (by omega) (by omega), xlet_eq, xgd_pos (by omega) (by omega), e81, w32_id (z := 12 * h 81 2) (by omega) (by omega), w32_id (z := 12 * h 81 2 + k) (by omega) (by omega), xgd_pos (by omega) (by omega), w32_id (z := h 82 (a + k) - 97) (by omega) (by omega), xlet_eq, hLet_succ (f := fun k => h 82 (a + k) - 97) k0, w32_id (by omega) (by omega), xlet_eq]
          rw [show a + k + 1 = a + (k + 1) by omega]
        rw [xloop_in hstep]
        exact ih (k + 1) (by omega) (by omega) (by omega) (by omega) (fun j b1 b2 => by
          by_cases hj : j = a + k
          · rw [hj]; exact q1
          · exact k3 j b1 (by omega))
    · right
      refine ⟨fun z => q1 (z.2 (a + k) (by omega) hlt), k, xloop_out ?_⟩
      dsimp only [mstep, f_Md_reads_s22]
      rw [if_neg (by omega), if_neg (by omega), xgd_pos (by omega) (by omega)]
      simp only [e82]
      rw [if_neg hne, xgd_pos (by omega) (by omega), in_0 (by omega), xc1_some, if_pos rfl]
/-- a row of the model's reading is done -/
def mrow (r a e : Int) (h : xH) : xH := xup (xup (hLet (12 * r) (e - a) (fun k => h 82 (a + k) - 97) h) 81 2 (r + 1)) 83 r (e - a)
theorem mrow_row {r a e : Int} {h : xH} {o : Int} (h1 : o ≠ 81) (h2 : o ≠ 83) (h3 : o ≠ 84) : mrow r a e h o = h o := by
  unfold mrow
  rw [xup_row h2, xup_row h1, hLet_row h3]
theorem mrow_81 {r a e : Int} {h : xH} {j : Int} (h1 : j ≠ 2) : mrow r a e h 81 j = h 81 j := by
  unfold mrow
  rw [xup_row (by omega), xup_ne_j h1, hLet_row (by omega)]
theorem mrow_n {r a e : Int} {h : xH} : mrow r a e h 81 2 = r + 1 := by
  unfold mrow
  rw [xup_row (by omega), xup_same]
theorem mrow_len {r a e : Int} {h : xH} : mrow r a e h 83 r = e - a := by
  unfold mrow
  rw [xup_same]
theorem mrow_len' {r a e : Int} {h : xH} {j : Int} (hj : j ≠ r) : mrow r a e h 83 j = h 83 j := by
  unfold mrow
  rw [xup_ne_j hj, xup_row (by omega), hLet_row (by omega)]
theorem mrow_let {r a e : Int} {h : xH} {k : Int} (h1 : 0 ≤ k) (h2 : k < e - a) : mrow r a e h 84 (12 * r + k) = h 82 (a + k) - 97 := by
  unfold mrow
  rw [xup_row (by omega), xup_row (by omega), hLet_in (by omega) (by omega), show 12 * r + k - 12 * r = k by omega]
theorem mrow_let' {r a e : Int} {h : xH} {j : Int} (h1 : j < 12 * r ∨ 12 * r + (e - a) ≤ j) : mrow r a e h 84 j = h 84 j := by
  unfold mrow
  rw [xup_row (by omega), xup_row (by omega), hLet_out h1]
theorem mread {sg most lo n a e : Int} {h : xH} (hsg : ¬ (97 ≤ sg ∧ sg ≤ 122)) (hr : 0 ≤ h 81 2 ∧ h 81 2 < 12) (hlo : 1 ≤ lo ∧ lo ≤ 12) (ha : 0 ≤ a) (hn : n ≤ 240) (hb : byt (h 82) n) (hf : fstP (h 82) sg a n e) :
    (seg (h 82) a e lo ∧ (e < n ∧ h 81 2 + 1 ≠ most ∨ e = n) ∧ xloop (mstep sg most lo n) (0, a, h) = xloop (mstep sg most lo n) (0, e + 1, mrow (h 81 2) a e h)) ∨
    (¬ (seg (h 82) a e lo ∧ (e < n ∧ h 81 2 + 1 ≠ most ∨ e = n)) ∧ ∃ h', xloop (mstep sg most lo n) (0, a, h) = some (Sum.inr (0, h')) ∧ (∀ o, o ≠ 81 → o ≠ 83 → o ≠ 84 → h' o = h o) ∧ ∀ j, j ≠ 2 → h' 81 j = h 81 j) := by
  have hf0 := hf
  obtain ⟨f1, f2, f3, f4⟩ := hf
  have e0 : xloop (mstep sg most lo n) (0, a, h) = xloop (mstep sg most lo n) (0, a + 0, hLet (12 * h 81 2) 0 (fun k => h 82 (a + k) - 97) h) := by rw [hLet_0, show a + 0 = a by omega]
  have e82 : ∀ k, hLet (12 * h 81 2) k (fun k => h 82 (a + k) - 97) h 82 = h 82 := fun k => hLet_row (by omega)
  have e81 : ∀ k, hLet (12 * h 81 2) k (fun k => h 82 (a + k) - 97) h 81 = h 81 := fun k => hLet_row (by omega)
  rcases mseg (most := most) hsg hr hlo.2 ha hn hb hf0 (e - (a + 0)).toNat 0 rfl (by omega) (by omega) (by omega) (fun j b1 b2 => by omega) with ⟨⟨g1, g2⟩, g3⟩ | ⟨g1, k', g3⟩
  · rw [e0, g3]
    have at47 : mstep sg most lo n (e - a, e, hLet (12 * h 81 2) (e - a) (fun k => h 82 (a + k) - 97) h) = f_Md_reads_47 sg most lo n (e - a) e (hLet (12 * h 81 2) (e - a) (fun k => h 82 (a + k) - 97) h) := by
      dsimp only [mstep, f_Md_reads_s22]
      rw [if_neg (by omega)]
      by_cases q : e = n
      · rw [if_pos q]
      · rw [if_neg q, xgd_pos (by omega) (by omega)]
        simp only [e82]
        rw [if_pos (f4 (by omega))]
    by_cases q1 : e - a = 0
    · right
      refine ⟨fun z => by have := z.1.1; omega, _, xloop_out (by rw [at47]; unfold f_Md_reads_47; rw [if_pos q1]), fun o b1 b2 b3 => hLet_row b3, fun j _ => by rw [e81]⟩
    · have hm : ∀ hh : xH, hh = hLet (12 * h 81 2) (e - a) (fun k => h 82 (a + k) - 97) h → f_Md_reads_47 sg most lo n (e - a) e hh = if e < n then (if h 81 2 + 1 = most then some (Sum.inr (Sum.inr (0, mrow (h 81 2) a e h))) else some (Sum.inl (0, e + 1, mrow (h 81 2) a e h))) else some (Sum.inl (0, e + 1, mrow (h 81 2) a e h)) := by
        intro hh ehh
        have e81' : hh 81 = h 81 := by rw [ehh]; exact e81 _
        have em : xup (xup hh 81 2 (h 81 2 + 1)) 83 (h 81 2) (e - a) = mrow (h 81 2) a e h := by rw [ehh]; rfl
        have e2 : mrow (h 81 2) a e h 81 2 = h 81 2 + 1 := mrow_n
        unfold f_Md_reads_47 f_Md_reads_145
        rw [if_neg q1, e81', w32_id (by omega) (by omega), xlet_eq, xgd_pos (by omega) (by omega), xlet_eq, em, e2, w32_id (by omega) (by omega), xlet_eq]
      rw [hm _ rfl] at at47
      by_cases q2 : e < n
      · rw [if_pos q2] at at47
        by_cases q3 : h 81 2 + 1 = most
        · rw [if_pos q3] at at47
          exact Or.inr ⟨fun z => by omega, _, xloop_out at47, fun o b1 b2 b3 => mrow_row b1 b2 b3, fun j hj => mrow_81 hj⟩
        · rw [if_neg q3] at at47
          exact Or.inl ⟨⟨by omega, g1, g2⟩, Or.inl ⟨q2, q3⟩, xloop_in at47⟩
      · rw [if_neg q2] at at47
        exact Or.inl ⟨⟨by omega, g1, g2⟩, Or.inr (by omega), xloop_in at47⟩
  · rw [e0, g3]
    exact Or.inr ⟨fun z => g1 ⟨z.1.2.1, z.1.2.2⟩, _, rfl, fun o b1 b2 b3 => hLet_row b3, fun j _ => by rw [e81]⟩
