/-! CALLS that are soon told: feed, find, model, price, and what only reads -/
def Op2 (f g : xH → Option (Int × xH)) : Prop := ∀ h, Inv h → ∃ r h1 h2, f h = some (r, h1) ∧ g h1 = some (r, h2) ∧ Inv h2
def Op1 (f g : xH → Option Int) : Prop := ∀ h, Inv h → ∃ r, f h = some r ∧ g h = some r
/-- the model's part may be run over the heap as it was -/
theorem op2_of {f g : xH → Option (Int × xH)} (lg : ∀ c h : xH, g (mx c h) = Option.map (fun q : Int × xH => (q.1, mx c q.2)) (g h)) (H : ∀ h, Inv h → ∃ r h1 h2, f h = some (r, h1) ∧ (∀ o, 81 ≤ o → h1 o = h o) ∧ g h = some (r, h2) ∧ Inv (mx h1 h2)) : Op2 f g := by
  intro h hI
  obtain ⟨r, h1, h2, e1, e2, e3, e4⟩ := H h hI
  refine ⟨r, h1, mx h1 h2, e1, ?_, e4⟩
  have e5 : h1 = mx h1 h := by
    funext o
    by_cases q : o ≤ 80
    · rw [mx_lo q]
    · rw [mx_hi (by omega), e2 o (by omega)]
  rw [e5, lg, e3, ← e5]
  rfl
theorem off_hi {R K : List Int} {h h' : xH} (ho : off R K h h') (hR : R.all (fun o => decide (o ≤ 80)) = true) (hK : K = []) : ∀ o, 81 ≤ o → h' o = h o := fun o h1 => by
  rw [List.all_eq_true] at hR
  by_cases q : o = 81
  · subst q
    funext j
    exact ho.2 j (by rw [hK]; exact List.not_mem_nil)
  · exact ho.1 o q (fun z => by have := hR o z; simp at this; omega)
theorem off_mx {R K R' K' : List Int} {h h1 h2 : xH} (a : off R K h h1) (b : off R' K' h h2) : off (R ++ R') K' h (mx h1 h2) := by
  refine ⟨fun o h0 hn => ?_, fun j hn => ?_⟩
  · by_cases q : o ≤ 80
    · rw [mx_lo q]; exact a.1 o h0 (fun z => hn (List.mem_append_left _ z))
    · rw [mx_hi (by omega)]; exact b.1 o h0 (fun z => hn (List.mem_append_right _ z))
  · rw [mx_hi (by decide)]; exact b.2 j hn
def hLay (o p n : Int) (f : Int → Int) (h : xH) : xH := fun o' j => if o' = o ∧ p ≤ j ∧ j < p + n then f (j - p) else h o' j
theorem hLay_row {o p n : Int} {f : Int → Int} {h : xH} {o' : Int} (ho : o' ≠ o) : hLay o p n f h o' = h o' := by
  funext j
  unfold hLay
  rw [if_neg (fun q => ho q.1)]
theorem hLay_in {o p n : Int} {f : Int → Int} {h : xH} {j : Int} (h1 : p ≤ j) (h2 : j < p + n) : hLay o p n f h o j = f (j - p) := if_pos ⟨rfl, h1, h2⟩
theorem hLay_out {o p n : Int} {f : Int → Int} {h : xH} {j : Int} (h1 : j < p ∨ p + n ≤ j) : hLay o p n f h o j = h o j := if_neg (by omega)
theorem hLay_0 {o p : Int} {f : Int → Int} {h : xH} : hLay o p 0 f h = h := by
  funext o' j
  unfold hLay
  rw [if_neg (by omega)]
theorem hLay_succ {o p n : Int} {f : Int → Int} {h : xH} (hn : 0 ≤ n) : xup (hLay o p n f h) o (p + n) (f n) = hLay o p (n + 1) f h := by
  funext o' j
  simp only [xup, hLay]
  by_cases c1 : o' = o ∧ j = p + n
  · rw [if_pos c1, if_pos (by omega), c1.2]
    congr 1
    omega
  · rw [if_neg c1]
    by_cases c2 : o' = o ∧ p ≤ j ∧ j < p + n
    · rw [if_pos c2, if_pos (by omega)]
    · rw [if_neg c2, if_neg (by omega)]
theorem off_lay {o p n : Int} {f : Int → Int} {h : xH} (ho : o ≠ 81) : off [o] [] h (hLay o p n f h) := ⟨fun o' _ hn => hLay_row (fun z => hn (by rw [z]; exact List.mem_cons_self)), fun j' _ => by rw [hLay_row (fun z => ho z.symm)]⟩
theorem xup_idem {h : xH} {o j a b : Int} : xup (xup h o j a) o j b = xup h o j b := by
  funext o' j'
  simp only [xup]
  split <;> rfl
theorem xup_comm {h : xH} {o j a o2 j2 b : Int} (hn : o ≠ o2 ∨ j ≠ j2) : xup (xup h o j a) o2 j2 b = xup (xup h o2 j2 b) o j a := by
  funext o' j'
  simp only [xup]
  by_cases c1 : o' = o2 ∧ j' = j2
  · rw [if_pos c1, if_neg (by omega), if_pos c1]
  · rw [if_neg c1]
    by_cases c2 : o' = o ∧ j' = j
    · rw [if_pos c2, if_pos c2]
    · rw [if_neg c2, if_neg c2, if_neg c1]
theorem off_hRow {t n : Int} {f : Int → Int} {h : xH} (h1 : t ≠ 81) (h2 : t + 1 ≠ 81) : off [t, t + 1] [] h (hRow t n f h) := ⟨fun o' _ hn => hRow_row (fun z => hn (by simp [z])) (fun z => hn (by simp [z])), fun j' _ => by rw [hRow_row (fun z => h1 z.symm) (fun z => h2 z.symm)]⟩
theorem xloop_T {σ β : Type} {step : σ → Option (σ ⊕ β)} (S : Nat → σ) (n : Nat) {s0 : σ} {b : β} (h0 : s0 = S 0) (hs : ∀ k, k < n → step (S k) = some (.inl (S (k + 1)))) (he : step (S n) = some (.inr b)) : xloop step s0 = some b := by
  rw [h0]
  exact xloop_S S n b hs he
theorem op_feed (n : Int) (b : Int64) : Op2 (f_WM_feed n b) (f_Md_feed n b) := by
  intro h hI
  have hT := hI.1
  obtain ⟨t1, t2, t3, t4, t5⟩ := hT
  by_cases q1 : n < 1 ∨ 8 < n
  · refine ⟨-2, h, h, ?_, ?_, hI⟩
    · unfold f_WM_feed f_Tape_append
      by_cases q2 : n < 1
      · simp (disch := omega) only [↓if_pos, ↓if_neg, ↓xgd_pos, ↓xgb_pos, ↓xgc_pos, ↓xlet_eq, xc1_some, xc2_some, w32_id, xup_same, xup_row, xup_ne_j, xsw_l, xsw_r]
      · simp (disch := omega) only [↓if_pos, ↓if_neg, ↓xgd_pos, ↓xgb_pos, ↓xgc_pos, ↓xlet_eq, xc1_some, xc2_some, w32_id, xup_same, xup_row, xup_ne_j, xsw_l, xsw_r]
    · unfold f_Md_feed
      rw [in_0 q1, xc1_some, if_pos rfl]
  · by_cases q2 : 240 < h 2 1 + n
    · refine ⟨-4, h, h, ?_, ?_, hI⟩
      · unfold f_WM_feed f_Tape_append
        simp (disch := omega) only [↓if_pos, ↓if_neg, ↓xgd_pos, ↓xgb_pos, ↓xgc_pos, ↓xlet_eq, xc1_some, xc2_some, w32_id, xup_same, xup_row, xup_ne_j, xsw_l, xsw_r]
      · unfold f_Md_feed
        rw [in_1 (by omega) (by omega), xc1_some]
        simp (disch := omega) only [t3, ↓if_pos, ↓if_neg, ↓xgd_pos, ↓xgb_pos, ↓xgc_pos, ↓xlet_eq, xc1_some, xc2_some, w32_id, xup_same, xup_row, xup_ne_j, xsw_l, xsw_r]
    · have hs := xloop_S (step := fun s : Int × xH => f_Tape_append_s41 n b s.1 s.2) (fun k => ((k : Int), hLay 3 (h 2 1) k (fun k => xand (Int64.toInt32 (xlushr b (8 * k))).toInt 255) h)) n.toNat (hLay 3 (h 2 1) n (fun k => xand (Int64.toInt32 (xlushr b (8 * k))).toInt 255) h) ?_ ?_
      · have e1 : f_WM_feed n b h = some (h 2 1 + n, xup (hLay 3 (h 2 1) n (fun k => xand (Int64.toInt32 (xlushr b (8 * k))).toInt 255) h) 2 1 (h 2 1 + n)) := by
          unfold f_WM_feed f_Tape_append f_Tape_append_41
          have e : xloop (fun s : Int × xH => f_Tape_append_s41 n b s.1 s.2) (0, h) = some (hLay 3 (h 2 1) n (fun k => xand (Int64.toInt32 (xlushr b (8 * k))).toInt 255) h) := by
            have := hs
            rw [show ((0 : Nat) : Int) = 0 by rfl, hLay_0] at this
            exact this
          simp (disch := omega) only [e, f_Tape_append_77, hLay_row, ↓if_pos, ↓if_neg, ↓xgd_pos, ↓xgb_pos, ↓xgc_pos, ↓xlet_eq, xc1_some, xc2_some, w32_id, xup_same, xup_row, xup_ne_j, xsw_l, xsw_r]
        have hm := xloop_S (step := fun s : Int × xH => f_Md_feed_s31 n b s.1 s.2) (fun k => ((k : Int), xup (hLay 82 (h 2 1) k (fun k => xand (Int64.toInt32 (xlushr b (8 * k))).toInt 255) (xup (hLay 3 (h 2 1) n (fun k => xand (Int64.toInt32 (xlushr b (8 * k))).toInt 255) h) 2 1 (h 2 1 + n))) 81 1 (h 2 1 + k))) n.toNat (xup (hLay 82 (h 2 1) n (fun k => xand (Int64.toInt32 (xlushr b (8 * k))).toInt 255) (xup (hLay 3 (h 2 1) n (fun k => xand (Int64.toInt32 (xlushr b (8 * k))).toInt 255) h) 2 1 (h 2 1 + n))) 81 1 (h 2 1 + n)) ?_ ?_
        · generalize hg : (fun k : Int => xand (Int64.toInt32 (xlushr b (8 * k))).toInt 255) = g at *
          have hgr : ∀ k, 0 ≤ g k ∧ g k ≤ 255 := fun k => by rw [← hg]; exact xand_rng _
          refine ⟨h 2 1 + n, _, xup (hLay 82 (h 2 1) n g (xup (hLay 3 (h 2 1) n g h) 2 1 (h 2 1 + n))) 81 1 (h 2 1 + n), e1, ?_, ?_⟩
          · unfold f_Md_feed f_Md_feed_31
            rw [in_1 (by omega) (by omega), xc1_some]
            have e : xloop (fun s : Int × xH => f_Md_feed_s31 n b s.1 s.2) (0, xup (hLay 3 (h 2 1) n g h) 2 1 (h 2 1 + n)) = some (xup (hLay 82 (h 2 1) n g (xup (hLay 3 (h 2 1) n g h) 2 1 (h 2 1 + n))) 81 1 (h 2 1 + n)) := by
              have := hm
              rw [show ((0 : Nat) : Int) = 0 by rfl, hLay_0, show h 2 1 + 0 = (xup (hLay 3 (h 2 1) n g h) 2 1 (h 2 1 + n)) 81 1 by rw [xup_row (by omega), hLay_row (by omega), t3]; omega] at this
              have e0 : xup (xup (hLay 3 (h 2 1) n g h) 2 1 (h 2 1 + n)) 81 1 (xup (hLay 3 (h 2 1) n g h) 2 1 (h 2 1 + n) 81 1) = xup (hLay 3 (h 2 1) n g h) 2 1 (h 2 1 + n) := by
                funext o j
                by_cases c : o = 81 ∧ j = 1
                · rw [c.1, c.2, xup_same]
                · show (if o = 81 ∧ j = 1 then _ else _) = _
                  rw [if_neg c]
              rw [e0] at this
              exact this
            simp (disch := omega) only [e, t3, f_Md_feed_71, hLay_row, ↓if_pos, ↓if_neg, ↓xgd_pos, ↓xgb_pos, ↓xgc_pos, ↓xlet_eq, xc1_some, xc2_some, w32_id, xup_same, xup_row, xup_ne_j, xsw_l, xsw_r]
          · have ho : off [3, 2, 82] [1] h (xup (hLay 82 (h 2 1) n g (xup (hLay 3 (h 2 1) n g h) 2 1 (h 2 1 + n))) 81 1 (h 2 1 + n)) :=
              off_w (off_tr (off_tr (off_tr (off_lay (by decide)) (off_up (by decide))) (off_lay (by decide))) off_um) (by decide) (by decide)
            have hT' : Tp (xup (hLay 82 (h 2 1) n g (xup (hLay 3 (h 2 1) n g h) 2 1 (h 2 1 + n))) 81 1 (h 2 1 + n)) := by
              unfold Tp byt
              simp (disch := omega) only [hLay_row, ↓if_pos, ↓if_neg, ↓xgd_pos, ↓xgb_pos, ↓xgc_pos, ↓xlet_eq, xc1_some, xc2_some, w32_id, xup_same, xup_row, xup_ne_j, xsw_l, xsw_r]
              refine ⟨by omega, by omega, trivial, fun k a c => ?_, fun k a c => ?_⟩
              · by_cases hk : k < h 2 1
                · rw [hLay_out (by omega)]; exact t4 k a hk
                · rw [hLay_in (by omega) (by omega)]; exact hgr _
              · by_cases hk : k < h 2 1
                · rw [hLay_out (by omega), hLay_out (by omega)]
                  simp (disch := omega) only [hLay_row, ↓if_pos, ↓if_neg, ↓xgd_pos, ↓xgb_pos, ↓xgc_pos, ↓xlet_eq, xc1_some, xc2_some, w32_id, xup_same, xup_row, xup_ne_j, xsw_l, xsw_r]
                  exact t5 k a hk
                · rw [hLay_in (by omega) (by omega), hLay_in (by omega) (by omega)]
            exact inv_mk ho hI
        · intro k hk
          dsimp only [f_Md_feed_s31]
          have hbe := byte_eq b k (by omega) (by omega)
          simp (disch := omega) only [hLay_row, ↓if_pos, ↓if_neg, ↓xgd_pos, ↓xgb_pos, ↓xgc_pos, ↓xlet_eq, xc1_some, xc2_some, w32_id, xup_same, xup_row, xup_ne_j, xsw_l, xsw_r]
          rw [← hbe, xup_comm (Or.inl (by decide)), xup_comm (o := 81) (Or.inl (by decide)), xup_idem]
          rw [show xand (Int64.toInt32 (xlushr b (8 * (k : Int)))).toInt 255 = (fun k : Int => xand (Int64.toInt32 (xlushr b (8 * k))).toInt 255) (k : Int) from rfl, hLay_succ (by omega)]
          congr 4
          omega
        · dsimp only [f_Md_feed_s31]
          have e : ((n.toNat : Nat) : Int) = n := by omega
          rw [e, if_neg (by omega)]
      · intro k hk
        dsimp only [f_Tape_append_s41]
        simp (disch := omega) only [hLay_row, ↓if_pos, ↓if_neg, ↓xgd_pos, ↓xgb_pos, ↓xgc_pos, ↓xlet_eq, xc1_some, xc2_some, w32_id, xup_same, xup_row, xup_ne_j, xsw_l, xsw_r]
        rw [show xand (Int64.toInt32 (xlushr b (8 * (k : Int)))).toInt 255 = (fun k : Int => xand (Int64.toInt32 (xlushr b (8 * k))).toInt 255) (k : Int) from rfl, hLay_succ (by omega)]
        congr 3
      · dsimp only [f_Tape_append_s41]
        have e : ((n.toNat : Nat) : Int) = n := by omega
        rw [e, if_neg (by omega)]
theorem op_status : Op1 f_WM_status f_Md_status := by
  intro h hI
  exact ⟨h 77 3, rfl, by unfold f_Md_status; rw [hI.2.2.2.2.2.2.2.2.2.2.1]⟩
theorem op_model (w : Int) : Op2 (f_WM_model w) (f_Md_model w) := by
  intro h hI
  obtain ⟨t1, t2, t3⟩ := hI.2.2.1
  by_cases q1 : w < 0 ∨ 100000 < w
  · refine ⟨-2, h, h, ?_, ?_, hI⟩
    · unfold f_WM_model
      by_cases q2 : w < 0
      · simp (disch := omega) only [↓if_pos, ↓if_neg, ↓xgd_pos, ↓xgb_pos, ↓xgc_pos, ↓xlet_eq, xc1_some, xc2_some, w32_id, xup_same, xup_row, xup_ne_j, xsw_l, xsw_r]
      · simp (disch := omega) only [↓if_pos, ↓if_neg, ↓xgd_pos, ↓xgb_pos, ↓xgc_pos, ↓xlet_eq, xc1_some, xc2_some, w32_id, xup_same, xup_row, xup_ne_j, xsw_l, xsw_r]
    · unfold f_Md_model
      rw [in_0 q1, xc1_some, if_pos rfl]
  · refine ⟨h 4 2, xup h 4 2 w, xup (xup h 4 2 w) 81 15 w, ?_, ?_, ?_⟩
    · unfold f_WM_model
      simp (disch := omega) only [↓if_pos, ↓if_neg, ↓xgd_pos, ↓xgb_pos, ↓xgc_pos, ↓xlet_eq, xc1_some, xc2_some, w32_id, xup_same, xup_row, xup_ne_j, xsw_l, xsw_r]
    · unfold f_Md_model
      rw [in_1 (by omega) (by omega), xc1_some]
      simp (disch := omega) only [t1, ↓if_pos, ↓if_neg, ↓xgd_pos, ↓xgb_pos, ↓xgc_pos, ↓xlet_eq, xc1_some, xc2_some, w32_id, xup_same, xup_row, xup_ne_j, xsw_l, xsw_r]
    · have ho : off [4] [15] h (xup (xup h 4 2 w) 81 15 w) := off_w (off_tr (off_up (by decide)) off_um) (by decide) (by decide)
      have hT' : Wt (xup (xup h 4 2 w) 81 15 w) := by
        refine ⟨?_, ?_, ?_⟩
        · simp (disch := omega) only [↓if_pos, ↓if_neg, ↓xgd_pos, ↓xgb_pos, ↓xgc_pos, ↓xlet_eq, xc1_some, xc2_some, w32_id, xup_same, xup_row, xup_ne_j, xsw_l, xsw_r]
        · simp (disch := omega) only [↓if_pos, ↓if_neg, ↓xgd_pos, ↓xgb_pos, ↓xgc_pos, ↓xlet_eq, xc1_some, xc2_some, w32_id, xup_same, xup_row, xup_ne_j, xsw_l, xsw_r]
          omega
        · simp (disch := omega) only [↓if_pos, ↓if_neg, ↓xgd_pos, ↓xgb_pos, ↓xgc_pos, ↓xlet_eq, xc1_some, xc2_some, w32_id, xup_same, xup_row, xup_ne_j, xsw_l, xsw_r]
          omega
      exact inv_mk ho hI
theorem op_way (i w : Int) : Op1 (f_WM_way i w) (f_Md_way i w) := by
  intro h hI
  have hW := hI.2.2.2.2.2.2.1
  unfold f_WM_way f_Md_way
  by_cases q1 : w < 0 ∨ 4 < w
  · refine ⟨-2, ?_, ?_⟩
    · by_cases q2 : w < 0
      · simp (disch := omega) only [↓if_pos, ↓if_neg, ↓xgd_pos, ↓xgb_pos, ↓xgc_pos, ↓xlet_eq, xc1_some, xc2_some, w32_id, xup_same, xup_row, xup_ne_j, xsw_l, xsw_r]
      · simp (disch := omega) only [↓if_pos, ↓if_neg, ↓xgd_pos, ↓xgb_pos, ↓xgc_pos, ↓xlet_eq, xc1_some, xc2_some, w32_id, xup_same, xup_row, xup_ne_j, xsw_l, xsw_r]
    · rw [in_0 q1, xc1_some, if_pos rfl]
  · simp (disch := omega) only [in_1, ↓if_pos, ↓if_neg, ↓xgd_pos, ↓xgb_pos, ↓xgc_pos, ↓xlet_eq, xc1_some, xc2_some, w32_id, xup_same, xup_row, xup_ne_j, xsw_l, xsw_r]
    rcases hW with ⟨a1, a2⟩ | ⟨a1, a2, a3, a4⟩
    · rw [if_pos a1]
      by_cases q2 : i = -1
      · exact ⟨0, by rw [if_pos q2, a2], by rw [if_pos q2]⟩
      · refine ⟨-1, ?_, by rw [if_neg q2]⟩
        rw [if_neg q2]
        unfold f_Way_tell f_Way_codeAt
        by_cases q3 : i < 0
        · simp (disch := omega) only [↓if_pos, ↓if_neg, ↓xgd_pos, ↓xgb_pos, ↓xgc_pos, ↓xlet_eq, xc1_some, xc2_some, w32_id, xup_same, xup_row, xup_ne_j, xsw_l, xsw_r]
        · simp (disch := omega) only [↓if_pos, ↓if_neg, ↓xgd_pos, ↓xgb_pos, ↓xgc_pos, ↓xlet_eq, xc1_some, xc2_some, w32_id, xup_same, xup_row, xup_ne_j, xsw_l, xsw_r]
    · rw [if_neg (show ¬ h 81 33 = -1 by omega)]
      by_cases q2 : i = -1
      · exact ⟨h 28 6, by rw [if_pos q2], by rw [if_pos q2, a3]⟩
      · rw [if_neg q2, if_neg q2]
        by_cases q3 : 0 ≤ i ∧ i < h 28 6
        · obtain ⟨b1, b2, b3, b4, b5, b6, b7⟩ := a4 i q3.1 q3.2
          unfold f_Way_tell f_Way_codeAt
          simp only [Int.reduceAdd, a3]
          simp (disch := omega) only [in_1, ↓if_pos, ↓if_neg, ↓xgd_pos, ↓xgb_pos, ↓xgc_pos, ↓xlet_eq, xc1_some, xc2_some, w32_id, xup_same, xup_row, xup_ne_j, xsw_l, xsw_r]
          by_cases w0 : w = 0
          · exact ⟨min (h 30 i) 7, by simp (disch := omega) only [↓if_pos, ↓if_neg, ↓xgd_pos, ↓xgb_pos, ↓xgc_pos, ↓xlet_eq, xc1_some, xc2_some, w32_id, xup_same, xup_row, xup_ne_j, xsw_l, xsw_r], by simp (disch := omega) only [b3, ↓if_pos, ↓if_neg, ↓xgd_pos, ↓xgb_pos, ↓xgc_pos, ↓xlet_eq, xc1_some, xc2_some, w32_id, xup_same, xup_row, xup_ne_j, xsw_l, xsw_r]⟩
          · by_cases w1 : w = 1
            · exact ⟨h 31 i, by simp (disch := omega) only [↓if_pos, ↓if_neg, ↓xgd_pos, ↓xgb_pos, ↓xgc_pos, ↓xlet_eq, xc1_some, xc2_some, w32_id, xup_same, xup_row, xup_ne_j, xsw_l, xsw_r], by simp (disch := omega) only [b4, ↓if_pos, ↓if_neg, ↓xgd_pos, ↓xgb_pos, ↓xgc_pos, ↓xlet_eq, xc1_some, xc2_some, w32_id, xup_same, xup_row, xup_ne_j, xsw_l, xsw_r]⟩
            · by_cases w2 : w = 2
              · exact ⟨h 32 i, by simp (disch := omega) only [↓if_pos, ↓if_neg, ↓xgd_pos, ↓xgb_pos, ↓xgc_pos, ↓xlet_eq, xc1_some, xc2_some, w32_id, xup_same, xup_row, xup_ne_j, xsw_l, xsw_r], by simp (disch := omega) only [b5, ↓if_pos, ↓if_neg, ↓xgd_pos, ↓xgb_pos, ↓xgc_pos, ↓xlet_eq, xc1_some, xc2_some, w32_id, xup_same, xup_row, xup_ne_j, xsw_l, xsw_r]⟩
              · by_cases w3 : w = 3
                · exact ⟨h 33 i, by simp (disch := omega) only [↓if_pos, ↓if_neg, ↓xgd_pos, ↓xgb_pos, ↓xgc_pos, ↓xlet_eq, xc1_some, xc2_some, w32_id, xup_same, xup_row, xup_ne_j, xsw_l, xsw_r], by simp (disch := omega) only [b6, ↓if_pos, ↓if_neg, ↓xgd_pos, ↓xgb_pos, ↓xgc_pos, ↓xlet_eq, xc1_some, xc2_some, w32_id, xup_same, xup_row, xup_ne_j, xsw_l, xsw_r]⟩
                · refine ⟨h 109 i, ?_, by simp (disch := omega) only [↓if_pos, ↓if_neg, ↓xgd_pos, ↓xgb_pos, ↓xgc_pos, ↓xlet_eq, xc1_some, xc2_some, w32_id, xup_same, xup_row, xup_ne_j, xsw_l, xsw_r]⟩
                  rw [b7]
                  by_cases q4 : h 30 i < 7
                  · simp (disch := omega) only [↓if_pos, ↓if_neg, ↓xgd_pos, ↓xgb_pos, ↓xgc_pos, ↓xlet_eq, xc1_some, xc2_some, w32_id, xup_same, xup_row, xup_ne_j, xsw_l, xsw_r]
                  · simp (disch := omega) only [↓if_pos, ↓if_neg, ↓xgd_pos, ↓xgb_pos, ↓xgc_pos, ↓xlet_eq, xc1_some, xc2_some, w32_id, xup_same, xup_row, xup_ne_j, xsw_l, xsw_r]
        · refine ⟨-1, ?_, ?_⟩
          · unfold f_Way_tell f_Way_codeAt
            by_cases q4 : i < 0
            · simp (disch := omega) only [↓if_pos, ↓if_neg, ↓xgd_pos, ↓xgb_pos, ↓xgc_pos, ↓xlet_eq, xc1_some, xc2_some, w32_id, xup_same, xup_row, xup_ne_j, xsw_l, xsw_r]
            · simp (disch := omega) only [↓if_pos, ↓if_neg, ↓xgd_pos, ↓xgb_pos, ↓xgc_pos, ↓xlet_eq, xc1_some, xc2_some, w32_id, xup_same, xup_row, xup_ne_j, xsw_l, xsw_r]
          · simp (disch := omega) only [a3, in_0, ↓if_pos, ↓if_neg, ↓xgd_pos, ↓xgb_pos, ↓xgc_pos, ↓xlet_eq, xc1_some, xc2_some, w32_id, xup_same, xup_row, xup_ne_j, xsw_l, xsw_r]
theorem op_found (i w : Int) : Op1 (f_WM_found i w) (f_Md_found i w) := by
  intro h hI
  obtain ⟨a1, a2, a3, a4⟩ := hI.2.2.2.2.2.2.2.2.1
  unfold f_WM_found f_Md_found f_WM_found_9
  by_cases q1 : w < 0 ∨ 2 < w
  · refine ⟨-2, ?_, ?_⟩
    · by_cases q2 : w < 0
      · simp (disch := omega) only [↓if_pos, ↓if_neg, ↓xgd_pos, ↓xgb_pos, ↓xgc_pos, ↓xlet_eq, xc1_some, xc2_some, w32_id, xup_same, xup_row, xup_ne_j, xsw_l, xsw_r]
      · simp (disch := omega) only [↓if_pos, ↓if_neg, ↓xgd_pos, ↓xgb_pos, ↓xgc_pos, ↓xlet_eq, xc1_some, xc2_some, w32_id, xup_same, xup_row, xup_ne_j, xsw_l, xsw_r]
    · rw [in_0 q1, xc1_some, if_pos rfl]
  · simp (disch := omega) only [in_1, ↓if_pos, ↓if_neg, ↓xgd_pos, ↓xgb_pos, ↓xgc_pos, ↓xlet_eq, xc1_some, xc2_some, w32_id, xup_same, xup_row, xup_ne_j, xsw_l, xsw_r]
    by_cases q3 : 0 ≤ i ∧ i < h 62 4
    · obtain ⟨b1, b2, b3⟩ := a4 i q3.1 q3.2
      unfold f_Found_tell
      simp only [Int.reduceAdd, a1]
      simp (disch := omega) only [in_1, ↓if_pos, ↓if_neg, ↓xgd_pos, ↓xgb_pos, ↓xgc_pos, ↓xlet_eq, xc1_some, xc2_some, w32_id, xup_same, xup_row, xup_ne_j, xsw_l, xsw_r]
      by_cases w0 : w = 0
      · exact ⟨h 63 i, by simp (disch := omega) only [↓if_pos, ↓if_neg, ↓xgd_pos, ↓xgb_pos, ↓xgc_pos, ↓xlet_eq, xc1_some, xc2_some, w32_id, xup_same, xup_row, xup_ne_j, xsw_l, xsw_r], by simp (disch := omega) only [b1, ↓if_pos, ↓if_neg, ↓xgd_pos, ↓xgb_pos, ↓xgc_pos, ↓xlet_eq, xc1_some, xc2_some, w32_id, xup_same, xup_row, xup_ne_j, xsw_l, xsw_r]⟩
      · by_cases w1 : w = 1
        · exact ⟨h 64 i, by simp (disch := omega) only [↓if_pos, ↓if_neg, ↓xgd_pos, ↓xgb_pos, ↓xgc_pos, ↓xlet_eq, xc1_some, xc2_some, w32_id, xup_same, xup_row, xup_ne_j, xsw_l, xsw_r], by simp (disch := omega) only [b2, ↓if_pos, ↓if_neg, ↓xgd_pos, ↓xgb_pos, ↓xgc_pos, ↓xlet_eq, xc1_some, xc2_some, w32_id, xup_same, xup_row, xup_ne_j, xsw_l, xsw_r]⟩
        · exact ⟨h 65 i, by simp (disch := omega) only [↓if_pos, ↓if_neg, ↓xgd_pos, ↓xgb_pos, ↓xgc_pos, ↓xlet_eq, xc1_some, xc2_some, w32_id, xup_same, xup_row, xup_ne_j, xsw_l, xsw_r], by simp (disch := omega) only [b3, ↓if_pos, ↓if_neg, ↓xgd_pos, ↓xgb_pos, ↓xgc_pos, ↓xlet_eq, xc1_some, xc2_some, w32_id, xup_same, xup_row, xup_ne_j, xsw_l, xsw_r]⟩
    · refine ⟨-1, ?_, ?_⟩
      · unfold f_Found_tell
        by_cases q4 : i < 0
        · simp (disch := omega) only [↓if_pos, ↓if_neg, ↓xgd_pos, ↓xgb_pos, ↓xgc_pos, ↓xlet_eq, xc1_some, xc2_some, w32_id, xup_same, xup_row, xup_ne_j, xsw_l, xsw_r]
        · simp (disch := omega) only [↓if_pos, ↓if_neg, ↓xgd_pos, ↓xgb_pos, ↓xgc_pos, ↓xlet_eq, xc1_some, xc2_some, w32_id, xup_same, xup_row, xup_ne_j, xsw_l, xsw_r]
      · simp (disch := omega) only [a1, in_0, ↓if_pos, ↓if_neg, ↓xgd_pos, ↓xgb_pos, ↓xgc_pos, ↓xlet_eq, xc1_some, xc2_some, w32_id, xup_same, xup_row, xup_ne_j, xsw_l, xsw_r]
theorem s_Met_stateAt {i j : Int} {h : xH} (h1 : 0 ≤ i ∧ i < h 49 5) (h2 : h 49 5 ≤ 2401) (h3 : 0 ≤ j) (h4 : h 49 7 ≤ 13) : f_Met_stateAt i j h = some (if j < h 49 7 then h 54 (i * 13 + j) else -1) := by
  unfold f_Met_stateAt
  by_cases q : j < h 49 7
  · simp (disch := omega) only [↓if_pos, ↓if_neg, ↓xgd_pos, ↓xgb_pos, ↓xgc_pos, ↓xlet_eq, xc1_some, xc2_some, w32_id, xup_same, xup_row, xup_ne_j, xsw_l, xsw_r]
  · simp (disch := omega) only [↓if_pos, ↓if_neg, ↓xgd_pos, ↓xgb_pos, ↓xgc_pos, ↓xlet_eq, xc1_some, xc2_some, w32_id, xup_same, xup_row, xup_ne_j, xsw_l, xsw_r]
theorem s_Met_least {i : Int} {h : xH} (h1 : 0 ≤ i ∧ i < h 49 5) (h2 : h 49 5 ≤ 2401) (h4 : h 49 7 ≤ 13) : f_Met_least i h = some (mnf (fun j => h 54 (i * 13 + j)) (h 49 7).toNat) := by
  unfold f_Met_least f_Met_least_5
  have hs := xloop_T (step := fun s : Int × Int => f_Met_least_s5 i s.1 s.2 h) (fun k => (mnf (fun j => h 54 (i * 13 + j)) k, (k : Int))) (h 49 7).toNat (s0 := (1000000, 0)) (b := mnf (fun j => h 54 (i * 13 + j)) (h 49 7).toNat) rfl ?_ ?_
  · rw [hs]; rfl
  · intro k hk
    dsimp only [f_Met_least_s5]
    rw [if_pos (by omega), s_Met_stateAt h1 h2 (by omega) h4, if_pos (by omega)]
    simp (disch := omega) only [↓if_pos, ↓if_neg, ↓xgd_pos, ↓xgb_pos, ↓xgc_pos, ↓xlet_eq, xc1_some, xc2_some, w32_id, xup_same, xup_row, xup_ne_j, xsw_l, xsw_r]
    rfl
  · dsimp only [f_Met_least_s5]
    rw [if_neg (by omega)]
theorem op_node (i w : Int) (hw : w ≤ 2147483647) : Op1 (f_WM_node i w) (f_Md_node i w) := by
  intro h hI
  obtain ⟨a1, a2, a3, a4, a5, a6⟩ := hI.2.2.2.2.2.2.2.1
  unfold f_WM_node f_Md_node
  by_cases q1 : w < 0
  · exact ⟨-2, by rw [if_pos q1], by rw [if_pos q1]⟩
  · rw [if_neg q1, if_neg q1]
    by_cases q3 : 0 ≤ i ∧ i < h 49 5
    · obtain ⟨b1, b2, b3, b4, b5, b6⟩ := a6 i q3.1 q3.2
      obtain ⟨c1, c2, c3⟩ := a5 (by omega)
      unfold f_Met_tell
      simp only [a1]
      simp (disch := omega) only [in_1, ↓if_pos, ↓if_neg, ↓xgd_pos, ↓xgb_pos, ↓xgc_pos, ↓xlet_eq, xc1_some, xc2_some, w32_id, xup_same, xup_row, xup_ne_j, xsw_l, xsw_r]
      by_cases w0 : w = 0
      · exact ⟨h 50 i, by simp (disch := omega) only [↓if_pos, ↓if_neg, ↓xgd_pos, ↓xgb_pos, ↓xgc_pos, ↓xlet_eq, xc1_some, xc2_some, w32_id, xup_same, xup_row, xup_ne_j, xsw_l, xsw_r], by simp (disch := omega) only [b1, ↓if_pos, ↓if_neg, ↓xgd_pos, ↓xgb_pos, ↓xgc_pos, ↓xlet_eq, xc1_some, xc2_some, w32_id, xup_same, xup_row, xup_ne_j, xsw_l, xsw_r]⟩
      · by_cases w1 : w = 1
        · exact ⟨h 51 i, by simp (disch := omega) only [↓if_pos, ↓if_neg, ↓xgd_pos, ↓xgb_pos, ↓xgc_pos, ↓xlet_eq, xc1_some, xc2_some, w32_id, xup_same, xup_row, xup_ne_j, xsw_l, xsw_r], by simp (disch := omega) only [b2, ↓if_pos, ↓if_neg, ↓xgd_pos, ↓xgb_pos, ↓xgc_pos, ↓xlet_eq, xc1_some, xc2_some, w32_id, xup_same, xup_row, xup_ne_j, xsw_l, xsw_r]⟩
        · by_cases w2 : w = 2
          · exact ⟨mnf (fun j => h 54 (i * 13 + j)) (h 49 7).toNat, by simp (disch := omega) only [s_Met_least q3 a4 c3, ↓if_pos, ↓if_neg, ↓xgd_pos, ↓xgb_pos, ↓xgc_pos, ↓xlet_eq, xc1_some, xc2_some, w32_id, xup_same, xup_row, xup_ne_j, xsw_l, xsw_r], by simp (disch := omega) only [b3, ↓if_pos, ↓if_neg, ↓xgd_pos, ↓xgb_pos, ↓xgc_pos, ↓xlet_eq, xc1_some, xc2_some, w32_id, xup_same, xup_row, xup_ne_j, xsw_l, xsw_r]⟩
          · by_cases w3 : w = 3
            · refine ⟨h 113 i, ?_, by simp (disch := omega) only [↓if_pos, ↓if_neg, ↓xgd_pos, ↓xgb_pos, ↓xgc_pos, ↓xlet_eq, xc1_some, xc2_some, w32_id, xup_same, xup_row, xup_ne_j, xsw_l, xsw_r]⟩
              rw [b4]
              by_cases q4 : h 53 i = 0
              · simp (disch := omega) only [↓if_pos, ↓if_neg, ↓xgd_pos, ↓xgb_pos, ↓xgc_pos, ↓xlet_eq, xc1_some, xc2_some, w32_id, xup_same, xup_row, xup_ne_j, xsw_l, xsw_r]
              · simp (disch := omega) only [↓if_pos, ↓if_neg, ↓xgd_pos, ↓xgb_pos, ↓xgc_pos, ↓xlet_eq, xc1_some, xc2_some, w32_id, xup_same, xup_row, xup_ne_j, xsw_l, xsw_r]
            · by_cases w4 : w = 4
              · refine ⟨h 114 i, ?_, by simp (disch := omega) only [↓if_pos, ↓if_neg, ↓xgd_pos, ↓xgb_pos, ↓xgc_pos, ↓xlet_eq, xc1_some, xc2_some, w32_id, xup_same, xup_row, xup_ne_j, xsw_l, xsw_r]⟩
                rw [b5]
                by_cases q4 : h 52 i = 0
                · simp (disch := omega) only [↓if_pos, ↓if_neg, ↓xgd_pos, ↓xgb_pos, ↓xgc_pos, ↓xlet_eq, xc1_some, xc2_some, w32_id, xup_same, xup_row, xup_ne_j, xsw_l, xsw_r]
                · simp (disch := omega) only [↓if_pos, ↓if_neg, ↓xgd_pos, ↓xgb_pos, ↓xgc_pos, ↓xlet_eq, xc1_some, xc2_some, w32_id, xup_same, xup_row, xup_ne_j, xsw_l, xsw_r]
              · by_cases q5 : w - 5 < h 49 7
                · refine ⟨h 54 (i * 13 + (w - 5)), ?_, ?_⟩
                  · simp (disch := omega) only [s_Met_stateAt q3 a4 (show 0 ≤ w - 5 by omega) c3, ↓if_pos, ↓if_neg, ↓xgd_pos, ↓xgb_pos, ↓xgc_pos, ↓xlet_eq, xc1_some, xc2_some, w32_id, xup_same, xup_row, xup_ne_j, xsw_l, xsw_r]
                  · have e := b6 (w - 5) (by omega) q5
                    rw [show 13 * i + (w - 5) = 13 * i + w - 5 by omega] at e
                    simp (disch := omega) only [e, ↓if_pos, ↓if_neg, ↓xgd_pos, ↓xgb_pos, ↓xgc_pos, ↓xlet_eq, xc1_some, xc2_some, w32_id, xup_same, xup_row, xup_ne_j, xsw_l, xsw_r]
                · refine ⟨-1, ?_, ?_⟩
                  · simp (disch := omega) only [s_Met_stateAt q3 a4 (show 0 ≤ w - 5 by omega) c3, ↓if_pos, ↓if_neg, ↓xgd_pos, ↓xgb_pos, ↓xgc_pos, ↓xlet_eq, xc1_some, xc2_some, w32_id, xup_same, xup_row, xup_ne_j, xsw_l, xsw_r]
                  · simp (disch := omega) only [↓if_pos, ↓if_neg, ↓xgd_pos, ↓xgb_pos, ↓xgc_pos, ↓xlet_eq, xc1_some, xc2_some, w32_id, xup_same, xup_row, xup_ne_j, xsw_l, xsw_r]
    · refine ⟨-1, ?_, ?_⟩
      · unfold f_Met_tell
        by_cases q4 : i < 0
        · simp (disch := omega) only [↓if_pos, ↓if_neg, ↓xgd_pos, ↓xgb_pos, ↓xgc_pos, ↓xlet_eq, xc1_some, xc2_some, w32_id, xup_same, xup_row, xup_ne_j, xsw_l, xsw_r]
        · simp (disch := omega) only [↓if_pos, ↓if_neg, ↓xgd_pos, ↓xgb_pos, ↓xgc_pos, ↓xlet_eq, xc1_some, xc2_some, w32_id, xup_same, xup_row, xup_ne_j, xsw_l, xsw_r]
      · simp (disch := omega) only [a1, in_0, ↓if_pos, ↓if_neg, ↓xgd_pos, ↓xgb_pos, ↓xgc_pos, ↓xlet_eq, xc1_some, xc2_some, w32_id, xup_same, xup_row, xup_ne_j, xsw_l, xsw_r]
