/-! MENDING: what may be offered -/
noncomputable def nW (h : xH) (q : Int → Int) : Int := Classical.epsilon (isN h q)
theorem nW_is {h : xH} (W : Wd0 h) {q : Int → Int} : isN h q (nW h q) := by
  obtain ⟨p, hp⟩ := plc_ex W q
  have hi := isN_of W hp
  by_cases z : p < h 5 2 ∧ eqp (rp h 5 p) q
  · exact Classical.epsilon_spec ⟨p, hi.1 z⟩
  · exact Classical.epsilon_spec ⟨-1, hi.2 z⟩
theorem nW_of {h : xH} (W : Wd0 h) {q : Int → Int} {w : Int} (hi : isN h q w) : nW h q = w := isN_uniq W (nW_is W) hi
theorem nW_b {h : xH} (W : Wd0 h) {q : Int → Int} : -1 ≤ nW h q ∧ nW h q < 200 := by
  have N := Wd_n W
  rcases nW_is (q := q) W with ⟨a, b, -⟩ | ⟨a, -⟩ <;> omega
theorem nW_cg {h g : xH} (e5 : g 5 = h 5) (e6 : g 6 = h 6) (e7 : g 7 = h 7) : nW g = nW h := by
  funext q
  unfold nW
  congr 1
  funext w
  exact propext ⟨fun z => isN_cg e5 e6 e7 z, fun z => isN_cg' e5 e6 e7 z⟩
theorem s_numOf {t : Int} {h : xH} (W : Wd0 h) (hT : TO t h) : f_Lex_numberOf t h = some (nW h (tp h t)) := by
  obtain ⟨w, e, hi⟩ := s_Lex_numberOf W hT
  rw [e, nW_of W hi]
section
variable (c : xH) (b : Int)
def tX (r : Int) : Int → Int := rp c 25 r
def catF (r k : Int) : Int := if k < c 27 r then c 26 (r * 12 + k) else c 26 ((r + 1) * 12 + (k - c 27 r))
def catX (r : Int) : Int → Int := pad (c 27 r + c 27 (r + 1)) (catF c r)
def cutA (r j : Int) : Int → Int := pad j (fun k => c 26 (r * 12 + k))
def cutB (r j : Int) : Int → Int := pad (c 27 r - j) (fun k => c 26 (r * 12 + (j + k)))
def okCut (r j : Int) : Prop := nW c (cutA c r j) ≠ -1 ∧ nW c (cutB c r j) ≠ -1
def isJ (r j : Int) : Prop := (1 ≤ j ∧ j < c 27 r ∧ okCut c r j ∧ ∀ i, 1 ≤ i → i < j → ¬ okCut c r i) ∨ (j = -1 ∧ ∀ i, 1 ≤ i → i < c 27 r → ¬ okCut c r i)
noncomputable def jn (r : Int) : Int := Classical.epsilon (isJ c r)
noncomputable def ffl (r : Int) : (Int → Int) × Int := fl (c 8) (DW c (tX c r) (c 27 r) 0) (SW c) b (c 5 2).toNat
/-- what a part of a kind from a row on costs; -1: there is none -/
noncomputable def MP (k r : Int) : Int := @ite _ (k = 0) (Classical.propDecidable _) (if nW c (tX c r) = -1 then -1 else 0) (@ite _ (k = 1) (Classical.propDecidable _) (if nW c (tX c r) = -1 then (if 0 < (ffl c b r).2 then DW c (tX c r) (c 27 r) 0 ((ffl c b r).1 0) else -1) else -1) (@ite _ (k = 2) (Classical.propDecidable _) (@ite _ (r + 1 < c 25 2 ∧ ¬ (nW c (tX c r) ≠ -1 ∧ nW c (tX c (r + 1)) ≠ -1) ∧ c 27 r + c 27 (r + 1) ≤ 12 ∧ nW c (catX c r) ≠ -1) (Classical.propDecidable _) (c 10 8) (-1)) (@ite _ (k = 3) (Classical.propDecidable _) (if nW c (tX c r) = -1 then (if jn c r = -1 then -1 else c 10 9) else -1) (if nW c (tX c r) = -1 then b + 1 else -1))))
noncomputable def MF (k r : Int) : Int := @ite _ (k = 0) (Classical.propDecidable _) (nW c (tX c r)) (@ite _ (k = 1) (Classical.propDecidable _) ((ffl c b r).1 0) (@ite _ (k = 2) (Classical.propDecidable _) (nW c (catX c r)) (@ite _ (k = 3) (Classical.propDecidable _) (nW c (cutA c r (jn c r))) (-1))))
noncomputable def MS (k r : Int) : Int := @ite _ (k = 3) (Classical.propDecidable _) (nW c (cutB c r (jn c r))) (-1)
end
section
variable {c : xH} {b r : Int}
theorem MP_0 : MP c b 0 r = if nW c (tX c r) = -1 then -1 else 0 := by unfold MP; rw [if_pos rfl]
theorem MP_1 : MP c b 1 r = if nW c (tX c r) = -1 then (if 0 < (ffl c b r).2 then DW c (tX c r) (c 27 r) 0 ((ffl c b r).1 0) else -1) else -1 := by unfold MP; rw [if_neg (by decide), if_pos rfl]
theorem MP_2 : MP c b 2 r = @ite _ (r + 1 < c 25 2 ∧ ¬ (nW c (tX c r) ≠ -1 ∧ nW c (tX c (r + 1)) ≠ -1) ∧ c 27 r + c 27 (r + 1) ≤ 12 ∧ nW c (catX c r) ≠ -1) (Classical.propDecidable _) (c 10 8) (-1) := by unfold MP; rw [if_neg (by decide), if_neg (by decide), if_pos rfl]
theorem MP_3 : MP c b 3 r = if nW c (tX c r) = -1 then (if jn c r = -1 then -1 else c 10 9) else -1 := by unfold MP; rw [if_neg (by decide), if_neg (by decide), if_neg (by decide), if_pos rfl]
theorem MP_4 : MP c b 4 r = if nW c (tX c r) = -1 then b + 1 else -1 := by unfold MP; rw [if_neg (by decide), if_neg (by decide), if_neg (by decide), if_neg (by decide)]
theorem MF_0 : MF c b 0 r = nW c (tX c r) := by unfold MF; rw [if_pos rfl]
theorem MF_1 : MF c b 1 r = (ffl c b r).1 0 := by unfold MF; rw [if_neg (by decide), if_pos rfl]
theorem MF_2 : MF c b 2 r = nW c (catX c r) := by unfold MF; rw [if_neg (by decide), if_neg (by decide), if_pos rfl]
theorem MF_3 : MF c b 3 r = nW c (cutA c r (jn c r)) := by unfold MF; rw [if_neg (by decide), if_neg (by decide), if_neg (by decide), if_pos rfl]
theorem MF_4 : MF c b 4 r = -1 := by unfold MF; rw [if_neg (by decide), if_neg (by decide), if_neg (by decide), if_neg (by decide)]
theorem MS_3 : MS c 3 r = nW c (cutB c r (jn c r)) := by unfold MS; rw [if_pos rfl]
theorem MS_n {k : Int} (h : k ≠ 3) : MS c k r = -1 := by unfold MS; rw [if_neg h]
theorem jn_of {j : Int} (hj : isJ c r j) : jn c r = j := by
  have e : isJ c r (jn c r) := Classical.epsilon_spec ⟨j, hj⟩
  rcases e with ⟨a1, a2, a3, a4⟩ | ⟨a1, a2⟩ <;> rcases hj with ⟨b1, b2, b3, b4⟩ | ⟨b1, b2⟩
  · rcases Int.lt_trichotomy (jn c r) j with z | z | z
    · exact absurd a3 (b4 _ a1 z)
    · exact z
    · exact absurd b3 (a4 _ b1 z)
  · exact absurd a3 (b2 _ a1 a2)
  · exact absurd b3 (a2 _ b1 b2)
  · omega
end
/-! the class's offers -/
/-- one cell of the offers, or none, was written -/
def CE (z z' : xH) (k r P F S : Int) : Prop := (∀ j, j ≠ k * 12 + r → z' 71 j = z 71 j ∧ z' 72 j = z 72 j ∧ z' 73 j = z 73 j) ∧ (P = -1 → z' 71 (k * 12 + r) = z 71 (k * 12 + r)) ∧ (P ≠ -1 → z' 71 (k * 12 + r) = P ∧ z' 72 (k * 12 + r) = F ∧ z' 73 (k * 12 + r) = S)
theorem CE_no {z z' : xH} {k r P F S : Int} (e1 : z' 71 = z 71) (e2 : z' 72 = z 72) (e3 : z' 73 = z 73) (hP : P = -1) : CE z z' k r P F S := by
  refine ⟨fun j _ => by rw [e1, e2, e3]; exact ⟨rfl, rfl, rfl⟩, fun _ => by rw [e1], fun h => absurd hP h⟩
theorem s_cellOf {z : xH} {k r : Int} (k0 : 0 ≤ k) (k1 : k < 5) (r0 : 0 ≤ r) (r1 : r < z 70 6) (r2 : r < 12) : f_Mend_cellOf k r z = some (k * 12 + r) := by
  unfold f_Mend_cellOf
  rw [if_neg (by omega), if_pos k1, if_neg (by omega), if_pos r1, if_pos r2, w32_id (z := k * 12) (by omega) (by omega), w32_id (by omega) (by omega)]
theorem s_offer {z : xH} {k r p f s : Int} (k0 : 0 ≤ k) (k1 : k < 5) (r0 : 0 ≤ r) (r1 : r < z 70 6) (r2 : r < 12) (hp : p ≠ -1) : ∃ z', f_Mend_offer k r p f s z = some z' ∧ off [71, 72, 73] [] z z' ∧ CE z z' k r p f s := by
  unfold f_Mend_offer
  rw [s_cellOf k0 k1 r0 r1 r2, xc1_some, if_neg (by omega), xgd_pos (by omega) (by omega), xlet_eq, xgd_pos (by omega) (by omega), xlet_eq, xgd_pos (by omega) (by omega), xlet_eq]
  refine ⟨_, rfl, off_w (off_tr (off_up (by decide)) (off_tr (off_up (by decide)) (off_up (by decide)))) (by decide) (by decide), fun j hj => ?_, fun h => absurd h hp, fun _ => ?_⟩
  · rw [xup_nk hj, xup_nk hj, xup_nk hj, xup_nk hj, xup_nk hj, xup_nk hj, xup_nk hj, xup_nk hj, xup_nk hj]
    exact ⟨rfl, rfl, rfl⟩
  · refine ⟨?_, ?_, ?_⟩
    · rw [xup_row (by decide), xup_row (by decide), xup_same]
    · rw [xup_row (by decide), xup_same]
    · rw [xup_same]
theorem s_offers {z : xH} {k r : Int} (k0 : 0 ≤ k) (k1 : k < 5) (r0 : 0 ≤ r) (r1 : r < z 70 6) (r2 : r < 12) : f_Mend_offers k r z = some (if z 71 (k * 12 + r) = -1 then 0 else 1) := by
  unfold f_Mend_offers
  rw [s_cellOf k0 k1 r0 r1 r2, xc1_some, if_neg (by omega), xgd_pos (by omega) (by omega)]
  by_cases q : z 71 (k * 12 + r) = -1
  · rw [if_pos q, if_pos q]
  · rw [if_neg q, if_neg q]
theorem hRow_ext {o n : Int} {f g : Int → Int} {h : xH} (e : ∀ k, 0 ≤ k → k < n → f k = g k) : hRow o n f h = hRow o n g h := by
  funext o' j'
  unfold hRow
  by_cases c1 : o' = o ∧ j' = 1
  · rw [if_pos c1, if_pos c1]
  · rw [if_neg c1, if_neg c1]
    by_cases c2 : o' = o + 1 ∧ 0 ≤ j' ∧ j' < n
    · rw [if_pos c2, if_pos c2]
      exact e j' c2.2.1 c2.2.2
    · rw [if_neg c2, if_neg c2]
/-- what stays while a text is mended -/
theorem mn_fr {c z : xH} (oz : off [21, 22, 23, 24, 55, 56, 57, 58, 59, 60, 61, 66, 67, 68, 69, 70, 71, 72, 73, 74, 75, 76] [] c z) (hP : Pr c) (hS : So c) (W : Wd0 c) (hR : RO 25 12 c) : Pr z ∧ So z ∧ Wd0 z ∧ RO 25 12 z ∧ z 25 = c 25 ∧ z 26 = c 26 ∧ z 27 = c 27 ∧ nW z = nW c ∧ rp z 25 = rp c 25 ∧ (∀ x, 4 ≤ x → x ≤ 20 → z x = c x) := by
  have e : ∀ x, 4 ≤ x → x ≤ 20 → z x = c x := fun x a b => oz.1 x (by omega) (fun w => by simp at w; omega)
  have e26 : z 26 = c 26 := oz.1 26 (by decide) (by decide)
  have e27 : z 27 = c 27 := oz.1 27 (by decide) (by decide)
  exact ⟨Pr_off oz (by decide) hP, So_off oz (by decide) hS, Wd0_off oz (by decide) W, RO_off oz (by decide) hR, oz.1 25 (by decide) (by decide), e26, e27, nW_cg (e 5 (by decide) (by decide)) (e 6 (by decide) (by decide)) (e 7 (by decide) (by decide)), by funext w; exact rp_congr e26 e27, e⟩
theorem tl_b {c : xH} (hR : RO 25 12 c) {r : Int} (r0 : 0 ≤ r) (r1 : r < c 25 2) : 1 ≤ c 27 r ∧ c 27 r ≤ 12 ∧ c 25 2 ≤ 12 ∧ ∀ k, 0 ≤ k → k < c 27 r → 0 ≤ c 26 (r * 12 + k) ∧ c 26 (r * 12 + k) ≤ 25 := by
  obtain ⟨a1, a2, a3⟩ := hR.2.2.2.2.2 r r0 r1
  have := hR.2.2.2.2.1
  simp only [Int.reduceAdd] at a1 a2 a3
  exact ⟨a1, a2, this, a3⟩
theorem s_split {c z : xH} {b r : Int} (oz : off [21, 22, 23, 24, 55, 56, 57, 58, 59, 60, 61, 66, 67, 68, 69, 70, 71, 72, 73, 74, 75, 76] [] c z) (hP : Pr c) (hS : So c) (W : Wd0 c) (hR : RO 25 12 c) (r0 : 0 ≤ r) (r1 : r < c 25 2) (z6 : z 70 6 = c 25 2) (hK : ∀ r', 0 ≤ r' → r' < c 25 2 → z 71 (0 * 12 + r') = MP c b 0 r') :
    ∃ z', f_WM_offerSplit r z = some z' ∧ off [21, 22, 71, 72, 73] [] z z' ∧ CE z z' 2 r (MP c b 2 r) (MF c b 2 r) (MS c 2 r) := by
  obtain ⟨P1, S1, W1, R1, e25, e26, e27, enW, erp, e20⟩ := mn_fr oz hP hS W hR
  obtain ⟨l1, l2, l3, l4⟩ := tl_b hR r0 r1
  rw [MF_2, MS_n (by decide)]
  unfold f_WM_offerSplit
  rw [w32_id (z := r + 1) (by omega) (by omega), e25]
  by_cases q1 : r + 1 < c 25 2
  · obtain ⟨m1, m2, -, m4⟩ := tl_b hR (show 0 ≤ r + 1 by omega) q1
    rw [if_pos q1, s_offers (by decide) (by decide) r0 (by omega) (by omega), s_offers (by decide) (by decide) (by omega) (by omega) (by omega), hK r r0 r1, hK (r + 1) (by omega) q1, xc1_some, xc1_some, MP_0, MP_0]
    have body : ¬ (nW c (tX c r) ≠ -1 ∧ nW c (tX c (r + 1)) ≠ -1) → ∃ z', f_WM_offerSplit_39 r z = some z' ∧ off [21, 22, 71, 72, 73] [] z z' ∧ CE z z' 2 r (MP c b 2 r) (nW c (catX c r)) (-1) := by
      intro q2
      unfold f_WM_offerSplit_39
      rw [w32_id (z := r + 1) (by omega) (by omega), s_Rows_sizeOf' R1 r0 (by rw [e25]; exact r1), s_Rows_sizeOf' R1 (by omega) (by rw [e25]; exact q1), xc1_some, xc1_some, show (25 + 2 : Int) = 27 from rfl, e27, w32_id (by omega) (by omega)]
      by_cases q3 : 12 < c 27 r + c 27 (r + 1)
      · rw [if_pos q3]
        exact ⟨z, rfl, off_rf, CE_no rfl rfl rfl (by rw [MP_2, if_neg (by omega)])⟩
      · rw [if_neg q3, s_Rows_copyTo (t := 21) R1 r0 (by rw [e25]; exact r1) (by unfold apart; decide), xc1_some, show (25 + 2 : Int) = 27 from rfl, show (25 + 1 : Int) = 26 from rfl, e26, e27, hRow_ext (g := catF c r) (fun k k0 k1 => by unfold catF; rw [if_pos k1])]
        unfold f_WM_offerSplit_78
        have key := xloop_T (step := fun s : Int × xH => f_WM_offerSplit_s78 r s.1 s.2) (fun k => ((k : Int), hRow 21 (c 27 r + k) (catF c r) z)) (c 27 (r + 1)).toNat (s0 := (0, hRow 21 (c 27 r) (catF c r) z)) (b := hRow 21 (c 27 r + c 27 (r + 1)) (catF c r) z) (by rw [show c 27 r + ((0 : Nat) : Int) = c 27 r by omega]; rfl)
          (fun k hk => by
            dsimp only [f_WM_offerSplit_s78]
            have Rk : RO 25 12 (hRow 21 (c 27 r + k) (catF c r) z) := RO_congr (hRow_row (by decide) (by decide)) (hRow_row (by decide) (by decide)) (hRow_row (by decide) (by decide)) R1
            have e2 : (hRow 21 (c 27 r + k) (catF c r) z) 25 = c 25 := by rw [hRow_row (by decide) (by decide), e25]
            have e3 : (hRow 21 (c 27 r + k) (catF c r) z) 27 = c 27 := by rw [hRow_row (by decide) (by decide), e27]
            have e4 : rp (hRow 21 (c 27 r + k) (catF c r) z) 25 (r + 1) = rp c 25 (r + 1) := by rw [← erp]; exact rp_congr (hRow_row (by decide) (by decide)) (hRow_row (by decide) (by decide))
            have e5 : rp c 25 (r + 1) (k : Int) = catF c r (c 27 r + k) := by
              unfold rp catF
              rw [show (25 + 2 : Int) = 27 from rfl, show (25 + 1 : Int) = 26 from rfl, pad_in (by omega) (by omega), if_neg (by omega), show c 27 r + (k : Int) - c 27 r = k by omega]
            rw [w32_id (z := r + 1) (by omega) (by omega), s_Rows_sizeOf' Rk (by omega) (by rw [e2]; exact q1), xc1_some, show (25 + 2 : Int) = 27 from rfl, e3, if_pos (by omega), s_Rows_at' Rk (by omega) (by omega) (by rw [e2]; exact q1), xc1_some, e4, e5, s_Row_append_hRow (by omega) (by omega), xc2_some, w32_id (by omega) (by omega), xlet_eq, show c 27 r + (k : Int) + 1 = c 27 r + ((k + 1 : Nat) : Int) by omega]
            rfl)
          (by
            dsimp only [f_WM_offerSplit_s78]
            have Rk : RO 25 12 (hRow 21 (c 27 r + ((c 27 (r + 1)).toNat : Nat)) (catF c r) z) := RO_congr (hRow_row (by decide) (by decide)) (hRow_row (by decide) (by decide)) (hRow_row (by decide) (by decide)) R1
            rw [w32_id (z := r + 1) (by omega) (by omega), s_Rows_sizeOf' Rk (by omega) (by rw [hRow_row (by decide) (by decide), e25]; exact q1), xc1_some, show (25 + 2 : Int) = 27 from rfl, hRow_row (by decide) (by decide), e27, if_neg (by omega), show c 27 r + (((c 27 (r + 1)).toNat : Nat) : Int) = c 27 r + c 27 (r + 1) by omega])
        rw [key, xc1_some]
        generalize hy : hRow 21 (c 27 r + c 27 (r + 1)) (catF c r) z = y
        have oy : off [21, 22] [] z y := by rw [← hy]; exact off_hRow (by decide) (by decide)
        have fl : ∀ k, 0 ≤ k → k < c 27 r + c 27 (r + 1) → 0 ≤ catF c r k ∧ catF c r k ≤ 25 := fun k k0 k1 => by
          unfold catF
          by_cases x : k < c 27 r
          · rw [if_pos x]; exact l4 k k0 x
          · rw [if_neg x]; exact m4 _ (by omega) (by omega)
        have T21 : TO 21 y := by rw [← hy]; exact TO_hRow (by omega) (by omega) fl
        have tpy : tp y 21 = catX c r := by rw [← hy]; exact tp_hRow
        have W2 : Wd0 y := Wd0_off oy (by decide) W1
        have oy2 : off [21, 22, 23, 24, 55, 56, 57, 58, 59, 60, 61, 66, 67, 68, 69, 70, 71, 72, 73, 74, 75, 76] [] c y := off_w (off_tr oz oy) (by decide) (by decide)
        obtain ⟨-, -, -, -, -, -, -, enW2, -, e202⟩ := mn_fr oy2 hP hS W hR
        unfold f_WM_offerSplit_117
        rw [s_numOf W2 T21, xc1_some, enW2, tpy]
        by_cases q4 : nW c (catX c r) = -1
        · rw [if_pos q4]
          exact ⟨y, rfl, off_w oy (by decide) (by decide), CE_no (oy.1 71 (by decide) (by decide)) (oy.1 72 (by decide) (by decide)) (oy.1 73 (by decide) (by decide)) (by rw [MP_2, if_neg (fun x => x.2.2.2 q4)])⟩
        · have e8 : f_Slips_kindPrice 8 y = some (c 10 8) := by
            unfold f_Slips_kindPrice
            rw [if_neg (by decide), if_pos (by decide), xgd_pos (by decide) (by decide), e202 10 (by decide) (by decide)]
          have p8 := hP.2.1
          have mp : MP c b 2 r = c 10 8 := by rw [MP_2, if_pos ⟨q1, q2, by omega, q4⟩]
          obtain ⟨y2, o1, o2, o3⟩ := s_offer (z := y) (k := 2) (r := r) (p := c 10 8) (f := nW c (catX c r)) (s := -1) (by decide) (by decide) r0 (by rw [oy.1 70 (by decide) (by decide), z6]; exact r1) (by omega) (by omega)
          rw [if_neg q4, e8, xc1_some, o1, xc1_some, mp]
          refine ⟨y2, rfl, off_w (off_tr oy o2) (by decide) (by decide), ?_⟩
          unfold CE at o3 ⊢
          rw [oy.1 71 (by decide) (by decide), oy.1 72 (by decide) (by decide), oy.1 73 (by decide) (by decide)] at o3
          exact o3
    by_cases k1 : nW c (tX c r) = -1
    · rw [if_pos k1, if_pos rfl, if_pos rfl]
      exact body (fun x => x.1 k1)
    · rw [if_neg k1, if_neg (show ¬ ((0 : Int) = -1) by decide), if_neg (show ¬ ((1 : Int) = 0) by decide)]
      by_cases k2 : nW c (tX c (r + 1)) = -1
      · rw [if_pos k2, if_pos rfl, if_pos rfl]
        exact body (fun x => x.2 k2)
      · rw [if_neg k2, if_neg (show ¬ ((0 : Int) = -1) by decide), if_neg (show ¬ ((1 : Int) = 0) by decide)]
        exact ⟨z, rfl, off_rf, CE_no rfl rfl rfl (by rw [MP_2, if_neg (fun x => x.2.1 ⟨k1, k2⟩)])⟩
  · rw [if_neg q1]
    exact ⟨z, rfl, off_rf, CE_no rfl rfl rfl (by rw [MP_2, if_neg (fun x => q1 x.1)])⟩
