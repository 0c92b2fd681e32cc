/-! WHAT HOLDS BETWEEN CALLS: the class's cells and the model's -/
def off (R K : List Int) (h h' : xH) : Prop := (∀ o, o ≠ 81 → o ∉ R → h' o = h o) ∧ ∀ j, j ∉ K → h' 81 j = h 81 j
theorem off_rf {R K : List Int} {h : xH} : off R K h h := ⟨fun _ _ _ => rfl, fun _ _ => rfl⟩
theorem off_tr {R K R' K' : List Int} {h h1 h2 : xH} (a : off R K h h1) (b : off R' K' h1 h2) : off (R ++ R') (K ++ K') h h2 :=
  ⟨fun o h0 hn => by rw [b.1 o h0 (fun z => hn (List.mem_append_right _ z)), a.1 o h0 (fun z => hn (List.mem_append_left _ z))], fun j hn => by rw [b.2 j (fun z => hn (List.mem_append_right _ z)), a.2 j (fun z => hn (List.mem_append_left _ z))]⟩
theorem off_up {h : xH} {o j v : Int} (ho : o ≠ 81) : off [o] [] h (xup h o j v) := ⟨fun o' _ hn => xup_row (fun z => hn (by rw [z]; exact List.mem_cons_self)), fun j' _ => by rw [xup_row (fun z => ho z.symm)]⟩
theorem off_um {h : xH} {j v : Int} : off [] [j] h (xup h 81 j v) := ⟨fun o' h0 _ => xup_row h0, fun j' hn => xup_ne_j (fun z => hn (by rw [z]; exact List.mem_cons_self))⟩
theorem off_w {R K R' K' : List Int} {h h' : xH} (a : off R K h h') (h1 : R.all (fun o => R'.contains o) = true) (h2 : K.all (fun o => K'.contains o) = true) : off R' K' h h' := by
  rw [List.all_eq_true] at h1 h2
  exact ⟨fun o h0 hn => a.1 o h0 (fun z => hn (by have := h1 o z; simpa using this)), fun j hn => a.2 j (fun z => hn (by have := h2 j z; simpa using this))⟩
/-- apart: the rows that a part speaks of are none of those that changed -/
def dj (A B R K : List Int) : Bool := A.all (fun o => o != 81 && !R.contains o) && B.all (fun j => !K.contains j)
theorem dj_r {A B R K : List Int} {h h' : xH} (ho : off R K h h') (hd : dj A B R K = true) {o : Int} (hm : o ∈ A) : h' o = h o := by
  unfold dj at hd
  rw [Bool.and_eq_true, List.all_eq_true] at hd
  have := hd.1 o hm
  simp at this
  exact ho.1 o this.1 this.2
theorem dj_j {A B R K : List Int} {h h' : xH} (ho : off R K h h') (hd : dj A B R K = true) {j : Int} (hm : j ∈ B) : h' 81 j = h 81 j := by
  unfold dj at hd
  rw [Bool.and_eq_true, List.all_eq_true, List.all_eq_true] at hd
  have := hd.2 j hm
  simp at this
  exact ho.2 j this
def Tp (h : xH) : Prop := 0 ≤ h 2 1 ∧ h 2 1 ≤ 240 ∧ h 81 1 = h 2 1 ∧ byt (h 3) (h 2 1) ∧ ∀ k, 0 ≤ k → k < h 2 1 → h 82 k = h 3 k
def Wt (h : xH) : Prop := h 81 15 = h 4 2 ∧ 0 ≤ h 4 2 ∧ h 4 2 ≤ 100000
def Pr (h : xH) : Prop := (∀ k, 1 ≤ k → k ≤ 6 → h 88 k = h 10 k ∧ 1 ≤ h 10 k ∧ h 10 k ≤ 9999) ∧ (h 81 13 = h 10 8 ∧ 1 ≤ h 10 8 ∧ h 10 8 ≤ 9999) ∧ (h 81 14 = h 10 9 ∧ 1 ≤ h 10 9 ∧ h 10 9 ≤ 9999) ∧
  (∀ k, 0 ≤ k → k < 676 → h 89 k = h 11 k ∧ 0 ≤ h 11 k ∧ h 11 k ≤ 9999) ∧ (∀ k, 0 ≤ k → k < 26 → h 90 k = h 12 k ∧ 0 ≤ h 12 k ∧ h 12 k ≤ 9999) ∧ (∀ k, 0 ≤ k → k < 26 → h 91 k = h 13 k ∧ 0 ≤ h 13 k ∧ h 13 k ≤ 9999)
def So (h : xH) : Prop := RO 14 20 h ∧ RO 17 20 h ∧ h 17 2 = h 14 2 ∧ h 81 16 = h 14 2 ∧ ∀ s, 0 ≤ s → s < h 14 2 → h 16 s ≤ 3 ∧ h 19 s ≤ 3 ∧ h 92 s = h 16 s ∧ h 94 s = h 19 s ∧ h 96 s = h 20 s ∧ 1 ≤ h 20 s ∧ h 20 s ≤ 9999 ∧ (∀ k, 0 ≤ k → k < h 16 s → h 93 (3 * s + k) = h 15 (s * 12 + k)) ∧ ∀ k, 0 ≤ k → k < h 19 s → h 95 (3 * s + k) = h 18 (s * 12 + k)
def Pa (h : xH) : Prop := RO 40 40 h ∧ RO 43 40 h ∧ h 43 2 = h 40 2 ∧ h 81 61 = h 40 2 ∧ ∀ p, 0 ≤ p → p < h 40 2 → h 127 p = h 42 p ∧ h 129 p = h 45 p ∧ (∀ k, 0 ≤ k → k < h 42 p → h 128 (12 * p + k) = h 41 (p * 12 + k)) ∧ ∀ k, 0 ≤ k → k < h 45 p → h 130 (12 * p + k) = h 44 (p * 12 + k)
def Wy (h : xH) : Prop := (h 81 33 = -1 ∧ h 28 6 = 0) ∨ (0 ≤ h 28 6 ∧ h 28 6 ≤ 24 ∧ h 81 33 = h 28 6 ∧ ∀ i, 0 ≤ i → i < h 28 6 → 0 ≤ h 30 i ∧ h 30 i ≤ 26 ∧ h 105 i = min (h 30 i) 7 ∧ h 106 i = h 31 i ∧ h 107 i = h 32 i ∧ h 108 i = h 33 i ∧ h 109 i = if h 30 i < 7 then -1 else h 30 i - 7)
/-- the least of the first numbers, FAR at most -/
def mnf (f : Int → Int) : Nat → Int
  | 0 => 1000000
  | n + 1 => min (mnf f n) (f n)
def Me (h : xH) : Prop := h 81 39 = h 49 5 ∧ h 81 40 = h 49 6 ∧ 0 ≤ h 49 5 ∧ h 49 5 ≤ 2401 ∧ (0 < h 49 5 → h 49 7 = h 81 47 + 1 ∧ 1 ≤ h 49 7 ∧ h 49 7 ≤ 13) ∧ ∀ i, 0 ≤ i → i < h 49 5 → h 110 i = h 50 i ∧ h 111 i = h 51 i ∧ h 112 i = mnf (fun j => h 54 (i * 13 + j)) (h 49 7).toNat ∧ (h 113 i = if h 53 i = 0 then 0 else 1) ∧ (h 114 i = if h 52 i = 0 then 0 else 1) ∧ ∀ j, 0 ≤ j → j < h 49 7 → h 115 (13 * i + j) = h 54 (i * 13 + j)
def Fo (h : xH) : Prop := h 81 53 = h 62 4 ∧ 0 ≤ h 62 4 ∧ h 62 4 ≤ 200 ∧ ∀ i, 0 ≤ i → i < h 62 4 → h 121 i = h 63 i ∧ h 122 i = h 64 i ∧ h 123 i = h 65 i
def Mn (h : xH) : Prop := (h 81 69 = -1 ∧ h 70 7 = 0 ∧ h 74 0 = 0) ∨ (h 81 69 = h 70 7 ∧ h 81 70 = h 74 0 ∧ 0 ≤ h 70 7 ∧ h 70 7 ≤ 12 ∧ h 70 6 ≤ 12 ∧ ∀ i, 0 ≤ i → i < h 70 7 → 0 ≤ h 76 i ∧ h 76 i < h 70 6 ∧ 0 ≤ h 75 (h 76 i) ∧ h 75 (h 76 i) < 5 ∧ h 134 i = h 75 (h 76 i) ∧ h 135 i = h 71 (h 75 (h 76 i) * 12 + h 76 i) ∧ h 136 i = h 72 (h 75 (h 76 i) * 12 + h 76 i) ∧ h 137 i = h 73 (h 75 (h 76 i) * 12 + h 76 i) ∧ h 138 i = if h 75 (h 76 i) = 2 then 2 else 1)
def Ty (h : xH) : Prop := h 81 82 = h 77 3 ∧ ∀ t, 0 ≤ t → t < 8 → h 142 t = h 78 t ∧ 0 ≤ h 78 t ∧ h 78 t ≤ 4 ∧ (h 78 t ≠ 0 → h 143 t = h 79 t ∧ 0 ≤ h 79 t ∧ h 79 t ≤ 26 ∧ ∀ k, 0 ≤ k → k < h 79 t → h 144 (26 * t + k) = h 80 (t * 26 + k))
def Inv (h : xH) : Prop := Tp h ∧ Wd h ∧ Wt h ∧ Pr h ∧ So h ∧ Pa h ∧ Wy h ∧ Me h ∧ Fo h ∧ Mn h ∧ Ty h
section
variable {R K : List Int} {h h' : xH}
theorem Tp_off (ho : off R K h h') (hd : dj [2, 3, 82] [1] R K = true) (p : Tp h) : Tp h' := by
  unfold Tp
  rw [dj_r ho hd (o := 2) (by decide), dj_r ho hd (o := 3) (by decide), dj_r ho hd (o := 82) (by decide), dj_j ho hd (j := 1) (by decide)]
  exact p
theorem RO_off {o N : Int} (ho : off R K h h') (hd : dj [o, o + 1, o + 2] [] R K = true) (p : RO o N h) : RO o N h' :=
  RO_congr (dj_r ho hd (by simp)) (dj_r ho hd (by simp)) (dj_r ho hd (by simp)) p
theorem Wd0_off (ho : off R K h h') (hd : dj [5, 6, 7, 85, 86] [5] R K = true) (p : Wd0 h) : Wd0 h' := by
  have e5 := dj_r ho hd (o := 5) (by decide)
  have e6 := dj_r ho hd (o := 6) (by decide)
  have e7 := dj_r ho hd (o := 7) (by decide)
  have er : ∀ w, rp h' 5 w = rp h 5 w := fun w => rp_congr e6 e7
  refine ⟨RO_congr e5 e6 e7 p.1, ?_, ?_, ?_⟩
  · rw [dj_j ho hd (j := 5) (by decide), e5]; exact p.2.1
  · rw [e5, e6, e7, dj_r ho hd (o := 85) (by decide), dj_r ho hd (o := 86) (by decide)]
    exact p.2.2.1
  · intro v w
    rw [er, er, e5]
    exact p.2.2.2 v w
theorem Wc_off (ho : off R K h h') (hd : dj [5, 8, 87] [] R K = true) (p : Wc h) : Wc h' := by
  unfold Wc
  rw [dj_r ho hd (o := 5) (by decide), dj_r ho hd (o := 8) (by decide), dj_r ho hd (o := 87) (by decide)]
  exact p
theorem dj_w {A B A' B' R K : List Int} (hd : dj A B R K = true) (h1 : A'.all (fun o => A.contains o) = true) (h2 : B'.all (fun j => B.contains j) = true) : dj A' B' R K = true := by
  unfold dj at hd ⊢
  rw [Bool.and_eq_true, List.all_eq_true, List.all_eq_true] at hd ⊢
  rw [List.all_eq_true] at h1 h2
  exact ⟨fun o ho => hd.1 o (by simpa using h1 o ho), fun j hj => hd.2 j (by simpa using h2 j hj)⟩
theorem Wd_off (ho : off R K h h') (hd : dj [5, 6, 7, 8, 85, 86, 87] [5] R K = true) (p : Wd h) : Wd h' :=
  ⟨Wd0_off ho (dj_w hd (by decide) (by decide)) p.1, Wc_off ho (dj_w hd (by decide) (by decide)) p.2⟩
theorem Wt_off (ho : off R K h h') (hd : dj [4] [15] R K = true) (p : Wt h) : Wt h' := by
  unfold Wt
  rw [dj_r ho hd (o := 4) (by decide), dj_j ho hd (j := 15) (by decide)]
  exact p
theorem Pr_off (ho : off R K h h') (hd : dj [10, 11, 12, 13, 88, 89, 90, 91] [13, 14] R K = true) (p : Pr h) : Pr h' := by
  unfold Pr
  rw [dj_r ho hd (o := 10) (by decide), dj_r ho hd (o := 11) (by decide), dj_r ho hd (o := 12) (by decide), dj_r ho hd (o := 13) (by decide), dj_r ho hd (o := 88) (by decide), dj_r ho hd (o := 89) (by decide), dj_r ho hd (o := 90) (by decide), dj_r ho hd (o := 91) (by decide), dj_j ho hd (j := 13) (by decide), dj_j ho hd (j := 14) (by decide)]
  exact p
theorem So_off (ho : off R K h h') (hd : dj [14, 15, 16, 17, 18, 19, 20, 92, 93, 94, 95, 96] [16] R K = true) (p : So h) : So h' := by
  have e14 := dj_r ho hd (o := 14) (by decide)
  have e15 := dj_r ho hd (o := 15) (by decide)
  have e16 := dj_r ho hd (o := 16) (by decide)
  have e17 := dj_r ho hd (o := 17) (by decide)
  have e18 := dj_r ho hd (o := 18) (by decide)
  have e19 := dj_r ho hd (o := 19) (by decide)
  refine ⟨RO_congr e14 e15 e16 p.1, RO_congr e17 e18 e19 p.2.1, ?_⟩
  rw [e14, e15, e16, e17, e18, e19, dj_r ho hd (o := 20) (by decide), dj_r ho hd (o := 92) (by decide), dj_r ho hd (o := 93) (by decide), dj_r ho hd (o := 94) (by decide), dj_r ho hd (o := 95) (by decide), dj_r ho hd (o := 96) (by decide), dj_j ho hd (j := 16) (by decide)]
  exact p.2.2
theorem Pa_off (ho : off R K h h') (hd : dj [40, 41, 42, 43, 44, 45, 127, 128, 129, 130] [61] R K = true) (p : Pa h) : Pa h' := by
  have e14 := dj_r ho hd (o := 40) (by decide)
  have e15 := dj_r ho hd (o := 41) (by decide)
  have e16 := dj_r ho hd (o := 42) (by decide)
  have e17 := dj_r ho hd (o := 43) (by decide)
  have e18 := dj_r ho hd (o := 44) (by decide)
  have e19 := dj_r ho hd (o := 45) (by decide)
  refine ⟨RO_congr e14 e15 e16 p.1, RO_congr e17 e18 e19 p.2.1, ?_⟩
  rw [e14, e15, e16, e17, e18, e19, dj_r ho hd (o := 127) (by decide), dj_r ho hd (o := 128) (by decide), dj_r ho hd (o := 129) (by decide), dj_r ho hd (o := 130) (by decide), dj_j ho hd (j := 61) (by decide)]
  exact p.2.2
theorem Wy_off (ho : off R K h h') (hd : dj [28, 30, 31, 32, 33, 105, 106, 107, 108, 109] [33] R K = true) (p : Wy h) : Wy h' := by
  unfold Wy
  rw [dj_r ho hd (o := 28) (by decide), dj_r ho hd (o := 30) (by decide), dj_r ho hd (o := 31) (by decide), dj_r ho hd (o := 32) (by decide), dj_r ho hd (o := 33) (by decide), dj_r ho hd (o := 105) (by decide), dj_r ho hd (o := 106) (by decide), dj_r ho hd (o := 107) (by decide), dj_r ho hd (o := 108) (by decide), dj_r ho hd (o := 109) (by decide), dj_j ho hd (j := 33) (by decide)]
  exact p
theorem Me_off (ho : off R K h h') (hd : dj [49, 50, 51, 52, 53, 54, 110, 111, 112, 113, 114, 115] [39, 40, 47] R K = true) (p : Me h) : Me h' := by
  unfold Me
  rw [dj_r ho hd (o := 49) (by decide), dj_r ho hd (o := 50) (by decide), dj_r ho hd (o := 51) (by decide), dj_r ho hd (o := 52) (by decide), dj_r ho hd (o := 53) (by decide), dj_r ho hd (o := 54) (by decide), dj_r ho hd (o := 110) (by decide), dj_r ho hd (o := 111) (by decide), dj_r ho hd (o := 112) (by decide), dj_r ho hd (o := 113) (by decide), dj_r ho hd (o := 114) (by decide), dj_r ho hd (o := 115) (by decide), dj_j ho hd (j := 39) (by decide), dj_j ho hd (j := 40) (by decide), dj_j ho hd (j := 47) (by decide)]
  exact p
theorem Fo_off (ho : off R K h h') (hd : dj [62, 63, 64, 65, 121, 122, 123] [53] R K = true) (p : Fo h) : Fo h' := by
  unfold Fo
  rw [dj_r ho hd (o := 62) (by decide), dj_r ho hd (o := 63) (by decide), dj_r ho hd (o := 64) (by decide), dj_r ho hd (o := 65) (by decide), dj_r ho hd (o := 121) (by decide), dj_r ho hd (o := 122) (by decide), dj_r ho hd (o := 123) (by decide), dj_j ho hd (j := 53) (by decide)]
  exact p
theorem Mn_off (ho : off R K h h') (hd : dj [70, 71, 72, 73, 74, 75, 76, 134, 135, 136, 137, 138] [69, 70] R K = true) (p : Mn h) : Mn h' := by
  unfold Mn
  rw [dj_r ho hd (o := 70) (by decide), dj_r ho hd (o := 71) (by decide), dj_r ho hd (o := 72) (by decide), dj_r ho hd (o := 73) (by decide), dj_r ho hd (o := 74) (by decide), dj_r ho hd (o := 75) (by decide), dj_r ho hd (o := 76) (by decide), dj_r ho hd (o := 134) (by decide), dj_r ho hd (o := 135) (by decide), dj_r ho hd (o := 136) (by decide), dj_r ho hd (o := 137) (by decide), dj_r ho hd (o := 138) (by decide), dj_j ho hd (j := 69) (by decide), dj_j ho hd (j := 70) (by decide)]
  exact p
theorem Ty_off (ho : off R K h h') (hd : dj [77, 78, 79, 80, 142, 143, 144] [82] R K = true) (p : Ty h) : Ty h' := by
  unfold Ty
  rw [dj_r ho hd (o := 77) (by decide), dj_r ho hd (o := 78) (by decide), dj_r ho hd (o := 79) (by decide), dj_r ho hd (o := 80) (by decide), dj_r ho hd (o := 142) (by decide), dj_r ho hd (o := 143) (by decide), dj_r ho hd (o := 144) (by decide), dj_j ho hd (j := 82) (by decide)]
  exact p
theorem inv_mk (ho : off R K h h') (hI : Inv h)
    (a : dj [2, 3, 82] [1] R K = true ∨ Tp h' := by first | exact Or.inl (by decide) | exact Or.inr (by assumption))
    (b : dj [5, 6, 7, 8, 85, 86, 87] [5] R K = true ∨ Wd h' := by first | exact Or.inl (by decide) | exact Or.inr (by assumption))
    (c : dj [4] [15] R K = true ∨ Wt h' := by first | exact Or.inl (by decide) | exact Or.inr (by assumption))
    (d : dj [10, 11, 12, 13, 88, 89, 90, 91] [13, 14] R K = true ∨ Pr h' := by first | exact Or.inl (by decide) | exact Or.inr (by assumption))
    (e : dj [14, 15, 16, 17, 18, 19, 20, 92, 93, 94, 95, 96] [16] R K = true ∨ So h' := by first | exact Or.inl (by decide) | exact Or.inr (by assumption))
    (f : dj [40, 41, 42, 43, 44, 45, 127, 128, 129, 130] [61] R K = true ∨ Pa h' := by first | exact Or.inl (by decide) | exact Or.inr (by assumption))
    (g : dj [28, 30, 31, 32, 33, 105, 106, 107, 108, 109] [33] R K = true ∨ Wy h' := by first | exact Or.inl (by decide) | exact Or.inr (by assumption))
    (i : dj [49, 50, 51, 52, 53, 54, 110, 111, 112, 113, 114, 115] [39, 40, 47] R K = true ∨ Me h' := by first | exact Or.inl (by decide) | exact Or.inr (by assumption))
    (j : dj [62, 63, 64, 65, 121, 122, 123] [53] R K = true ∨ Fo h' := by first | exact Or.inl (by decide) | exact Or.inr (by assumption))
    (k : dj [70, 71, 72, 73, 74, 75, 76, 134, 135, 136, 137, 138] [69, 70] R K = true ∨ Mn h' := by first | exact Or.inl (by decide) | exact Or.inr (by assumption))
    (l : dj [77, 78, 79, 80, 142, 143, 144] [82] R K = true ∨ Ty h' := by first | exact Or.inl (by decide) | exact Or.inr (by assumption)) : Inv h' := by
  obtain ⟨p1, p2, p3, p4, p5, p6, p7, p8, p9, p10, p11⟩ := hI
  exact ⟨a.elim (fun z => Tp_off ho z p1) id, b.elim (fun z => Wd_off ho z p2) id, c.elim (fun z => Wt_off ho z p3) id, d.elim (fun z => Pr_off ho z p4) id, e.elim (fun z => So_off ho z p5) id, f.elim (fun z => Pa_off ho z p6) id, g.elim (fun z => Wy_off ho z p7) id, i.elim (fun z => Me_off ho z p8) id, j.elim (fun z => Fo_off ho z p9) id, k.elim (fun z => Mn_off ho z p10) id, l.elim (fun z => Ty_off ho z p11) id⟩
end
