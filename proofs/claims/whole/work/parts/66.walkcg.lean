/-! THE WALK: heaps that are alike where it looks; what it leaves behind -/
section
variable {h g : xH} {q : Int → Int} {m b : Int}
theorem Gs_cg (e : ∀ x, 5 ≤ x → x ≤ 20 → g x = h x) : Gs g = Gs h := by
  have e2 : ∀ x, 10 ≤ x → x ≤ 20 → g x = h x := fun x a b => e x (by omega) b
  funext q p
  unfold Gs
  rw [sp_cg e2, tA_cg e2, tB_cg e2, e 14 (by decide) (by decide)]
theorem rp_cg5 (e : ∀ x, 5 ≤ x → x ≤ 20 → g x = h x) : rp g 5 = rp h 5 := by
  funext w
  exact rp_congr (e 6 (by decide) (by decide)) (e 7 (by decide) (by decide))
theorem shW_cg' (e : ∀ x, 5 ≤ x → x ≤ 20 → g x = h x) : shW g = shW h := by
  funext w
  exact shW_cg (e 6 (by decide) (by decide)) (e 7 (by decide) (by decide))
theorem lsG_cg (e : ∀ x, 5 ≤ x → x ≤ 20 → g x = h x) : lsG g = lsG h := by
  funext q m p d
  unfold lsG
  rw [Gs_cg e]
theorem ct_cg (e : ∀ x, 5 ≤ x → x ≤ 20 → g x = h x) : ct g = ct h := by
  funext q m b w
  unfold ct
  congr 1
  funext c
  unfold isCut lft
  rw [lsG_cg e, rp_cg5 e, e 7 (by decide) (by decide)]
theorem dpt_cg (e : ∀ x, 5 ≤ x → x ≤ 20 → g x = h x) : dpt g = dpt h := by
  funext q m b w
  unfold dpt
  rw [ct_cg e, e 7 (by decide) (by decide)]
theorem bs_cg (e : ∀ x, 5 ≤ x → x ≤ 20 → g x = h x) : bs g = bs h := by
  funext q m b w
  have key : ∀ n, bsN g q m b n = bsN h q m b n := by
    intro n
    induction n with
    | zero => rfl
    | succ n ih =>
      show bsN g q m b n + max 0 (dpt g q m b n - shW g n) = bsN h q m b n + max 0 (dpt h q m b n - shW h n)
      rw [ih, dpt_cg e, shW_cg' e]
  exact key _
theorem lfs_cg (e : ∀ x, 5 ≤ x → x ≤ 20 → g x = h x) : lfs g = lfs h := by
  funext q m b w
  have key : ∀ n, lfN g q m b n = lfN h q m b n := by
    intro n
    induction n with
    | zero => rfl
    | succ n ih =>
      show lfN g q m b n + (if shW g n < ct g q m b n ∧ ct g q m b n ≤ g 7 n then 1 else 0) = lfN h q m b n + (if shW h n < ct h q m b n ∧ ct h q m b n ≤ h 7 n then 1 else 0)
      rw [ih, ct_cg e, shW_cg' e, e 7 (by decide) (by decide)]
  exact key _
theorem ps_cg (e : ∀ x, 5 ≤ x → x ≤ 20 → g x = h x) : ps g = ps h := by
  funext q m b w d
  unfold ps
  rw [bs_cg e, shW_cg' e]
theorem WH_cg (e : ∀ x, 5 ≤ x → x ≤ 20 → g x = h x) : WH g = WH h := by
  funext q m b w
  unfold WH
  rw [ct_cg e, Gs_cg e, rp_cg5 e, e 7 (by decide) (by decide)]
theorem BG_cg (e : ∀ x, 5 ≤ x → x ≤ 20 → g x = h x) : BG g = BG h := by
  funext q m b w
  unfold BG
  rw [dpt_cg e, Gs_cg e, rp_cg5 e]
theorem DW_cg (e : ∀ x, 5 ≤ x → x ≤ 20 → g x = h x) : DW g = DW h := by
  funext q m md w
  unfold DW
  rw [Gs_cg e, rp_cg5 e, e 7 (by decide) (by decide)]
end
/-- behind a node that is left nothing is near enough -/
theorem cut_far {h : xH} {q : Int → Int} {m b w d : Int} (hP : Pr h) (hS : So h) (W : Wd0 h) (hq : LR m q) (hb : b < 1000000) (w0 : 0 ≤ w) (w1 : w < h 5 2) (c0 : ct h q m b w ≤ d) (d1 : d ≤ h 7 w) : b < Gs h q (rp h 5 w) d m := by
  have lw := LR_w W w0 w1
  have H := LR_ok hP hS lw hq
  have cb := ct_b (h := h) (q := q) (m := m) (b := b) (w := w) lw.2.1
  have lf := ct_lft (h := h) (q := q) (m := m) (b := b) (w := w) (by omega) lw.2.1
  refine F_left H (FS_F H) hb cb.1 (fun x j x0 x1 x2 x3 j0 j1 => ?_) c0 d1 hq.1 (Int.le_refl _)
  have a := lf x (by omega) x2
  have c := mnf_le (f := fun j => Gs h q (rp h 5 w) x j) (n := (m + 1).toNat) (c := j) j0 (by omega)
  unfold lsG at a
  exact Int.lt_of_lt_of_le a c
theorem WH_rel {h : xH} {q : Int → Int} {m b w : Int} (hP : Pr h) (hS : So h) (W : Wd0 h) (hq : LR m q) (hb : b < 1000000) (w0 : 0 ≤ w) (w1 : w < h 5 2) : (WH h q m b w ≤ b ↔ DW h q m 0 w ≤ b) ∧ (DW h q m 0 w ≤ b → WH h q m b w = DW h q m 0 w) := by
  unfold WH DW
  rw [if_pos rfl]
  by_cases z : h 7 w ≤ ct h q m b w
  · rw [if_pos z]
    exact ⟨Iff.rfl, fun _ => rfl⟩
  · have := cut_far (d := h 7 w) hP hS W hq hb w0 w1 (by omega) (Int.le_refl _)
    rw [if_neg z]
    constructor
    · constructor <;> intro c <;> omega
    · intro c; omega
theorem WH_all {h : xH} {q : Int → Int} {m w : Int} (hP : Pr h) (hS : So h) (W : Wd0 h) (hq : LR m q) (w0 : 0 ≤ w) (w1 : w < h 5 2) : WH h q m 1000000 w = DW h q m 0 w := by
  have lw := LR_w W w0 w1
  have c13 : ct h q m 1000000 w = 13 := ct_13 lw.2.1 (fun x x0 x1 c => by
    have a := c x (by omega) (Int.le_refl _)
    have := mnf_far (f := fun j => Gs h q (rp h 5 w) x j) (n := (m + 1).toNat)
    unfold lsG at a
    omega)
  unfold WH DW
  rw [if_pos (by have := lw.2.1; omega), if_pos rfl]
theorem BG_rel {h : xH} {q : Int → Int} {m b w md : Int} (hP : Pr h) (hS : So h) (W : Wd0 h) (hq : LR m q) (hb : b < 1000000) (w0 : 0 ≤ w) (w1 : w < h 5 2) (hmd : md ≠ 0) : (BG h q m b w ≤ b ↔ DW h q m md w ≤ b) ∧ (DW h q m md w ≤ b → BG h q m b w = DW h q m md w) := by
  have lw := LR_w W w0 w1
  have dw := dpt_b (q := q) (m := m) (b := b) W w0 w1
  unfold BG DW
  rw [if_neg hmd]
  have key : ∀ n : Nat, dpt h q m b w + n ≤ h 7 w → (mnf (fun k => Gs h q (rp h 5 w) k m) (dpt h q m b w + n + 1).toNat ≤ b ↔ mnf (fun k => Gs h q (rp h 5 w) k m) (dpt h q m b w + 1).toNat ≤ b) ∧ (mnf (fun k => Gs h q (rp h 5 w) k m) (dpt h q m b w + n + 1).toNat ≤ b → mnf (fun k => Gs h q (rp h 5 w) k m) (dpt h q m b w + 1).toNat = mnf (fun k => Gs h q (rp h 5 w) k m) (dpt h q m b w + n + 1).toNat) := by
    intro n
    induction n with
    | zero =>
      intro _
      rw [show dpt h q m b w + ((0 : Nat) : Int) + 1 = dpt h q m b w + 1 by omega]
      exact ⟨Iff.rfl, fun _ => rfl⟩
    | succ n ih =>
      intro hn
      obtain ⟨i1, i2⟩ := ih (by omega)
      have e : mnf (fun k => Gs h q (rp h 5 w) k m) (dpt h q m b w + ((n + 1 : Nat) : Int) + 1).toNat = min (mnf (fun k => Gs h q (rp h 5 w) k m) (dpt h q m b w + n + 1).toNat) (Gs h q (rp h 5 w) (dpt h q m b w + n + 1) m) := by
        rw [show (dpt h q m b w + ((n + 1 : Nat) : Int) + 1).toNat = (dpt h q m b w + n + 1).toNat + 1 by omega]
        show min _ (Gs h q (rp h 5 w) (((dpt h q m b w + n + 1).toNat : Nat) : Int) m) = _
        rw [show (((dpt h q m b w + n + 1).toNat : Nat) : Int) = dpt h q m b w + n + 1 by omega]
      have far := cut_far (d := dpt h q m b w + n + 1) hP hS W hq hb w0 w1 (by unfold dpt at hn ⊢; omega) (by omega)
      rw [e]
      constructor
      · constructor
        · intro c
          exact i1.1 (by omega)
        · intro c
          have := i1.2 c
          omega
      · intro c
        have := i2 (by omega)
        omega
  have := key (h 7 w - dpt h q m b w).toNat (by omega)
  rw [show dpt h q m b w + (((h 7 w - dpt h q m b w).toNat : Nat) : Int) + 1 = h 7 w + 1 by omega] at this
  exact ⟨this.1.symm, this.2⟩
/-- the nodes met: the class's and the model's -/
theorem Me_walk {h h1 y3 g y4 : xH} {q : Int → Int} {m b : Int} (W : Wd0 h) (hq : LR m q) (eh : ∀ x, 5 ≤ x → x ≤ 20 → h1 x = h x) (ey : ∀ x, 5 ≤ x → x ≤ 20 → y3 x = h x) (q1 : tp h1 23 = q) (m1 : h1 23 1 = m) (q3 : pB y3 = q) (m3 : y3 81 23 = m) (hK : CK h1 g b (h1 5 2 - 1) 14) (g5 : g 49 5 = bs h1 (tp h1 23) (h1 23 1) b (h1 5 2)) (g6 : g 49 6 = lfs h1 (tp h1 23) (h1 23 1) b (h1 5 2)) (hE : WE y3 b y4) : Me (mx g y4) := by
  obtain ⟨e1, e2, e3, e4, e5⟩ := hE
  have N200 := Wd_n W
  have e5h : h1 5 = h 5 := eh 5 (by decide) (by decide)
  have e5y : y3 5 = h 5 := ey 5 (by decide) (by decide)
  rw [q1, m1, bs_cg eh, e5h] at g5
  rw [q1, m1, lfs_cg eh, e5h] at g6
  rw [q3, m3, bs_cg ey, e5y] at e3
  rw [q3, m3, lfs_cg ey, e5y] at e4
  rw [m3] at e2
  obtain ⟨k7, kn⟩ := hK
  rw [m1] at k7
  have bb := bs_bd (q := q) (m := m) (b := b) W N200.1 (Int.le_refl _)
  unfold Me
  rw [mx_lo (o := 49) (by decide), mx_lo (o := 50) (by decide), mx_lo (o := 51) (by decide), mx_lo (o := 52) (by decide), mx_lo (o := 53) (by decide), mx_lo (o := 54) (by decide), mx_hi (o := 81) (by decide), mx_hi (o := 110) (by decide), mx_hi (o := 111) (by decide), mx_hi (o := 112) (by decide), mx_hi (o := 113) (by decide), mx_hi (o := 114) (by decide), mx_hi (o := 115) (by decide)]
  have m0 := hq.1
  have m12 := hq.2.1
  refine ⟨by omega, by omega, by omega, by omega, fun _ => ⟨by omega, by omega, by omega⟩, fun i i0 i1 => ?_⟩
  rw [g5] at i1
  obtain ⟨w, d, w0, w1, d0, d1, hi⟩ := ps_ex (h := h) (q := q) (m := m) (b := b) (h 5 2).toNat i i0 (by rw [show (((h 5 2).toNat : Nat) : Int) = h 5 2 by omega]; exact i1)
  have db := dpt_b (q := q) (m := m) (b := b) W w0 (by omega)
  have c := kn w d w0 (by rw [e5h]; omega) (by rw [e5h]; omega) (by rw [shW_cg' eh]; exact d0) (by rw [q1, m1, dpt_cg eh]; exact d1) (fun _ => by omega)
  have v := e5 w d w0 (by rw [e5y]; omega) (by rw [shW_cg' ey]; exact d0) (by rw [q3, m3, dpt_cg ey]; exact d1)
  unfold CNd at c
  unfold MNd at v
  rw [q1, m1, ps_cg eh, ← hi, rp_cg5 eh, eh 7 (by decide) (by decide), ct_cg eh, Gs_cg eh] at c
  rw [q3, m3, ps_cg ey, ← hi, rp_cg5 ey, ey 7 (by decide) (by decide), ct_cg ey, Gs_cg ey, lsG_cg ey] at v
  obtain ⟨c1, c2, c3, c4, c5⟩ := c
  obtain ⟨v1, v2, v3, v4, v5, v6⟩ := v
  refine ⟨by rw [v1, c1], by rw [v2, c2], ?_, ?_, ?_, fun j j0 j1 => ?_⟩
  · rw [v3, k7]
    unfold lsG
    exact mnf_ext fun j j0 j1 => (c5 j j0 (by omega)).symm
  · rw [v4, c4]
    by_cases z : d = ct h q m b w
    · rw [if_pos z, if_neg (by decide)]
    · rw [if_neg z, if_pos rfl]
  · rw [v5, c3]
    by_cases z : d = h 7 w
    · rw [if_pos z, if_neg (by decide)]
    · rw [if_neg z, if_pos rfl]
  · rw [v6 j j0 (by omega), c5 j j0 (by omega)]
