/-! THE CLASS'S WALK: the leasts of one depth -/
theorem s_sumUp {h : xH} {d u : Int} (hu : TQ u h) (d0 : 0 ≤ d) (d1 : d ≤ 12) : f_Walk_sumUp d u h = some (xup (xup h 58 d (mnf (fun j => h 57 (d * 13 + j)) (h u 1 + 1).toNat)) 59 d (if 0 < d then min (h 57 (d * 13 + h u 1)) (h 59 (d - 1)) else h 57 (d * 13 + h u 1))) := by
  have u1 := hu.1
  have u2 := hu.2.1
  unfold f_Walk_sumUp f_Walk_sumUp_10
  obtain ⟨b, e, b1, b2⟩ := xloop_W (step := fun s : Int × Int × Int => f_Walk_sumUp_s10 d u s.1 s.2.1 s.2.2 h) (I := fun s => 0 ≤ s.2.2 ∧ s.2.2 ≤ h u 1 + 1 ∧ s.1 = mnf (fun j => h 57 (d * 13 + j)) s.2.2.toNat ∧ (s.2.2 = 0 ∨ s.2.1 = h 57 (d * 13 + (s.2.2 - 1)))) (fun s => (h u 1 + 1 - s.2.2).toNat)
    (post := fun b => b.1 = mnf (fun j => h 57 (d * 13 + j)) (h u 1 + 1).toNat ∧ b.2 = h 57 (d * 13 + h u 1)) (s := (1000000, 1000000, 0)) (by
      rintro ⟨v, w, j⟩ hI
      dsimp only at hI ⊢
      obtain ⟨j0, j1, rfl, hw⟩ := hI
      unfold f_Walk_sumUp_s10
      by_cases q : h u 1 < j
      · right
        refine ⟨(mnf (fun j => h 57 (d * 13 + j)) j.toNat, w), by rw [if_pos q], ?_, ?_⟩
        · dsimp only
          rw [show j = h u 1 + 1 by omega]
        · dsimp only
          rcases hw with z | z
          · omega
          · rw [z, show j - 1 = h u 1 by omega]
      · left
        have nx : mnf (fun j => h 57 (d * 13 + j)) (j + 1).toNat = min (mnf (fun j => h 57 (d * 13 + j)) j.toNat) (h 57 (d * 13 + j)) := by
          rw [show (j + 1).toNat = j.toNat + 1 by omega]
          show min _ (h 57 (d * 13 + ((j.toNat : Nat) : Int))) = _
          rw [show ((j.toNat : Nat) : Int) = j by omega]
        refine ⟨(mnf (fun j => h 57 (d * 13 + j)) (j + 1).toNat, h 57 (d * 13 + j), j + 1), ?_, ⟨by dsimp only; omega, by dsimp only; omega, rfl, Or.inr (by dsimp only; rw [show j + 1 - 1 = j by omega])⟩, by dsimp only; omega⟩
        unfold f_Walk_sumUp_55
        rw [if_neg q, w32_id (z := d * 13) (by omega) (by omega), w32_id (z := d * 13 + j) (by omega) (by omega), xlet_eq, if_neg (by omega), if_pos (by omega), xgd_pos (by omega) (by omega), xlet_eq, xlet_eq, w32_id (by omega) (by omega), nx]) ⟨by dsimp only; omega, by dsimp only; omega, rfl, Or.inl rfl⟩
  rw [e, xc1_some, b1, b2]
  unfold f_Walk_sumUp_70 f_Walk_sumUp_126
  rw [if_neg (by omega), if_pos (by omega), if_pos (by omega), xgd_pos (by omega) (by omega), xlet_eq]
  by_cases q : 0 < d
  · rw [if_pos q, if_pos q, w32_id (z := d - 1) (by omega) (by omega), xgd_pos (by omega) (by omega), xgd_pos (by omega) (by omega), xlet_eq, xup_row (o' := 59) (by decide)]
  · rw [if_neg q, if_neg q, xgd_pos (by omega) (by omega), xlet_eq]
/-- left: the last three depths hold no sum in the bound -/
theorem s_isLeft {h : xH} {d b : Int} (d0 : 0 ≤ d) (d1 : d ≤ 12) : ∃ r, f_Walk_isLeft d b h = some r ∧ (r = 1 ∧ (∀ k, max (d - 2) 0 ≤ k → k ≤ d → b < h 58 k) ∨ r = 0 ∧ ∃ k, max (d - 2) 0 ≤ k ∧ k ≤ d ∧ h 58 k ≤ b) := by
  unfold f_Walk_isLeft f_Walk_isLeft_8
  rw [w32_id (by omega) (by omega), xlet_eq]
  obtain ⟨q, e, hq⟩ := xloop_W (step := fun s : Int => f_Walk_isLeft_s8 d b s h) (I := fun k => max (d - 2) 0 ≤ k ∧ k ≤ d + 1 ∧ ∀ x, max (d - 2) 0 ≤ x → x < k → b < h 58 x) (fun k => (d + 1 - k).toNat)
    (post := fun q => q = Sum.inl () ∧ (∀ k, max (d - 2) 0 ≤ k → k ≤ d → b < h 58 k) ∨ q = Sum.inr 0 ∧ ∃ k, max (d - 2) 0 ≤ k ∧ k ≤ d ∧ h 58 k ≤ b) (s := max (d - 2) 0) (by
      intro k ⟨k0, k1, k2⟩
      dsimp only [f_Walk_isLeft_s8]
      by_cases q : d < k
      · right
        exact ⟨Sum.inl (), by rw [if_pos q], Or.inl ⟨rfl, fun x a c => k2 x a (by omega)⟩⟩
      · rw [if_neg q, if_pos (by omega), xgd_pos (by omega) (by omega)]
        by_cases z : b < h 58 k
        · left
          refine ⟨k + 1, by rw [if_pos z, w32_id (by omega) (by omega), xlet_eq], ⟨by omega, by omega, fun x a c => ?_⟩, by omega⟩
          by_cases y : x = k
          · rw [y]; exact z
          · exact k2 x a (by omega)
        · right
          exact ⟨Sum.inr 0, by rw [if_neg z], Or.inr ⟨rfl, k, k0, by omega, by omega⟩⟩) ⟨by omega, by omega, fun x a c => by omega⟩
  rw [e, xc1_some]
  rcases hq with ⟨rfl, hq⟩ | ⟨rfl, hq⟩
  · exact ⟨1, by rw [xsw_l]; rfl, Or.inl ⟨rfl, hq⟩⟩
  · exact ⟨0, by rw [xsw_r], Or.inr ⟨rfl, hq⟩⟩
