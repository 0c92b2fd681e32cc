/-! THE LAW FROM ITS ENTRY, on the quiet machine -/
theorem J_seal {M : xM} {pc n : Nat} {ls : List (Nat × xV)} {st : List xV} {h : xH} {Q : xQ} (hn : n = xKn) (hf : xRef h) (k : J M true 0 0 pc n ls st h Q) (hQ : ∀ r n' h', Q r n' h' → n' = xKn) : J M false 0 0 pc n ls st h Q := by
  intro a b c d D cI cZ base ad p l e R s m args below meth cc hcx H locs cells slots Z lsm hrel hS hls hb hret
  have h2 := hrel.2 rfl
  refine k a b c (fun _ => ⟨hn, hf⟩) D cI cZ base ad p l e R s m args below meth cc hcx H locs cells slots Z lsm ⟨hrel.1, fun z => by cases z⟩ hS hls hb ?_
  intro r n' h' H' locs' pc' lsm' hq hr hrg hg hrel' hS' hd
  refine hret r n' h' H' locs' pc' lsm' hq hr hrg (fun z => by cases z) ⟨hrel'.1, fun _ => ?_⟩ hS' hd
  have e := hQ r n' h' hq
  have e2 := hb.1
  omega
theorem hS0_ref : xRef hS0 := by
  have key : ∀ k : Nat, k < xRT.length → ∀ i : Nat, i < (xRT.getD k []).length → (xRT.getD k []).getD i 0 ≠ 0 → hS0 (k : Int) (i : Int) = (xRT.getD k []).getD i 0 := by decide +kernel
  intro o j hj
  have hj2 := hj
  unfold xRf at hj2
  split at hj2
  · exact absurd rfl hj2
  · next hj0 =>
    have h1 : o.toNat < xRT.length := Nat.not_le.mp fun q => hj2 (by simp [List.getD, List.getElem?_eq_none q])
    have h2 : j.toNat < (xRT.getD o.toNat []).length := Nat.not_le.mp fun q => hj2 (by rw [List.getD, List.getElem?_eq_none q]; rfl)
    have ho : 0 < o := Int.not_le.mp fun q => by
      have : o.toNat = 0 := by omega
      rw [this] at hj2
      exact hj2 rfl
    have e1 : ((o.toNat : Nat) : Int) = o := by omega
    have e2 : ((j.toNat : Nat) : Int) = j := by omega
    have k := key o.toNat h1 j.toNat h2 hj2
    rw [e1, e2] at k
    unfold xRf
    rw [if_neg hj0]
    exact k
theorem dL_law_0 : decode code 0 = .ok (.new 7, 3) := by decide +kernel
theorem dL_law_3 : decode code 3 = .ok (.dup, 1) := by decide +kernel
theorem dL_law_4 : decode code 4 = .ok (.invokespecial 9, 3) := by decide +kernel
theorem dL_law_7 : decode code 7 = .ok (.astore_n 1, 1) := by decide +kernel
theorem dL_law_8 : decode code 8 = .ok (.new 10, 3) := by decide +kernel
theorem dL_law_11 : decode code 11 = .ok (.dup, 1) := by decide +kernel
theorem dL_law_12 : decode code 12 = .ok (.invokespecial 12, 3) := by decide +kernel
theorem dL_law_15 : decode code 15 = .ok (.astore_n 2, 1) := by decide +kernel
theorem law_J {L : Nat} {xs : Nat → Int32} (hL : L ≤ 2560) : ∃ h' : xH, J (mL_law L xs) false 145 101868 0 0 [(0, xR (-3))] [] hZ (xEq (some 1) h') := by
  obtain ⟨h', hf⟩ := law_all (xs := xs) hL inv0
  refine ⟨h', ?_⟩
  refine J_new (rc2 := 144) (rs2 := 101851) xcf11 (by decide +kernel) dL_law_0 xq141 xq142 xq125 (by decide +kernel) (fun j => rfl) rfl rfl ?_
  refine J_n (m := 1) rfl ?_
  refine J_cong (ls2 := [(0, xR (-3))]) (st2 := [xR 1]) rfl rfl ?_
  refine J_dup dL_law_3 rfl ?_
  obtain ⟨h1, eh1⟩ : ∃ x : xH, x = uji_WM_1 hZ := ⟨_, rfl⟩
  have hz1 : ∀ o j : Int, 1 < o → hZ o j = 0 := fun _ _ _ => rfl
  refine J_cI (Mc := mX11_init) (n2 := 80) (h2 := h1) (rc2 := 65) (rs2 := 51661) [] dL_law_4 ((fc_WM_init).fit ⟨xbl rfl, xbl rfl⟩) rfl ⟨Or.inl xq143, rfl, xq144, rfl⟩ rfl (xbl rfl) (xbl rfl) ⟨rfl, rfl⟩ (by rw [eh1]; exact ji_WM_1 hz1) ?_
  have zh1 : ∀ o j : Int, 80 < o → h1 o j = 0 := fun o j ho => by rw [eh1]; exact zji_WM_1 hz1 o j ho
  refine J_astore_n (y := 1) (ls' := [(1, xR 1), (0, xR (-3))]) dL_law_7 rfl (xbl rfl) rfl rfl ?_
  refine J_pc (pc2 := 8) rfl ?_
  refine J_new (rc2 := 64) (rs2 := 51575) xcf12 (by decide +kernel) dL_law_8 xq1014 xq1015 xq138 (by decide +kernel) (fun j => zh1 81 j (by decide)) rfl rfl ?_
  refine J_n (m := 81) rfl ?_
  refine J_cong (ls2 := [(1, xR 1), (0, xR (-3))]) (st2 := [xR 81]) rfl rfl ?_
  refine J_dup dL_law_11 rfl ?_
  have hz2 : ∀ o j : Int, 81 < o → h1 o j = 0 := fun o j ho => zh1 o j (by omega)
  obtain ⟨h2, eh2⟩ : ∃ x : xH, x = uji_Md_81 h1 := ⟨_, rfl⟩
  refine J_cI (Mc := mX12_init) (n2 := 145) (h2 := h2) (rc2 := 0) (rs2 := 0) [] dL_law_12 ((fc_Md_init).fit ⟨xbl rfl, xbl rfl⟩) rfl ⟨Or.inl xq1016, rfl, xq1017, rfl⟩ rfl (xbl rfl) (xbl rfl) ⟨rfl, rfl⟩ (by rw [eh2]; exact ji_Md_81 hz2) ?_
  have e : h2 = hS0 := by rw [eh2, eh1]; rfl
  refine J_astore_n (y := 81) (ls' := [(2, xR 81), (1, xR 1), (0, xR (-3))]) dL_law_15 rfl (xbl rfl) rfl rfl ?_
  refine J_sub (ls' := [(0, xR (-3)), (1, xR 1), (2, xR 81)]) [2, 1, 0] rfl ?_
  refine J_pc (pc2 := 16) rfl ?_
  refine J_n (m := xKn) rfl ?_
  rw [e]
  exact J_seal rfl hS0_ref (j_Law_law_16 hL hf) (fun r n' h' q => q.2.1)
