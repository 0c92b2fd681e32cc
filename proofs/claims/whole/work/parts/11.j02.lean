/-! the machine follows the functions -/
theorem dX10_measure_0 : decode cX10_measure 0 = .ok (.aload_n 1, 1) := by decide +kernel
theorem dX10_measure_1 : decode cX10_measure 1 = .ok (.getfield 31, 3) := by decide +kernel
theorem dX10_measure_4 : decode cX10_measure 4 = .ok (.istore_n 3, 1) := by decide +kernel
theorem dX10_measure_5 : decode cX10_measure 5 = .ok (.iload_n 3, 1) := by decide +kernel
theorem dX10_measure_6 : decode cX10_measure 6 = .ok (.ifCond .lt 61, 3) := by decide +kernel
theorem dX10_measure_9 : decode cX10_measure 9 = .ok (.aload_n 2, 1) := by decide +kernel
theorem dX10_measure_10 : decode cX10_measure 10 = .ok (.getfield 31, 3) := by decide +kernel
theorem dX10_measure_13 : decode cX10_measure 13 = .ok (.istore 4, 2) := by decide +kernel
theorem dX10_measure_15 : decode cX10_measure 15 = .ok (.iload 4, 2) := by decide +kernel
theorem dX10_measure_17 : decode cX10_measure 17 = .ok (.ifCond .lt 44, 3) := by decide +kernel
theorem dX10_measure_20 : decode cX10_measure 20 = .ok (.iload_n 3, 1) := by decide +kernel
theorem dX10_measure_21 : decode cX10_measure 21 = .ok (.bipush 13, 2) := by decide +kernel
theorem dX10_measure_23 : decode cX10_measure 23 = .ok (.imul, 1) := by decide +kernel
theorem dX10_measure_24 : decode cX10_measure 24 = .ok (.iload 4, 2) := by decide +kernel
theorem dX10_measure_26 : decode cX10_measure 26 = .ok (.iadd, 1) := by decide +kernel
theorem dX10_measure_27 : decode cX10_measure 27 = .ok (.istore 5, 2) := by decide +kernel
theorem dX10_measure_29 : decode cX10_measure 29 = .ok (.iload 5, 2) := by decide +kernel
theorem dX10_measure_31 : decode cX10_measure 31 = .ok (.aload_n 0, 1) := by decide +kernel
theorem dX10_measure_32 : decode cX10_measure 32 = .ok (.getfield 9, 3) := by decide +kernel
theorem dX10_measure_35 : decode cX10_measure 35 = .ok (.arraylength, 1) := by decide +kernel
theorem dX10_measure_36 : decode cX10_measure 36 = .ok (.if_icmp .ge 19, 3) := by decide +kernel
theorem dX10_measure_39 : decode cX10_measure 39 = .ok (.aload_n 0, 1) := by decide +kernel
theorem dX10_measure_40 : decode cX10_measure 40 = .ok (.getfield 9, 3) := by decide +kernel
theorem dX10_measure_43 : decode cX10_measure 43 = .ok (.iload 5, 2) := by decide +kernel
theorem dX10_measure_45 : decode cX10_measure 45 = .ok (.aload_n 0, 1) := by decide +kernel
theorem dX10_measure_46 : decode cX10_measure 46 = .ok (.aload_n 1, 1) := by decide +kernel
theorem dX10_measure_47 : decode cX10_measure 47 = .ok (.iload_n 3, 1) := by decide +kernel
theorem dX10_measure_48 : decode cX10_measure 48 = .ok (.aload_n 2, 1) := by decide +kernel
theorem dX10_measure_49 : decode cX10_measure 49 = .ok (.iload 4, 2) := by decide +kernel
theorem dX10_measure_51 : decode cX10_measure 51 = .ok (.invokevirtual 37, 3) := by decide +kernel
theorem dX10_measure_54 : decode cX10_measure 54 = .ok (.iastore, 1) := by decide +kernel
theorem dX10_measure_55 : decode cX10_measure 55 = .ok (.iinc 4 (-1), 3) := by decide +kernel
theorem dX10_measure_58 : decode cX10_measure 58 = .ok (.goto (-43), 3) := by decide +kernel
theorem dX10_measure_61 : decode cX10_measure 61 = .ok (.iinc 3 (-1), 3) := by decide +kernel
theorem dX10_measure_64 : decode cX10_measure 64 = .ok (.goto (-59), 3) := by decide +kernel
theorem dX10_measure_67 : decode cX10_measure 67 = .ok (.aload_n 0, 1) := by decide +kernel
theorem dX10_measure_68 : decode cX10_measure 68 = .ok (.getfield 9, 3) := by decide +kernel
theorem dX10_measure_71 : decode cX10_measure 71 = .ok (.iconst 0, 1) := by decide +kernel
theorem dX10_measure_72 : decode cX10_measure 72 = .ok (.iaload, 1) := by decide +kernel
theorem dX10_measure_73 : decode cX10_measure 73 = .ok (.ireturn, 1) := by decide +kernel
theorem j_Way_measure_67 {l0 : Int} {h : xH} {r0 : Int} {h0 : xH} (kl0 : xK l0 = 3 + 10) (hf : f_Way_measure_67 l0 h = some (r0, h0))  : J mX10_measure true 0 0 67 xKn [(0, xR l0)] [] h (xEq (some r0) h0) := by
  unfold f_Way_measure_67 at hf
  refine J_aload_n 0 dX10_measure_67 rfl rfl ?_
  refine J_getRl (j := 1) xcf10 dX10_measure_68 kl0 (Or.inl xq265) (by decide) (by decide) (rfWay_1 kl0) ?_
  refine J_iconst dX10_measure_71 (by decide) ?_
  obtain ⟨hg, hf⟩ := xgd_e hf
  refine J_iald dX10_measure_72 (xK_r1 (kWay_1 kl0)) (kWay_1 kl0) hg (nWay_1 kl0) ?_
  exact J_ireti dX10_measure_73 rfl (xq_i hf)
theorem j_Way_measure_61 {l0 : Int} {l1 : Int} {l2 : Int} {l3 : Int} {h : xH} {x : ((Int × xH) ⊕ xH)} {Q : xQ} (kl0 : xK l0 = 3 + 10) (kl1 : xK l1 = 3 + 4) (kl2 : xK l2 = 3 + 4) (hf : f_Way_measure_61 l0 l1 l2 l3 h = some x) (kb : ∀ (l3' : Int) (h' : xH), x = Sum.inl (l3', h') → J mX10_measure true 0 0 5 xKn [(0, xR l0), (1, xR l1), (2, xR l2), (3, xI l3')] [] h' Q) (ke : ∀  (h' : xH), x = (Sum.inr h') → J mX10_measure true 0 0 67 xKn [(0, xR l0)] [] h' Q) : J mX10_measure true 0 0 61 xKn [(0, xR l0), (1, xR l1), (2, xR l2), (3, xI l3)] [] h Q := by
  unfold f_Way_measure_61 at hf
  obtain ⟨x1, ex1, hf⟩ := xlet_e hf
  refine J_iinc (ls' := [(3, xI x1), (0, xR l0), (1, xR l1), (2, xR l2)]) 3 dX10_measure_61 rfl (by decide) ex1 rfl ?_
  refine J_goto (tgt := 5) dX10_measure_64 (by decide) ?_
  refine J_sub [1, 2, 3, 0] rfl ?_
  exact kb _ _ (xinl hf)
theorem j_Way_measure_55 {l0 : Int} {l1 : Int} {l2 : Int} {l3 : Int} {l4 : Int} {h : xH} {x : ((Int × xH) ⊕ xH)} {Q : xQ} (kl0 : xK l0 = 3 + 10) (kl1 : xK l1 = 3 + 4) (kl2 : xK l2 = 3 + 4) (hf : f_Way_measure_55 l0 l1 l2 l3 l4 h = some x) (kb : ∀ (l4' : Int) (h' : xH), x = Sum.inl (l4', h') → J mX10_measure true 0 0 15 xKn [(0, xR l0), (1, xR l1), (2, xR l2), (3, xI l3), (4, xI l4')] [] h' Q) (ke : ∀  (h' : xH), x = (Sum.inr h') → J mX10_measure true 0 0 61 xKn [(0, xR l0), (1, xR l1), (2, xR l2), (3, xI l3)] [] h' Q) : J mX10_measure true 0 0 55 xKn [(0, xR l0), (1, xR l1), (2, xR l2), (3, xI l3), (4, xI l4)] [] h Q := by
  unfold f_Way_measure_55 at hf
  obtain ⟨x1, ex1, hf⟩ := xlet_e hf
  refine J_iinc (ls' := [(4, xI x1), (0, xR l0), (1, xR l1), (2, xR l2), (3, xI l3)]) 4 dX10_measure_55 rfl (by decide) ex1 rfl ?_
  refine J_goto (tgt := 15) dX10_measure_58 (by decide) ?_
  refine J_sub [1, 2, 3, 4, 0] rfl ?_
  exact kb _ _ (xinl hf)
theorem j_Way_measure_s15 {l0 : Int} {l1 : Int} {l2 : Int} {l3 : Int} {l4 : Int} {h : xH} {x : ((Int × xH) ⊕ xH)} {Q : xQ} (kl0 : xK l0 = 3 + 10) (kl1 : xK l1 = 3 + 4) (kl2 : xK l2 = 3 + 4) (hf : f_Way_measure_s15 l0 l1 l2 l3 l4 h = some x) (kb : ∀ (l4' : Int) (h' : xH), x = Sum.inl (l4', h') → J mX10_measure true 0 0 15 xKn [(0, xR l0), (1, xR l1), (2, xR l2), (3, xI l3), (4, xI l4')] [] h' Q) (ke : ∀  (h' : xH), x = (Sum.inr h') → J mX10_measure true 0 0 61 xKn [(0, xR l0), (1, xR l1), (2, xR l2), (3, xI l3)] [] h' Q) : J mX10_measure true 0 0 15 xKn [(0, xR l0), (1, xR l1), (2, xR l2), (3, xI l3), (4, xI l4)] [] h Q := by
  unfold f_Way_measure_s15 at hf
  refine J_iload 4 dX10_measure_15 rfl ?_
  refine J_if_lt (tgt := 61) dX10_measure_17 (by decide) (fun hc => ?_) (fun hc => ?_)
  · have hf := xip hc hf
    refine J_sub [0, 1, 2, 3] rfl ?_
    exact ke _ (xinl hf)
  · have hf := xin' hc hf
    refine J_iload_n 3 dX10_measure_20 rfl rfl ?_
    refine J_bip dX10_measure_21 (by decide) ?_
    refine J_imul dX10_measure_23 ?_
    refine J_iload 4 dX10_measure_24 rfl ?_
    refine J_iadd dX10_measure_26 ?_
    obtain ⟨x1, ex1, hf⟩ := xlet_e hf
    refine J_istore (ls' := [(5, xI x1), (0, xR l0), (1, xR l1), (2, xR l2), (3, xI l3), (4, xI l4)]) dX10_measure_27 (by decide) ex1 rfl ?_
    refine J_iload 0 dX10_measure_29 rfl ?_
    refine J_aload_n 1 dX10_measure_31 rfl rfl ?_
    refine J_getRl (j := 1) xcf10 dX10_measure_32 kl0 (Or.inl xq265) (by decide) (by decide) (rfWay_1 kl0) ?_
    refine J_alen dX10_measure_35 (xK_r1 (kWay_1 kl0)) (Or.inl (kWay_1 kl0)) (by decide) (nWay_1 kl0) ?_
    refine J_ic_ge (tgt := 55) dX10_measure_36 (by decide) (fun hc => ?_) (fun hc => ?_)
    · have hf := xip hc hf
      refine J_aload_n 1 dX10_measure_39 rfl rfl ?_
      refine J_getRl (j := 1) xcf10 dX10_measure_40 kl0 (Or.inl xq265) (by decide) (by decide) (rfWay_1 kl0) ?_
      refine J_iload 0 dX10_measure_43 rfl ?_
      refine J_aload_n 1 dX10_measure_45 rfl rfl ?_
      refine J_aload_n 2 dX10_measure_46 rfl rfl ?_
      refine J_iload_n 4 dX10_measure_47 rfl rfl ?_
      refine J_aload_n 3 dX10_measure_48 rfl rfl ?_
      refine J_iload 5 dX10_measure_49 rfl ?_
      obtain ⟨r2, hq, hf⟩ := xc1_e hf
      refine J_cVi (Mc := mX10_leastFrom) [xR l1, xI l3, xR l2, xI l4] dX10_measure_51 (fc_Way_leastFrom.fit ⟨xbl rfl, xbl rfl⟩) rfl ⟨Or.inl xq650, xq652, xq26⟩ kl0 (ci := 10) rfl rfl (xbl rfl) (xbl rfl) (jm_Way_leastFrom kl0 kl1 kl2 hq) ?_
      obtain ⟨hg, hf⟩ := xgd_e hf
      obtain ⟨h3, eh3, hf⟩ := xlet_e hf
      refine J_iast dX10_measure_54 (xK_r1 (kWay_1 kl0)) (kWay_1 kl0) hg (nWay_1 kl0) eh3 ?_
      refine J_sub [1, 2, 3, 4, 5] rfl ?_
      exact j_Way_measure_55 kl0 kl1 kl2 hf kb ke
    · have hf := xin' hc hf
      refine J_sub [1, 2, 3, 4, 5] rfl ?_
      exact j_Way_measure_55 kl0 kl1 kl2 hf kb ke
theorem j_Way_measure_15 {l0 : Int} {l1 : Int} {l2 : Int} {l3 : Int} {l4 : Int} {h : xH} {x : ((Int × xH) ⊕ xH)} {Q : xQ} (kl0 : xK l0 = 3 + 10) (kl1 : xK l1 = 3 + 4) (kl2 : xK l2 = 3 + 4) (hf : f_Way_measure_15 l0 l1 l2 l3 l4 h = some x) (kb : ∀ (l3' : Int) (h' : xH), x = Sum.inl (l3', h') → J mX10_measure true 0 0 5 xKn [(0, xR l0), (1, xR l1), (2, xR l2), (3, xI l3')] [] h' Q) (ke : ∀  (h' : xH), x = (Sum.inr h') → J mX10_measure true 0 0 67 xKn [(0, xR l0)] [] h' Q) : J mX10_measure true 0 0 15 xKn [(0, xR l0), (1, xR l1), (2, xR l2), (3, xI l3), (4, xI l4)] [] h Q := by
  unfold f_Way_measure_15 at hf
  obtain ⟨b0, hb0, hf⟩ := xc1_e hf
  refine xloop_ind (P := fun s : (Int × xH) => J mX10_measure true 0 0 15 xKn [(0, xR l0), (1, xR l1), (2, xR l2), (3, xI l3), (4, xI s.1)] [] s.2 Q) hb0 (fun s x1 hs ib ie => ?_)
  exact j_Way_measure_s15 kl0 kl1 kl2 hs (fun _ _ e => ib _ e) (fun _ e => by have := ie _ e; subst this; exact j_Way_measure_61 kl0 kl1 kl2 hf kb ke)
theorem j_Way_measure_s5 {l0 : Int} {l1 : Int} {l2 : Int} {l3 : Int} {h : xH} {x : ((Int × xH) ⊕ xH)} {Q : xQ} (kl0 : xK l0 = 3 + 10) (kl1 : xK l1 = 3 + 4) (kl2 : xK l2 = 3 + 4) (hf : f_Way_measure_s5 l0 l1 l2 l3 h = some x) (kb : ∀ (l3' : Int) (h' : xH), x = Sum.inl (l3', h') → J mX10_measure true 0 0 5 xKn [(0, xR l0), (1, xR l1), (2, xR l2), (3, xI l3')] [] h' Q) (ke : ∀  (h' : xH), x = (Sum.inr h') → J mX10_measure true 0 0 67 xKn [(0, xR l0)] [] h' Q) : J mX10_measure true 0 0 5 xKn [(0, xR l0), (1, xR l1), (2, xR l2), (3, xI l3)] [] h Q := by
  unfold f_Way_measure_s5 at hf
  refine J_iload_n 3 dX10_measure_5 rfl rfl ?_
  refine J_if_lt (tgt := 67) dX10_measure_6 (by decide) (fun hc => ?_) (fun hc => ?_)
  · have hf := xip hc hf
    refine J_sub [0] rfl ?_
    exact ke _ (xinl hf)
  · have hf := xin' hc hf
    refine J_aload_n 2 dX10_measure_9 rfl rfl ?_
    refine J_getI (j := 1) xcf4 dX10_measure_10 (xK_rg kl2) kl2 (Or.inr ⟨_, xq247⟩) (by decide) (by decide) ?_
    obtain ⟨x1, ex1, hf⟩ := xlet_e hf
    refine J_istore (ls' := [(4, xI x1), (0, xR l0), (1, xR l1), (2, xR l2), (3, xI l3)]) dX10_measure_13 (by decide) ex1 rfl ?_
    refine J_sub [1, 2, 3, 4, 0] rfl ?_
    exact j_Way_measure_15 kl0 kl1 kl2 hf kb ke
theorem j_Way_measure_5 {l0 : Int} {l1 : Int} {l2 : Int} {l3 : Int} {h : xH} {r0 : Int} {h0 : xH} (kl0 : xK l0 = 3 + 10) (kl1 : xK l1 = 3 + 4) (kl2 : xK l2 = 3 + 4) (hf : f_Way_measure_5 l0 l1 l2 l3 h = some (r0, h0))  : J mX10_measure true 0 0 5 xKn [(0, xR l0), (1, xR l1), (2, xR l2), (3, xI l3)] [] h (xEq (some r0) h0) := by
  unfold f_Way_measure_5 at hf
  obtain ⟨b0, hb0, hf⟩ := xc1_e hf
  refine xloop_ind (P := fun s : (Int × xH) => J mX10_measure true 0 0 5 xKn [(0, xR l0), (1, xR l1), (2, xR l2), (3, xI s.1)] [] s.2 (xEq (some r0) h0)) hb0 (fun s x1 hs ib ie => ?_)
  exact j_Way_measure_s5 kl0 kl1 kl2 hs (fun _ _ e => ib _ e) (fun _ e => by have := ie _ e; subst this; exact j_Way_measure_67 kl0 hf)
theorem jm_Way_measure {l0 : Int} {l1 : Int} {l2 : Int} {h : xH} {r0 : Int} {h0 : xH} (kl0 : xK l0 = 3 + 10) (kl1 : xK l1 = 3 + 4) (kl2 : xK l2 = 3 + 4) (hf : f_Way_measure l0 l1 l2 h = some (r0, h0)) : J mX10_measure true 0 0 0 xKn (xen 0 [xR l0, xR l1, xR l2]) [] h (xEq (some r0) h0) := by
  unfold f_Way_measure at hf
  refine J_cong (ls2 := [(0, xR l0), (1, xR l1), (2, xR l2)]) (st2 := []) rfl rfl ?_
  refine J_aload_n 1 dX10_measure_0 rfl rfl ?_
  refine J_getI (j := 1) xcf4 dX10_measure_1 (xK_rg kl1) kl1 (Or.inr ⟨_, xq247⟩) (by decide) (by decide) ?_
  obtain ⟨x1, ex1, hf⟩ := xlet_e hf
  refine J_istore_n (ls' := [(3, xI x1), (0, xR l0), (1, xR l1), (2, xR l2)]) dX10_measure_4 rfl (by decide) ex1 rfl ?_
  refine J_sub [1, 2, 3, 0] rfl ?_
  exact j_Way_measure_5 kl0 kl1 kl2 hf
theorem dX10_firstCode_0 : decode cX10_firstCode 0 = .ok (.iconst 0, 1) := by decide +kernel
theorem dX10_firstCode_1 : decode cX10_firstCode 1 = .ok (.istore 5, 2) := by decide +kernel
theorem dX10_firstCode_3 : decode cX10_firstCode 3 = .ok (.iconst 1, 1) := by decide +kernel
theorem dX10_firstCode_4 : decode cX10_firstCode 4 = .ok (.istore 6, 2) := by decide +kernel
theorem dX10_firstCode_6 : decode cX10_firstCode 6 = .ok (.iload 6, 2) := by decide +kernel
theorem dX10_firstCode_8 : decode cX10_firstCode 8 = .ok (.aload_n 0, 1) := by decide +kernel
theorem dX10_firstCode_9 : decode cX10_firstCode 9 = .ok (.getfield 27, 3) := by decide +kernel
theorem dX10_firstCode_12 : decode cX10_firstCode 12 = .ok (.invokevirtual 42, 3) := by decide +kernel
theorem dX10_firstCode_15 : decode cX10_firstCode 15 = .ok (.if_icmp .ge 38, 3) := by decide +kernel
theorem dX10_firstCode_18 : decode cX10_firstCode 18 = .ok (.aload_n 0, 1) := by decide +kernel
theorem dX10_firstCode_19 : decode cX10_firstCode 19 = .ok (.iload 6, 2) := by decide +kernel
theorem dX10_firstCode_21 : decode cX10_firstCode 21 = .ok (.aload_n 1, 1) := by decide +kernel
theorem dX10_firstCode_22 : decode cX10_firstCode 22 = .ok (.iload_n 2, 1) := by decide +kernel
theorem dX10_firstCode_23 : decode cX10_firstCode 23 = .ok (.aload_n 3, 1) := by decide +kernel
theorem dX10_firstCode_24 : decode cX10_firstCode 24 = .ok (.iload 4, 2) := by decide +kernel
theorem dX10_firstCode_26 : decode cX10_firstCode 26 = .ok (.invokevirtual 47, 3) := by decide +kernel
theorem dX10_firstCode_29 : decode cX10_firstCode 29 = .ok (.aload_n 0, 1) := by decide +kernel
theorem dX10_firstCode_30 : decode cX10_firstCode 30 = .ok (.iload 5, 2) := by decide +kernel
theorem dX10_firstCode_32 : decode cX10_firstCode 32 = .ok (.aload_n 1, 1) := by decide +kernel
theorem dX10_firstCode_33 : decode cX10_firstCode 33 = .ok (.iload_n 2, 1) := by decide +kernel
theorem dX10_firstCode_34 : decode cX10_firstCode 34 = .ok (.aload_n 3, 1) := by decide +kernel
theorem dX10_firstCode_35 : decode cX10_firstCode 35 = .ok (.iload 4, 2) := by decide +kernel
theorem dX10_firstCode_37 : decode cX10_firstCode 37 = .ok (.invokevirtual 47, 3) := by decide +kernel
theorem dX10_firstCode_40 : decode cX10_firstCode 40 = .ok (.if_icmp .ge 7, 3) := by decide +kernel
theorem dX10_firstCode_43 : decode cX10_firstCode 43 = .ok (.iload 6, 2) := by decide +kernel
theorem dX10_firstCode_45 : decode cX10_firstCode 45 = .ok (.istore 5, 2) := by decide +kernel
theorem dX10_firstCode_47 : decode cX10_firstCode 47 = .ok (.iinc 6 1, 3) := by decide +kernel
theorem dX10_firstCode_50 : decode cX10_firstCode 50 = .ok (.goto (-44), 3) := by decide +kernel
theorem dX10_firstCode_53 : decode cX10_firstCode 53 = .ok (.iload 5, 2) := by decide +kernel
theorem dX10_firstCode_55 : decode cX10_firstCode 55 = .ok (.ireturn, 1) := by decide +kernel
theorem j_Way_firstCode_53 {l5 : Int} {h : xH} {r0 : Int}  (hf : f_Way_firstCode_53 l5 h = some r0)  : J mX10_firstCode true 0 0 53 xKn [(5, xI l5)] [] h (xEq (some r0) h) := by
  unfold f_Way_firstCode_53 at hf
  refine J_iload 0 dX10_firstCode_53 rfl ?_
  exact J_ireti dX10_firstCode_55 rfl (xq_p hf)
theorem j_Way_firstCode_47 {l0 : Int} {l1 : Int} {l2 : Int} {l3 : Int} {l4 : Int} {l5 : Int} {l6 : Int} {h : xH} {x : ((Int × Int) ⊕ Int)} {Q : xQ} (kl0 : xK l0 = 3 + 10) (kl1 : xK l1 = 3 + 4) (kl3 : xK l3 = 3 + 4) (hf : f_Way_firstCode_47 l0 l1 l2 l3 l4 l5 l6 h = some x) (kb : ∀ (l5' : Int) (l6' : Int), x = Sum.inl (l5', l6') → J mX10_firstCode true 0 0 6 xKn [(0, xR l0), (1, xR l1), (2, xI l2), (3, xR l3), (4, xI l4), (5, xI l5'), (6, xI l6')] [] h Q) (ke : ∀ (l5' : Int), x = (Sum.inr l5') → J mX10_firstCode true 0 0 53 xKn [(5, xI l5')] [] h Q) : J mX10_firstCode true 0 0 47 xKn [(0, xR l0), (1, xR l1), (2, xI l2), (3, xR l3), (4, xI l4), (5, xI l5), (6, xI l6)] [] h Q := by
  unfold f_Way_firstCode_47 at hf
  obtain ⟨x1, ex1, hf⟩ := xlet_e hf
  refine J_iinc (ls' := [(6, xI x1), (0, xR l0), (1, xR l1), (2, xI l2), (3, xR l3), (4, xI l4), (5, xI l5)]) 6 dX10_firstCode_47 rfl (by decide) ex1 rfl ?_
  refine J_goto (tgt := 6) dX10_firstCode_50 (by decide) ?_
  refine J_sub [1, 2, 3, 4, 5, 6, 0] rfl ?_
  exact kb _ _ (xinl hf)
theorem j_Way_firstCode_s6 {l0 : Int} {l1 : Int} {l2 : Int} {l3 : Int} {l4 : Int} {l5 : Int} {l6 : Int} {h : xH} {x : ((Int × Int) ⊕ Int)} {Q : xQ} (kl0 : xK l0 = 3 + 10) (kl1 : xK l1 = 3 + 4) (kl3 : xK l3 = 3 + 4) (hf : f_Way_firstCode_s6 l0 l1 l2 l3 l4 l5 l6 h = some x) (kb : ∀ (l5' : Int) (l6' : Int), x = Sum.inl (l5', l6') → J mX10_firstCode true 0 0 6 xKn [(0, xR l0), (1, xR l1), (2, xI l2), (3, xR l3), (4, xI l4), (5, xI l5'), (6, xI l6')] [] h Q) (ke : ∀ (l5' : Int), x = (Sum.inr l5') → J mX10_firstCode true 0 0 53 xKn [(5, xI l5')] [] h Q) : J mX10_firstCode true 0 0 6 xKn [(0, xR l0), (1, xR l1), (2, xI l2), (3, xR l3), (4, xI l4), (5, xI l5), (6, xI l6)] [] h Q := by
  unfold f_Way_firstCode_s6 at hf
  refine J_iload 6 dX10_firstCode_6 rfl ?_
  refine J_aload_n 0 dX10_firstCode_8 rfl rfl ?_
  refine J_getRl (j := 0) xcf10 dX10_firstCode_9 kl0 (Or.inl xq264) (by decide) (by decide) (rfWay_0 kl0) ?_
  obtain ⟨r1, hq, hf⟩ := xc1_e hf
  refine J_cVi (Mc := mX6_codes) [] dX10_firstCode_12 (fc_Slips_codes.fit ⟨xbl rfl, xbl rfl⟩) rfl ⟨Or.inr ⟨_, xq655⟩, xq657, xq27⟩ kO9 (ci := 6) rfl rfl (xbl rfl) (xbl rfl) (jm_Slips_codes  hq) ?_
  refine J_ic_ge (tgt := 53) dX10_firstCode_15 (by decide) (fun hc => ?_) (fun hc => ?_)
  · have hf := xip hc hf
    refine J_aload_n 0 dX10_firstCode_18 rfl rfl ?_
    refine J_iload 6 dX10_firstCode_19 rfl ?_
    refine J_aload_n 1 dX10_firstCode_21 rfl rfl ?_
    refine J_iload_n 2 dX10_firstCode_22 rfl rfl ?_
    refine J_aload_n 3 dX10_firstCode_23 rfl rfl ?_
    refine J_iload 4 dX10_firstCode_24 rfl ?_
    obtain ⟨r2, hq, hf⟩ := xc1_e hf
    refine J_cVi (Mc := mX10_sumBy) [xI l6, xR l1, xI l2, xR l3, xI l4] dX10_firstCode_26 (fc_Way_sumBy.fit ⟨xbl rfl, xbl rfl⟩) rfl ⟨Or.inl xq659, xq661, xq28⟩ kl0 (ci := 10) rfl rfl (xbl rfl) (xbl rfl) (jm_Way_sumBy kl0 kl1 kl3 hq) ?_
    refine J_aload_n 0 dX10_firstCode_29 rfl rfl ?_
    refine J_iload 5 dX10_firstCode_30 rfl ?_
    refine J_aload_n 1 dX10_firstCode_32 rfl rfl ?_
    refine J_iload_n 2 dX10_firstCode_33 rfl rfl ?_
    refine J_aload_n 3 dX10_firstCode_34 rfl rfl ?_
    refine J_iload 4 dX10_firstCode_35 rfl ?_
    obtain ⟨r3, hq, hf⟩ := xc1_e hf
    refine J_cVi (Mc := mX10_sumBy) [xI l5, xR l1, xI l2, xR l3, xI l4] dX10_firstCode_37 (fc_Way_sumBy.fit ⟨xbl rfl, xbl rfl⟩) rfl ⟨Or.inl xq659, xq661, xq28⟩ kl0 (ci := 10) rfl rfl (xbl rfl) (xbl rfl) (jm_Way_sumBy kl0 kl1 kl3 hq) ?_
    refine J_ic_ge (tgt := 47) dX10_firstCode_40 (by decide) (fun hc => ?_) (fun hc => ?_)
    · have hf := xip hc hf
      refine J_iload 6 dX10_firstCode_43 rfl ?_
      refine J_istore (ls' := [(5, xI l6), (0, xR l0), (1, xR l1), (2, xI l2), (3, xR l3), (4, xI l4), (6, xI l6)]) dX10_firstCode_45 (by decide) rfl rfl ?_
      refine J_sub [1, 2, 3, 4, 5, 0, 6] rfl ?_
      exact j_Way_firstCode_47 kl0 kl1 kl3 hf kb ke
    · have hf := xin' hc hf
      exact j_Way_firstCode_47 kl0 kl1 kl3 hf kb ke
  · have hf := xin' hc hf
    refine J_sub [5] rfl ?_
    exact ke _ (xinl hf)
theorem j_Way_firstCode_6 {l0 : Int} {l1 : Int} {l2 : Int} {l3 : Int} {l4 : Int} {l5 : Int} {l6 : Int} {h : xH} {r0 : Int} (kl0 : xK l0 = 3 + 10) (kl1 : xK l1 = 3 + 4) (kl3 : xK l3 = 3 + 4) (hf : f_Way_firstCode_6 l0 l1 l2 l3 l4 l5 l6 h = some r0)  : J mX10_firstCode true 0 0 6 xKn [(0, xR l0), (1, xR l1), (2, xI l2), (3, xR l3), (4, xI l4), (5, xI l5), (6, xI l6)] [] h (xEq (some r0) h) := by
  unfold f_Way_firstCode_6 at hf
  obtain ⟨b0, hb0, hf⟩ := xc1_e hf
  refine xloop_ind (P := fun s : (Int × Int) => J mX10_firstCode true 0 0 6 xKn [(0, xR l0), (1, xR l1), (2, xI l2), (3, xR l3), (4, xI l4), (5, xI s.1), (6, xI s.2)] [] h (xEq (some r0) h)) hb0 (fun s x1 hs ib ie => ?_)
  exact j_Way_firstCode_s6 kl0 kl1 kl3 hs (fun _ _ e => ib _ e) (fun _ e => by have := ie _ e; subst this; exact j_Way_firstCode_53  hf)
theorem jm_Way_firstCode {l0 : Int} {l1 : Int} {l2 : Int} {l3 : Int} {l4 : Int} {h : xH} {r0 : Int} (kl0 : xK l0 = 3 + 10) (kl1 : xK l1 = 3 + 4) (kl3 : xK l3 = 3 + 4) (hf : f_Way_firstCode l0 l1 l2 l3 l4 h = some r0) : J mX10_firstCode true 0 0 0 xKn (xen 0 [xR l0, xR l1, xI l2, xR l3, xI l4]) [] h (xEq (some r0) h) := by
  unfold f_Way_firstCode at hf
  refine J_cong (ls2 := [(0, xR l0), (1, xR l1), (2, xI l2), (3, xR l3), (4, xI l4)]) (st2 := []) rfl rfl ?_
  refine J_iconst dX10_firstCode_0 (by decide) ?_
  refine J_istore (ls' := [(5, xI 0), (0, xR l0), (1, xR l1), (2, xI l2), (3, xR l3), (4, xI l4)]) dX10_firstCode_1 (by decide) rfl rfl ?_
  refine J_iconst dX10_firstCode_3 (by decide) ?_
  refine J_istore (ls' := [(6, xI 1), (5, xI 0), (0, xR l0), (1, xR l1), (2, xI l2), (3, xR l3), (4, xI l4)]) dX10_firstCode_4 (by decide) rfl rfl ?_
  refine J_sub [2, 3, 4, 5, 6, 1, 0] rfl ?_
  exact j_Way_firstCode_6 kl0 kl1 kl3 hf
theorem dX10_trace_0 : decode cX10_trace 0 = .ok (.aload_n 0, 1) := by decide +kernel
theorem dX10_trace_1 : decode cX10_trace 1 = .ok (.iconst 0, 1) := by decide +kernel
theorem dX10_trace_2 : decode cX10_trace 2 = .ok (.putfield 67, 3) := by decide +kernel
theorem dX10_trace_5 : decode cX10_trace 5 = .ok (.iconst 0, 1) := by decide +kernel
theorem dX10_trace_6 : decode cX10_trace 6 = .ok (.istore_n 3, 1) := by decide +kernel
theorem dX10_trace_7 : decode cX10_trace 7 = .ok (.iconst 0, 1) := by decide +kernel
theorem dX10_trace_8 : decode cX10_trace 8 = .ok (.istore 4, 2) := by decide +kernel
theorem dX10_trace_10 : decode cX10_trace 10 = .ok (.aload_n 0, 1) := by decide +kernel
theorem dX10_trace_11 : decode cX10_trace 11 = .ok (.getfield 67, 3) := by decide +kernel
theorem dX10_trace_14 : decode cX10_trace 14 = .ok (.bipush 24, 2) := by decide +kernel
theorem dX10_trace_16 : decode cX10_trace 16 = .ok (.if_icmp .ge 125, 3) := by decide +kernel
theorem dX10_trace_19 : decode cX10_trace 19 = .ok (.iload_n 3, 1) := by decide +kernel
theorem dX10_trace_20 : decode cX10_trace 20 = .ok (.aload_n 1, 1) := by decide +kernel
theorem dX10_trace_21 : decode cX10_trace 21 = .ok (.getfield 31, 3) := by decide +kernel
theorem dX10_trace_24 : decode cX10_trace 24 = .ok (.if_icmp .lt 12, 3) := by decide +kernel
theorem dX10_trace_27 : decode cX10_trace 27 = .ok (.iload 4, 2) := by decide +kernel
theorem dX10_trace_29 : decode cX10_trace 29 = .ok (.aload_n 2, 1) := by decide +kernel
theorem dX10_trace_30 : decode cX10_trace 30 = .ok (.getfield 31, 3) := by decide +kernel
theorem dX10_trace_33 : decode cX10_trace 33 = .ok (.if_icmp .ge 108, 3) := by decide +kernel
theorem dX10_trace_36 : decode cX10_trace 36 = .ok (.aload_n 0, 1) := by decide +kernel
theorem dX10_trace_37 : decode cX10_trace 37 = .ok (.aload_n 1, 1) := by decide +kernel
theorem dX10_trace_38 : decode cX10_trace 38 = .ok (.iload_n 3, 1) := by decide +kernel
theorem dX10_trace_39 : decode cX10_trace 39 = .ok (.aload_n 2, 1) := by decide +kernel
theorem dX10_trace_40 : decode cX10_trace 40 = .ok (.iload 4, 2) := by decide +kernel
theorem dX10_trace_42 : decode cX10_trace 42 = .ok (.invokevirtual 68, 3) := by decide +kernel
theorem dX10_trace_45 : decode cX10_trace 45 = .ok (.istore 5, 2) := by decide +kernel
theorem dX10_trace_47 : decode cX10_trace 47 = .ok (.aload_n 0, 1) := by decide +kernel
theorem dX10_trace_48 : decode cX10_trace 48 = .ok (.getfield 15, 3) := by decide +kernel
theorem dX10_trace_51 : decode cX10_trace 51 = .ok (.aload_n 0, 1) := by decide +kernel
theorem dX10_trace_52 : decode cX10_trace 52 = .ok (.getfield 67, 3) := by decide +kernel
theorem dX10_trace_55 : decode cX10_trace 55 = .ok (.iload 5, 2) := by decide +kernel
theorem dX10_trace_57 : decode cX10_trace 57 = .ok (.iastore, 1) := by decide +kernel
theorem dX10_trace_58 : decode cX10_trace 58 = .ok (.aload_n 0, 1) := by decide +kernel
theorem dX10_trace_59 : decode cX10_trace 59 = .ok (.getfield 18, 3) := by decide +kernel
theorem dX10_trace_62 : decode cX10_trace 62 = .ok (.aload_n 0, 1) := by decide +kernel
theorem dX10_trace_63 : decode cX10_trace 63 = .ok (.getfield 67, 3) := by decide +kernel
theorem dX10_trace_66 : decode cX10_trace 66 = .ok (.aload_n 0, 1) := by decide +kernel
theorem dX10_trace_67 : decode cX10_trace 67 = .ok (.getfield 27, 3) := by decide +kernel
theorem dX10_trace_70 : decode cX10_trace 70 = .ok (.iload 5, 2) := by decide +kernel
theorem dX10_trace_72 : decode cX10_trace 72 = .ok (.aload_n 1, 1) := by decide +kernel
theorem dX10_trace_73 : decode cX10_trace 73 = .ok (.iload_n 3, 1) := by decide +kernel
theorem dX10_trace_74 : decode cX10_trace 74 = .ok (.aload_n 2, 1) := by decide +kernel
theorem dX10_trace_75 : decode cX10_trace 75 = .ok (.iload 4, 2) := by decide +kernel
theorem dX10_trace_77 : decode cX10_trace 77 = .ok (.invokevirtual 57, 3) := by decide +kernel
theorem dX10_trace_80 : decode cX10_trace 80 = .ok (.iastore, 1) := by decide +kernel
theorem dX10_trace_81 : decode cX10_trace 81 = .ok (.aload_n 0, 1) := by decide +kernel
theorem dX10_trace_82 : decode cX10_trace 82 = .ok (.getfield 21, 3) := by decide +kernel
theorem dX10_trace_85 : decode cX10_trace 85 = .ok (.aload_n 0, 1) := by decide +kernel
theorem dX10_trace_86 : decode cX10_trace 86 = .ok (.getfield 67, 3) := by decide +kernel
theorem dX10_trace_89 : decode cX10_trace 89 = .ok (.iload_n 3, 1) := by decide +kernel
theorem dX10_trace_90 : decode cX10_trace 90 = .ok (.iastore, 1) := by decide +kernel
theorem dX10_trace_91 : decode cX10_trace 91 = .ok (.aload_n 0, 1) := by decide +kernel
theorem dX10_trace_92 : decode cX10_trace 92 = .ok (.getfield 24, 3) := by decide +kernel
theorem dX10_trace_95 : decode cX10_trace 95 = .ok (.aload_n 0, 1) := by decide +kernel
theorem dX10_trace_96 : decode cX10_trace 96 = .ok (.getfield 67, 3) := by decide +kernel
theorem dX10_trace_99 : decode cX10_trace 99 = .ok (.iload 4, 2) := by decide +kernel
theorem dX10_trace_101 : decode cX10_trace 101 = .ok (.iastore, 1) := by decide +kernel
theorem dX10_trace_102 : decode cX10_trace 102 = .ok (.aload_n 0, 1) := by decide +kernel
theorem dX10_trace_103 : decode cX10_trace 103 = .ok (.dup, 1) := by decide +kernel
theorem dX10_trace_104 : decode cX10_trace 104 = .ok (.getfield 67, 3) := by decide +kernel
theorem dX10_trace_107 : decode cX10_trace 107 = .ok (.iconst 1, 1) := by decide +kernel
theorem dX10_trace_108 : decode cX10_trace 108 = .ok (.iadd, 1) := by decide +kernel
theorem dX10_trace_109 : decode cX10_trace 109 = .ok (.putfield 67, 3) := by decide +kernel
theorem dX10_trace_112 : decode cX10_trace 112 = .ok (.iload_n 3, 1) := by decide +kernel
theorem dX10_trace_113 : decode cX10_trace 113 = .ok (.aload_n 0, 1) := by decide +kernel
theorem dX10_trace_114 : decode cX10_trace 114 = .ok (.getfield 27, 3) := by decide +kernel
theorem dX10_trace_117 : decode cX10_trace 117 = .ok (.iload 5, 2) := by decide +kernel
theorem dX10_trace_119 : decode cX10_trace 119 = .ok (.invokevirtual 60, 3) := by decide +kernel
theorem dX10_trace_122 : decode cX10_trace 122 = .ok (.iadd, 1) := by decide +kernel
theorem dX10_trace_123 : decode cX10_trace 123 = .ok (.istore_n 3, 1) := by decide +kernel
theorem dX10_trace_124 : decode cX10_trace 124 = .ok (.iload 4, 2) := by decide +kernel
theorem dX10_trace_126 : decode cX10_trace 126 = .ok (.aload_n 0, 1) := by decide +kernel
theorem dX10_trace_127 : decode cX10_trace 127 = .ok (.getfield 27, 3) := by decide +kernel
theorem dX10_trace_130 : decode cX10_trace 130 = .ok (.iload 5, 2) := by decide +kernel
theorem dX10_trace_132 : decode cX10_trace 132 = .ok (.invokevirtual 64, 3) := by decide +kernel
theorem dX10_trace_135 : decode cX10_trace 135 = .ok (.iadd, 1) := by decide +kernel
theorem dX10_trace_136 : decode cX10_trace 136 = .ok (.istore 4, 2) := by decide +kernel
theorem dX10_trace_138 : decode cX10_trace 138 = .ok (.goto (-128), 3) := by decide +kernel
theorem dX10_trace_141 : decode cX10_trace 141 = .ok (.return_, 1) := by decide +kernel
theorem j_Way_trace_141  {h : xH} {h0 : xH}  (hf : f_Way_trace_141 h = some h0)  : J mX10_trace true 0 0 141 xKn [] [] h (xEq none h0) := by
  unfold f_Way_trace_141 at hf
  exact J_rt dX10_trace_141 rfl (xq_v hf)
theorem j_Way_trace_36 {l0 : Int} {l1 : Int} {l2 : Int} {l3 : Int} {l4 : Int} {h : xH} {x : ((Int × Int × xH) ⊕ xH)} {Q : xQ} (kl0 : xK l0 = 3 + 10) (kl1 : xK l1 = 3 + 4) (kl2 : xK l2 = 3 + 4) (hf : f_Way_trace_36 l0 l1 l2 l3 l4 h = some x) (kb : ∀ (l3' : Int) (l4' : Int) (h' : xH), x = Sum.inl (l3', l4', h') → J mX10_trace true 0 0 10 xKn [(0, xR l0), (1, xR l1), (2, xR l2), (3, xI l3'), (4, xI l4')] [] h' Q) (ke : ∀  (h' : xH), x = (Sum.inr h') → J mX10_trace true 0 0 141 xKn [] [] h' Q) : J mX10_trace true 0 0 36 xKn [(0, xR l0), (1, xR l1), (2, xR l2), (3, xI l3), (4, xI l4)] [] h Q := by
  unfold f_Way_trace_36 at hf
  refine J_aload_n 0 dX10_trace_36 rfl rfl ?_
  refine J_aload_n 1 dX10_trace_37 rfl rfl ?_
  refine J_iload_n 3 dX10_trace_38 rfl rfl ?_
  refine J_aload_n 2 dX10_trace_39 rfl rfl ?_
  refine J_iload 4 dX10_trace_40 rfl ?_
  obtain ⟨r1, hq, hf⟩ := xc1_e hf
  refine J_cVi (Mc := mX10_firstCode) [xR l1, xI l3, xR l2, xI l4] dX10_trace_42 (fc_Way_firstCode.fit ⟨xbl rfl, xbl rfl⟩) rfl ⟨Or.inl xq697, xq699, xq35⟩ kl0 (ci := 10) rfl rfl (xbl rfl) (xbl rfl) (jm_Way_firstCode kl0 kl1 kl2 hq) ?_
  refine J_istore (ls' := [(5, xI r1), (0, xR l0), (1, xR l1), (2, xR l2), (3, xI l3), (4, xI l4)]) dX10_trace_45 (by decide) rfl rfl ?_
  refine J_aload_n 1 dX10_trace_47 rfl rfl ?_
  refine J_getRl (j := 2) xcf10 dX10_trace_48 kl0 (Or.inl xq266) (by decide) (by decide) (rfWay_2 kl0) ?_
  refine J_aload_n 1 dX10_trace_51 rfl rfl ?_
  refine J_getI (j := 6) xcf10 dX10_trace_52 (xK_rg kl0) kl0 (Or.inl xq270) (by decide) (by decide) ?_
  refine J_iload 0 dX10_trace_55 rfl ?_
  obtain ⟨hg, hf⟩ := xgd_e hf
  obtain ⟨h2, eh2, hf⟩ := xlet_e hf
  refine J_iast dX10_trace_57 (xK_r1 (kWay_2 kl0)) (kWay_2 kl0) hg (nWay_2 kl0) eh2 ?_
  refine J_aload_n 1 dX10_trace_58 rfl rfl ?_
  refine J_getRl (j := 3) xcf10 dX10_trace_59 kl0 (Or.inl xq267) (by decide) (by decide) (rfWay_3 kl0) ?_
  refine J_aload_n 1 dX10_trace_62 rfl rfl ?_
  refine J_getI (j := 6) xcf10 dX10_trace_63 (xK_rg kl0) kl0 (Or.inl xq270) (by decide) (by decide) ?_
  refine J_aload_n 1 dX10_trace_66 rfl rfl ?_
  refine J_getRl (j := 0) xcf10 dX10_trace_67 kl0 (Or.inl xq264) (by decide) (by decide) (rfWay_0 kl0) ?_
  refine J_iload 0 dX10_trace_70 rfl ?_
  refine J_aload_n 2 dX10_trace_72 rfl rfl ?_
  refine J_iload_n 4 dX10_trace_73 rfl rfl ?_
  refine J_aload_n 3 dX10_trace_74 rfl rfl ?_
  refine J_iload 5 dX10_trace_75 rfl ?_
  obtain ⟨r3, hq, hf⟩ := xc1_e hf
  refine J_cVi (Mc := mX6_priceAt) [xI r1, xR l1, xI l3, xR l2, xI l4] dX10_trace_77 (fc_Slips_priceAt.fit ⟨xbl rfl, xbl rfl⟩) rfl ⟨Or.inr ⟨_, xq663⟩, xq665, xq29⟩ kO9 (ci := 6) rfl rfl (xbl rfl) (xbl rfl) (jm_Slips_priceAt kl1 kl2 hq) ?_
  obtain ⟨hg, hf⟩ := xgd_e hf
  obtain ⟨h4, eh4, hf⟩ := xlet_e hf
  refine J_iast dX10_trace_80 (xK_r1 (kWay_3 kl0)) (kWay_3 kl0) hg (nWay_3 kl0) eh4 ?_
  refine J_aload_n 1 dX10_trace_81 rfl rfl ?_
  refine J_getRl (j := 4) xcf10 dX10_trace_82 kl0 (Or.inl xq268) (by decide) (by decide) (rfWay_4 kl0) ?_
  refine J_aload_n 1 dX10_trace_85 rfl rfl ?_
  refine J_getI (j := 6) xcf10 dX10_trace_86 (xK_rg kl0) kl0 (Or.inl xq270) (by decide) (by decide) ?_
  refine J_iload_n 4 dX10_trace_89 rfl rfl ?_
  obtain ⟨hg, hf⟩ := xgd_e hf
  obtain ⟨h5, eh5, hf⟩ := xlet_e hf
  refine J_iast dX10_trace_90 (xK_r1 (kWay_4 kl0)) (kWay_4 kl0) hg (nWay_4 kl0) eh5 ?_
  refine J_aload_n 1 dX10_trace_91 rfl rfl ?_
  refine J_getRl (j := 5) xcf10 dX10_trace_92 kl0 (Or.inl xq269) (by decide) (by decide) (rfWay_5 kl0) ?_
  refine J_aload_n 1 dX10_trace_95 rfl rfl ?_
  refine J_getI (j := 6) xcf10 dX10_trace_96 (xK_rg kl0) kl0 (Or.inl xq270) (by decide) (by decide) ?_
  refine J_iload 5 dX10_trace_99 rfl ?_
  obtain ⟨hg, hf⟩ := xgd_e hf
  obtain ⟨h6, eh6, hf⟩ := xlet_e hf
  refine J_iast dX10_trace_101 (xK_r1 (kWay_5 kl0)) (kWay_5 kl0) hg (nWay_5 kl0) eh6 ?_
  refine J_aload_n 1 dX10_trace_102 rfl rfl ?_
  refine J_dup dX10_trace_103 rfl ?_
  refine J_getI (j := 6) xcf10 dX10_trace_104 (xK_rg kl0) kl0 (Or.inl xq270) (by decide) (by decide) ?_
  refine J_iconst dX10_trace_107 (by decide) ?_
  refine J_iadd dX10_trace_108 ?_
  obtain ⟨h7, eh7, hf⟩ := xlet_e hf
  refine J_putI (j := 6) xcf10 dX10_trace_109 (xK_rg kl0) kl0 (Or.inl xq270) (by decide) (by decide) eh7 ?_
  refine J_iload_n 4 dX10_trace_112 rfl rfl ?_
  refine J_aload_n 1 dX10_trace_113 rfl rfl ?_
  refine J_getRl (j := 0) xcf10 dX10_trace_114 kl0 (Or.inl xq264) (by decide) (by decide) (rfWay_0 kl0) ?_
  refine J_iload 0 dX10_trace_117 rfl ?_
  obtain ⟨r8, hq, hf⟩ := xc1_e hf
  refine J_cVi (Mc := mX6_meantTaken) [xI r1] dX10_trace_119 (fc_Slips_meantTaken.fit ⟨xbl rfl, xbl rfl⟩) rfl ⟨Or.inr ⟨_, xq679⟩, xq681, xq32⟩ kO9 (ci := 6) rfl rfl (xbl rfl) (xbl rfl) (jm_Slips_meantTaken  hq) ?_
  refine J_iadd dX10_trace_122 ?_
  obtain ⟨x9, ex9, hf⟩ := xlet_e hf
  refine J_istore_n (ls' := [(3, xI x9), (5, xI r1), (0, xR l0), (1, xR l1), (2, xR l2), (4, xI l4)]) dX10_trace_123 rfl (by decide) ex9 rfl ?_
  refine J_iload 5 dX10_trace_124 rfl ?_
  refine J_aload_n 2 dX10_trace_126 rfl rfl ?_
  refine J_getRl (j := 0) xcf10 dX10_trace_127 kl0 (Or.inl xq264) (by decide) (by decide) (rfWay_0 kl0) ?_
  refine J_iload 1 dX10_trace_130 rfl ?_
  obtain ⟨r10, hq, hf⟩ := xc1_e hf
  refine J_cVi (Mc := mX6_typedTaken) [xI r1] dX10_trace_132 (fc_Slips_typedTaken.fit ⟨xbl rfl, xbl rfl⟩) rfl ⟨Or.inr ⟨_, xq686⟩, xq688, xq33⟩ kO9 (ci := 6) rfl rfl (xbl rfl) (xbl rfl) (jm_Slips_typedTaken  hq) ?_
  refine J_iadd dX10_trace_135 ?_
  obtain ⟨x11, ex11, hf⟩ := xlet_e hf
  refine J_istore (ls' := [(4, xI x11), (3, xI x9), (5, xI r1), (0, xR l0), (1, xR l1), (2, xR l2)]) dX10_trace_136 (by decide) ex11 rfl ?_
  refine J_goto (tgt := 10) dX10_trace_138 (by decide) ?_
  refine J_sub [3, 4, 5, 1, 0] rfl ?_
  exact kb _ _ _ (xinl hf)
theorem j_Way_trace_s10 {l0 : Int} {l1 : Int} {l2 : Int} {l3 : Int} {l4 : Int} {h : xH} {x : ((Int × Int × xH) ⊕ xH)} {Q : xQ} (kl0 : xK l0 = 3 + 10) (kl1 : xK l1 = 3 + 4) (kl2 : xK l2 = 3 + 4) (hf : f_Way_trace_s10 l0 l1 l2 l3 l4 h = some x) (kb : ∀ (l3' : Int) (l4' : Int) (h' : xH), x = Sum.inl (l3', l4', h') → J mX10_trace true 0 0 10 xKn [(0, xR l0), (1, xR l1), (2, xR l2), (3, xI l3'), (4, xI l4')] [] h' Q) (ke : ∀  (h' : xH), x = (Sum.inr h') → J mX10_trace true 0 0 141 xKn [] [] h' Q) : J mX10_trace true 0 0 10 xKn [(0, xR l0), (1, xR l1), (2, xR l2), (3, xI l3), (4, xI l4)] [] h Q := by
  unfold f_Way_trace_s10 at hf
  refine J_aload_n 0 dX10_trace_10 rfl rfl ?_
  refine J_getI (j := 6) xcf10 dX10_trace_11 (xK_rg kl0) kl0 (Or.inl xq270) (by decide) (by decide) ?_
  refine J_bip dX10_trace_14 (by decide) ?_
  refine J_ic_ge (tgt := 141) dX10_trace_16 (by decide) (fun hc => ?_) (fun hc => ?_)
  · have hf := xip hc hf
    refine J_iload_n 3 dX10_trace_19 rfl rfl ?_
    refine J_aload_n 1 dX10_trace_20 rfl rfl ?_
    refine J_getI (j := 1) xcf4 dX10_trace_21 (xK_rg kl1) kl1 (Or.inr ⟨_, xq247⟩) (by decide) (by decide) ?_
    refine J_ic_lt (tgt := 36) dX10_trace_24 (by decide) (fun hc => ?_) (fun hc => ?_)
    · have hf := xip hc hf
      exact j_Way_trace_36 kl0 kl1 kl2 hf kb ke
    · have hf := xin' hc hf
      refine J_iload 4 dX10_trace_27 rfl ?_
      refine J_aload_n 2 dX10_trace_29 rfl rfl ?_
      refine J_getI (j := 1) xcf4 dX10_trace_30 (xK_rg kl2) kl2 (Or.inr ⟨_, xq247⟩) (by decide) (by decide) ?_
      refine J_ic_ge (tgt := 141) dX10_trace_33 (by decide) (fun hc => ?_) (fun hc => ?_)
      · have hf := xip hc hf
        exact j_Way_trace_36 kl0 kl1 kl2 hf kb ke
      · have hf := xin' hc hf
        refine J_sub [] rfl ?_
        exact ke _ (xinl hf)
  · have hf := xin' hc hf
    refine J_sub [] rfl ?_
    exact ke _ (xinl hf)
theorem j_Way_trace_10 {l0 : Int} {l1 : Int} {l2 : Int} {l3 : Int} {l4 : Int} {h : xH} {h0 : xH} (kl0 : xK l0 = 3 + 10) (kl1 : xK l1 = 3 + 4) (kl2 : xK l2 = 3 + 4) (hf : f_Way_trace_10 l0 l1 l2 l3 l4 h = some h0)  : J mX10_trace true 0 0 10 xKn [(0, xR l0), (1, xR l1), (2, xR l2), (3, xI l3), (4, xI l4)] [] h (xEq none h0) := by
  unfold f_Way_trace_10 at hf
  obtain ⟨b0, hb0, hf⟩ := xc1_e hf
  refine xloop_ind (P := fun s : (Int × Int × xH) => J mX10_trace true 0 0 10 xKn [(0, xR l0), (1, xR l1), (2, xR l2), (3, xI s.1), (4, xI s.2.1)] [] s.2.2 (xEq none h0)) hb0 (fun s x1 hs ib ie => ?_)
  exact j_Way_trace_s10 kl0 kl1 kl2 hs (fun _ _ _ e => ib _ e) (fun _ e => by have := ie _ e; subst this; exact j_Way_trace_141  hf)
theorem jm_Way_trace {l0 : Int} {l1 : Int} {l2 : Int} {h : xH} {h0 : xH} (kl0 : xK l0 = 3 + 10) (kl1 : xK l1 = 3 + 4) (kl2 : xK l2 = 3 + 4) (hf : f_Way_trace l0 l1 l2 h = some h0) : J mX10_trace true 0 0 0 xKn (xen 0 [xR l0, xR l1, xR l2]) [] h (xEq none h0) := by
  unfold f_Way_trace at hf
  refine J_cong (ls2 := [(0, xR l0), (1, xR l1), (2, xR l2)]) (st2 := []) rfl rfl ?_
  refine J_aload_n 0 dX10_trace_0 rfl rfl ?_
  refine J_iconst dX10_trace_1 (by decide) ?_
  obtain ⟨h1, eh1, hf⟩ := xlet_e hf
  refine J_putI (j := 6) xcf10 dX10_trace_2 (xK_rg kl0) kl0 (Or.inl xq270) (by decide) (by decide) eh1 ?_
  refine J_iconst dX10_trace_5 (by decide) ?_
  refine J_istore_n (ls' := [(3, xI 0), (0, xR l0), (1, xR l1), (2, xR l2)]) dX10_trace_6 rfl (by decide) rfl rfl ?_
  refine J_iconst dX10_trace_7 (by decide) ?_
  refine J_istore (ls' := [(4, xI 0), (3, xI 0), (0, xR l0), (1, xR l1), (2, xR l2)]) dX10_trace_8 (by decide) rfl rfl ?_
  refine J_sub [2, 3, 4, 1, 0] rfl ?_
  exact j_Way_trace_10 kl0 kl1 kl2 hf
theorem dX11_distance_0 : decode cX11_distance 0 = .ok (.aload_n 0, 1) := by decide +kernel
theorem dX11_distance_1 : decode cX11_distance 1 = .ok (.getfield 12, 3) := by decide +kernel
theorem dX11_distance_4 : decode cX11_distance 4 = .ok (.bipush 12, 2) := by decide +kernel
theorem dX11_distance_6 : decode cX11_distance 6 = .ok (.aload_n 0, 1) := by decide +kernel
theorem dX11_distance_7 : decode cX11_distance 7 = .ok (.getfield 33, 3) := by decide +kernel
theorem dX11_distance_10 : decode cX11_distance 10 = .ok (.aload_n 0, 1) := by decide +kernel
theorem dX11_distance_11 : decode cX11_distance 11 = .ok (.getfield 37, 3) := by decide +kernel
theorem dX11_distance_14 : decode cX11_distance 14 = .ok (.invokevirtual 173, 3) := by decide +kernel
theorem dX11_distance_17 : decode cX11_distance 17 = .ok (.ifCond .ne 6, 3) := by decide +kernel
theorem dX11_distance_20 : decode cX11_distance 20 = .ok (.bipush (-2), 2) := by decide +kernel
theorem dX11_distance_22 : decode cX11_distance 22 = .ok (.ireturn, 1) := by decide +kernel
theorem dX11_distance_23 : decode cX11_distance 23 = .ok (.aload_n 0, 1) := by decide +kernel
theorem dX11_distance_24 : decode cX11_distance 24 = .ok (.getfield 54, 3) := by decide +kernel
theorem dX11_distance_27 : decode cX11_distance 27 = .ok (.aload_n 0, 1) := by decide +kernel
theorem dX11_distance_28 : decode cX11_distance 28 = .ok (.getfield 33, 3) := by decide +kernel
theorem dX11_distance_31 : decode cX11_distance 31 = .ok (.aload_n 0, 1) := by decide +kernel
theorem dX11_distance_32 : decode cX11_distance 32 = .ok (.getfield 37, 3) := by decide +kernel
theorem dX11_distance_35 : decode cX11_distance 35 = .ok (.invokevirtual 184, 3) := by decide +kernel
theorem dX11_distance_38 : decode cX11_distance 38 = .ok (.istore_n 1, 1) := by decide +kernel
theorem dX11_distance_39 : decode cX11_distance 39 = .ok (.aload_n 0, 1) := by decide +kernel
theorem dX11_distance_40 : decode cX11_distance 40 = .ok (.getfield 54, 3) := by decide +kernel
theorem dX11_distance_43 : decode cX11_distance 43 = .ok (.aload_n 0, 1) := by decide +kernel
theorem dX11_distance_44 : decode cX11_distance 44 = .ok (.getfield 33, 3) := by decide +kernel
theorem dX11_distance_47 : decode cX11_distance 47 = .ok (.aload_n 0, 1) := by decide +kernel
theorem dX11_distance_48 : decode cX11_distance 48 = .ok (.getfield 37, 3) := by decide +kernel
theorem dX11_distance_51 : decode cX11_distance 51 = .ok (.invokevirtual 188, 3) := by decide +kernel
theorem dX11_distance_54 : decode cX11_distance 54 = .ok (.iload_n 1, 1) := by decide +kernel
theorem dX11_distance_55 : decode cX11_distance 55 = .ok (.ireturn, 1) := by decide +kernel
theorem jm_WM_distance  {h : xH} {r0 : Int} {h0 : xH}  (hf : f_WM_distance h = some (r0, h0)) : J mX11_distance true 0 0 0 xKn (xen 0 [xR 1]) [] h (xEq (some r0) h0) := by
  unfold f_WM_distance at hf
  refine J_cong (ls2 := [(0, xR 1)]) (st2 := []) rfl rfl ?_
  refine J_aload_n 0 dX11_distance_0 rfl rfl ?_
  refine J_getRl (j := 0) xcf11 dX11_distance_1 kO1 (Or.inl xq435) (by decide) (by decide) rf_1_0 ?_
  refine J_bip dX11_distance_4 (by decide) ?_
  refine J_aload_n 0 dX11_distance_6 rfl rfl ?_
  refine J_getRl (j := 3) xcf11 dX11_distance_7 kO1 (Or.inl xq438) (by decide) (by decide) rf_1_3 ?_
  refine J_aload_n 0 dX11_distance_10 rfl rfl ?_
  refine J_getRl (j := 4) xcf11 dX11_distance_11 kO1 (Or.inl xq439) (by decide) (by decide) rf_1_4 ?_
  obtain ⟨r1, h2, hq, hf⟩ := xc2_e hf
  refine J_cVi (Mc := mX7_takeTwo) [xI 12, xR 21, xR 23] dX11_distance_14 (fc_Tape_takeTwo.fit ⟨xbl rfl, xbl rfl⟩) rfl ⟨Or.inr ⟨_, xq620⟩, xq622, xq21⟩ kO2 (ci := 7) rfl rfl (xbl rfl) (xbl rfl) (jm_Tape_takeTwo kO21 kO23 hq) ?_
  refine J_if_ne (tgt := 23) dX11_distance_17 (by decide) (fun hc => ?_) (fun hc => ?_)
  · have hf := xip hc hf
    refine J_bip dX11_distance_20 (by decide) ?_
    exact J_ireti dX11_distance_22 rfl (xq_i hf)
  · have hf := xin' hc hf
    refine J_aload_n 0 dX11_distance_23 rfl rfl ?_
    refine J_getRl (j := 6) xcf11 dX11_distance_24 kO1 (Or.inl xq441) (by decide) (by decide) rf_1_6 ?_
    refine J_aload_n 0 dX11_distance_27 rfl rfl ?_
    refine J_getRl (j := 3) xcf11 dX11_distance_28 kO1 (Or.inl xq438) (by decide) (by decide) rf_1_3 ?_
    refine J_aload_n 0 dX11_distance_31 rfl rfl ?_
    refine J_getRl (j := 4) xcf11 dX11_distance_32 kO1 (Or.inl xq439) (by decide) (by decide) rf_1_4 ?_
    obtain ⟨r3, h4, hq, hf⟩ := xc2_e hf
    refine J_cVi (Mc := mX10_measure) [xR 21, xR 23] dX11_distance_35 (fc_Way_measure.fit ⟨xbl rfl, xbl rfl⟩) rfl ⟨Or.inr ⟨_, xq646⟩, xq648, xq25⟩ kO28 (ci := 10) rfl rfl (xbl rfl) (xbl rfl) (jm_Way_measure kO28 kO21 kO23 hq) ?_
    refine J_istore_n (ls' := [(1, xI r3), (0, xR 1)]) dX11_distance_38 rfl (by decide) rfl rfl ?_
    refine J_aload_n 1 dX11_distance_39 rfl rfl ?_
    refine J_getRl (j := 6) xcf11 dX11_distance_40 kO1 (Or.inl xq441) (by decide) (by decide) rf_1_6 ?_
    refine J_aload_n 1 dX11_distance_43 rfl rfl ?_
    refine J_getRl (j := 3) xcf11 dX11_distance_44 kO1 (Or.inl xq438) (by decide) (by decide) rf_1_3 ?_
    refine J_aload_n 1 dX11_distance_47 rfl rfl ?_
    refine J_getRl (j := 4) xcf11 dX11_distance_48 kO1 (Or.inl xq439) (by decide) (by decide) rf_1_4 ?_
    obtain ⟨h5, hq, hf⟩ := xc1_e hf
    refine J_cVv (Mc := mX10_trace) [xR 21, xR 23] dX11_distance_51 (fc_Way_trace.fit ⟨xbl rfl, xbl rfl⟩) rfl ⟨Or.inr ⟨_, xq693⟩, xq695, xq34⟩ kO28 (ci := 10) rfl rfl (xbl rfl) (xbl rfl) (jm_Way_trace kO28 kO21 kO23 hq) ?_
    refine J_iload_n 0 dX11_distance_54 rfl rfl ?_
    exact J_ireti dX11_distance_55 rfl (xq_i hf)
theorem dX10_codeAt_0 : decode cX10_codeAt 0 = .ok (.iload_n 1, 1) := by decide +kernel
theorem dX10_codeAt_1 : decode cX10_codeAt 1 = .ok (.ifCond .lt 29, 3) := by decide +kernel
theorem dX10_codeAt_4 : decode cX10_codeAt 4 = .ok (.iload_n 1, 1) := by decide +kernel
theorem dX10_codeAt_5 : decode cX10_codeAt 5 = .ok (.aload_n 0, 1) := by decide +kernel
theorem dX10_codeAt_6 : decode cX10_codeAt 6 = .ok (.getfield 67, 3) := by decide +kernel
theorem dX10_codeAt_9 : decode cX10_codeAt 9 = .ok (.if_icmp .ge 21, 3) := by decide +kernel
theorem dX10_codeAt_12 : decode cX10_codeAt 12 = .ok (.iload_n 1, 1) := by decide +kernel
theorem dX10_codeAt_13 : decode cX10_codeAt 13 = .ok (.aload_n 0, 1) := by decide +kernel
theorem dX10_codeAt_14 : decode cX10_codeAt 14 = .ok (.getfield 15, 3) := by decide +kernel
theorem dX10_codeAt_17 : decode cX10_codeAt 17 = .ok (.arraylength, 1) := by decide +kernel
theorem dX10_codeAt_18 : decode cX10_codeAt 18 = .ok (.if_icmp .ge 12, 3) := by decide +kernel
theorem dX10_codeAt_21 : decode cX10_codeAt 21 = .ok (.aload_n 0, 1) := by decide +kernel
theorem dX10_codeAt_22 : decode cX10_codeAt 22 = .ok (.getfield 15, 3) := by decide +kernel
theorem dX10_codeAt_25 : decode cX10_codeAt 25 = .ok (.iload_n 1, 1) := by decide +kernel
theorem dX10_codeAt_26 : decode cX10_codeAt 26 = .ok (.iaload, 1) := by decide +kernel
theorem dX10_codeAt_27 : decode cX10_codeAt 27 = .ok (.goto 4, 3) := by decide +kernel
theorem dX10_codeAt_30 : decode cX10_codeAt 30 = .ok (.iconst (-1), 1) := by decide +kernel
theorem dX10_codeAt_31 : decode cX10_codeAt 31 = .ok (.ireturn, 1) := by decide +kernel
theorem jm_Way_codeAt {l0 : Int} {l1 : Int} {h : xH} {r0 : Int} (kl0 : xK l0 = 3 + 10) (hf : f_Way_codeAt l0 l1 h = some r0) : J mX10_codeAt true 0 0 0 xKn (xen 0 [xR l0, xI l1]) [] h (xEq (some r0) h) := by
  unfold f_Way_codeAt at hf
  refine J_cong (ls2 := [(0, xR l0), (1, xI l1)]) (st2 := []) rfl rfl ?_
  refine J_iload_n 1 dX10_codeAt_0 rfl rfl ?_
  refine J_if_lt (tgt := 30) dX10_codeAt_1 (by decide) (fun hc => ?_) (fun hc => ?_)
  · have hf := xip hc hf
    refine J_iconst dX10_codeAt_30 (by decide) ?_
    exact J_ireti dX10_codeAt_31 rfl (xq_p hf)
  · have hf := xin' hc hf
    refine J_iload_n 1 dX10_codeAt_4 rfl rfl ?_
    refine J_aload_n 0 dX10_codeAt_5 rfl rfl ?_
    refine J_getI (j := 6) xcf10 dX10_codeAt_6 (xK_rg kl0) kl0 (Or.inl xq270) (by decide) (by decide) ?_
    refine J_ic_ge (tgt := 30) dX10_codeAt_9 (by decide) (fun hc => ?_) (fun hc => ?_)
    · have hf := xip hc hf
      refine J_iload_n 1 dX10_codeAt_12 rfl rfl ?_
      refine J_aload_n 0 dX10_codeAt_13 rfl rfl ?_
      refine J_getRl (j := 2) xcf10 dX10_codeAt_14 kl0 (Or.inl xq266) (by decide) (by decide) (rfWay_2 kl0) ?_
      refine J_alen dX10_codeAt_17 (xK_r1 (kWay_2 kl0)) (Or.inl (kWay_2 kl0)) (by decide) (nWay_2 kl0) ?_
      refine J_ic_ge (tgt := 30) dX10_codeAt_18 (by decide) (fun hc => ?_) (fun hc => ?_)
      · have hf := xip hc hf
        refine J_aload_n 0 dX10_codeAt_21 rfl rfl ?_
        refine J_getRl (j := 2) xcf10 dX10_codeAt_22 kl0 (Or.inl xq266) (by decide) (by decide) (rfWay_2 kl0) ?_
        refine J_iload_n 1 dX10_codeAt_25 rfl rfl ?_
        obtain ⟨hg, hf⟩ := xgd_e hf
        refine J_iald dX10_codeAt_26 (xK_r1 (kWay_2 kl0)) (kWay_2 kl0) hg (nWay_2 kl0) ?_
        refine J_goto (tgt := 31) dX10_codeAt_27 (by decide) ?_
        exact J_ireti dX10_codeAt_31 rfl (xq_p hf)
      · have hf := xin' hc hf
        refine J_iconst dX10_codeAt_30 (by decide) ?_
        exact J_ireti dX10_codeAt_31 rfl (xq_p hf)
    · have hf := xin' hc hf
      refine J_iconst dX10_codeAt_30 (by decide) ?_
      exact J_ireti dX10_codeAt_31 rfl (xq_p hf)
theorem dX10_tell_0 : decode cX10_tell 0 = .ok (.aload_n 0, 1) := by decide +kernel
theorem dX10_tell_1 : decode cX10_tell 1 = .ok (.iload_n 1, 1) := by decide +kernel
theorem dX10_tell_2 : decode cX10_tell 2 = .ok (.invokevirtual 71, 3) := by decide +kernel
theorem dX10_tell_5 : decode cX10_tell 5 = .ok (.istore_n 3, 1) := by decide +kernel
theorem dX10_tell_6 : decode cX10_tell 6 = .ok (.iload_n 3, 1) := by decide +kernel
theorem dX10_tell_7 : decode cX10_tell 7 = .ok (.iconst (-1), 1) := by decide +kernel
theorem dX10_tell_8 : decode cX10_tell 8 = .ok (.if_icmp .ne 5, 3) := by decide +kernel
theorem dX10_tell_11 : decode cX10_tell 11 = .ok (.iconst (-1), 1) := by decide +kernel
theorem dX10_tell_12 : decode cX10_tell 12 = .ok (.ireturn, 1) := by decide +kernel
theorem dX10_tell_13 : decode cX10_tell 13 = .ok (.iload_n 2, 1) := by decide +kernel
theorem dX10_tell_14 : decode cX10_tell 14 = .ok (.tableswitch 58 0 3 #[30, 37, 44, 51], 30) := by decide +kernel
theorem dX10_tell_44 : decode cX10_tell 44 = .ok (.iload_n 3, 1) := by decide +kernel
theorem dX10_tell_45 : decode cX10_tell 45 = .ok (.bipush 7, 2) := by decide +kernel
theorem dX10_tell_47 : decode cX10_tell 47 = .ok (.invokestatic 51, 3) := by decide +kernel
theorem dX10_tell_50 : decode cX10_tell 50 = .ok (.ireturn, 1) := by decide +kernel
theorem dX10_tell_51 : decode cX10_tell 51 = .ok (.aload_n 0, 1) := by decide +kernel
theorem dX10_tell_52 : decode cX10_tell 52 = .ok (.getfield 18, 3) := by decide +kernel
theorem dX10_tell_55 : decode cX10_tell 55 = .ok (.iload_n 1, 1) := by decide +kernel
theorem dX10_tell_56 : decode cX10_tell 56 = .ok (.iaload, 1) := by decide +kernel
theorem dX10_tell_57 : decode cX10_tell 57 = .ok (.ireturn, 1) := by decide +kernel
theorem dX10_tell_58 : decode cX10_tell 58 = .ok (.aload_n 0, 1) := by decide +kernel
theorem dX10_tell_59 : decode cX10_tell 59 = .ok (.getfield 21, 3) := by decide +kernel
theorem dX10_tell_62 : decode cX10_tell 62 = .ok (.iload_n 1, 1) := by decide +kernel
theorem dX10_tell_63 : decode cX10_tell 63 = .ok (.iaload, 1) := by decide +kernel
theorem dX10_tell_64 : decode cX10_tell 64 = .ok (.ireturn, 1) := by decide +kernel
theorem dX10_tell_65 : decode cX10_tell 65 = .ok (.aload_n 0, 1) := by decide +kernel
theorem dX10_tell_66 : decode cX10_tell 66 = .ok (.getfield 24, 3) := by decide +kernel
theorem dX10_tell_69 : decode cX10_tell 69 = .ok (.iload_n 1, 1) := by decide +kernel
theorem dX10_tell_70 : decode cX10_tell 70 = .ok (.iaload, 1) := by decide +kernel
theorem dX10_tell_71 : decode cX10_tell 71 = .ok (.ireturn, 1) := by decide +kernel
theorem dX10_tell_72 : decode cX10_tell 72 = .ok (.iload_n 3, 1) := by decide +kernel
theorem dX10_tell_73 : decode cX10_tell 73 = .ok (.bipush 7, 2) := by decide +kernel
theorem dX10_tell_75 : decode cX10_tell 75 = .ok (.if_icmp .ge 7, 3) := by decide +kernel
theorem dX10_tell_78 : decode cX10_tell 78 = .ok (.iconst (-1), 1) := by decide +kernel
theorem dX10_tell_79 : decode cX10_tell 79 = .ok (.goto 7, 3) := by decide +kernel
theorem dX10_tell_82 : decode cX10_tell 82 = .ok (.iload_n 3, 1) := by decide +kernel
theorem dX10_tell_83 : decode cX10_tell 83 = .ok (.bipush 7, 2) := by decide +kernel
theorem dX10_tell_85 : decode cX10_tell 85 = .ok (.isub, 1) := by decide +kernel
theorem dX10_tell_86 : decode cX10_tell 86 = .ok (.ireturn, 1) := by decide +kernel
theorem jm_Way_tell {l0 : Int} {l1 : Int} {l2 : Int} {h : xH} {r0 : Int} (kl0 : xK l0 = 3 + 10) (hf : f_Way_tell l0 l1 l2 h = some r0) : J mX10_tell true 0 0 0 xKn (xen 0 [xR l0, xI l1, xI l2]) [] h (xEq (some r0) h) := by
  unfold f_Way_tell at hf
  refine J_cong (ls2 := [(0, xR l0), (1, xI l1), (2, xI l2)]) (st2 := []) rfl rfl ?_
  refine J_aload_n 0 dX10_tell_0 rfl rfl ?_
  refine J_iload_n 1 dX10_tell_1 rfl rfl ?_
  obtain ⟨r1, hq, hf⟩ := xc1_e hf
  refine J_cVi (Mc := mX10_codeAt) [xI l1] dX10_tell_2 (fc_Way_codeAt.fit ⟨xbl rfl, xbl rfl⟩) rfl ⟨Or.inl xq709, xq711, xq37⟩ kl0 (ci := 10) rfl rfl (xbl rfl) (xbl rfl) (jm_Way_codeAt kl0 hq) ?_
  refine J_istore_n (ls' := [(3, xI r1), (0, xR l0), (1, xI l1), (2, xI l2)]) dX10_tell_5 rfl (by decide) rfl rfl ?_
  refine J_iload_n 0 dX10_tell_6 rfl rfl ?_
  refine J_iconst dX10_tell_7 (by decide) ?_
  refine J_ic_ne (tgt := 13) dX10_tell_8 (by decide) (fun hc => ?_) (fun hc => ?_)
  · have hf := xip hc hf
    refine J_iconst dX10_tell_11 (by decide) ?_
    exact J_ireti dX10_tell_12 rfl (xq_p hf)
  · have hf := xin' hc hf
    refine J_iload_n 3 dX10_tell_13 rfl rfl ?_
    refine J_by (c := l2 = 0) (fun hc0 => ?_) (fun hc0 => ?_)
    · have hf := xip hc0 hf
      refine J_tswIn (tgt := 44) dX10_tell_14 0 hc0 (by decide) (by decide) rfl (by decide) ?_
      refine J_iload_n 0 dX10_tell_44 rfl rfl ?_
      refine J_bip dX10_tell_45 (by decide) ?_
      refine J_mmin dX10_tell_47 ⟨xq692, xq542, xq129, xq543⟩ (xbl rfl) (xbl rfl) ?_
      exact J_ireti dX10_tell_50 rfl (xq_p hf)
    · have hf := xin' hc0 hf
      refine J_by (c := l2 = 1) (fun hc1 => ?_) (fun hc1 => ?_)
      · have hf := xip hc1 hf
        refine J_tswIn (tgt := 51) dX10_tell_14 1 hc1 (by decide) (by decide) rfl (by decide) ?_
        refine J_aload_n 1 dX10_tell_51 rfl rfl ?_
        refine J_getRl (j := 3) xcf10 dX10_tell_52 kl0 (Or.inl xq267) (by decide) (by decide) (rfWay_3 kl0) ?_
        refine J_iload_n 2 dX10_tell_55 rfl rfl ?_
        obtain ⟨hg, hf⟩ := xgd_e hf
        refine J_iald dX10_tell_56 (xK_r1 (kWay_3 kl0)) (kWay_3 kl0) hg (nWay_3 kl0) ?_
        exact J_ireti dX10_tell_57 rfl (xq_p hf)
      · have hf := xin' hc1 hf
        refine J_by (c := l2 = 2) (fun hc2 => ?_) (fun hc2 => ?_)
        · have hf := xip hc2 hf
          refine J_tswIn (tgt := 58) dX10_tell_14 2 hc2 (by decide) (by decide) rfl (by decide) ?_
          refine J_aload_n 1 dX10_tell_58 rfl rfl ?_
          refine J_getRl (j := 4) xcf10 dX10_tell_59 kl0 (Or.inl xq268) (by decide) (by decide) (rfWay_4 kl0) ?_
          refine J_iload_n 2 dX10_tell_62 rfl rfl ?_
          obtain ⟨hg, hf⟩ := xgd_e hf
          refine J_iald dX10_tell_63 (xK_r1 (kWay_4 kl0)) (kWay_4 kl0) hg (nWay_4 kl0) ?_
          exact J_ireti dX10_tell_64 rfl (xq_p hf)
        · have hf := xin' hc2 hf
          refine J_by (c := l2 = 3) (fun hc3 => ?_) (fun hc3 => ?_)
          · have hf := xip hc3 hf
            refine J_tswIn (tgt := 65) dX10_tell_14 3 hc3 (by decide) (by decide) rfl (by decide) ?_
            refine J_aload_n 1 dX10_tell_65 rfl rfl ?_
            refine J_getRl (j := 5) xcf10 dX10_tell_66 kl0 (Or.inl xq269) (by decide) (by decide) (rfWay_5 kl0) ?_
            refine J_iload_n 2 dX10_tell_69 rfl rfl ?_
            obtain ⟨hg, hf⟩ := xgd_e hf
            refine J_iald dX10_tell_70 (xK_r1 (kWay_5 kl0)) (kWay_5 kl0) hg (nWay_5 kl0) ?_
            exact J_ireti dX10_tell_71 rfl (xq_p hf)
          · have hf := xin' hc3 hf
            refine J_tswOut (tgt := 72) dX10_tell_14 (by omega) (by decide) ?_
            refine J_iload_n 0 dX10_tell_72 rfl rfl ?_
            refine J_bip dX10_tell_73 (by decide) ?_
            refine J_ic_ge (tgt := 82) dX10_tell_75 (by decide) (fun hc => ?_) (fun hc => ?_)
            · have hf := xip hc hf
              refine J_iconst dX10_tell_78 (by decide) ?_
              refine J_goto (tgt := 86) dX10_tell_79 (by decide) ?_
              exact J_ireti dX10_tell_86 rfl (xq_p hf)
            · have hf := xin' hc hf
              refine J_iload_n 0 dX10_tell_82 rfl rfl ?_
              refine J_bip dX10_tell_83 (by decide) ?_
              refine J_isub dX10_tell_85 ?_
              exact J_ireti dX10_tell_86 rfl (xq_p hf)
theorem dX11_way_0 : decode cX11_way 0 = .ok (.iload_n 2, 1) := by decide +kernel
theorem dX11_way_1 : decode cX11_way 1 = .ok (.ifCond .lt 8, 3) := by decide +kernel
theorem dX11_way_4 : decode cX11_way 4 = .ok (.iload_n 2, 1) := by decide +kernel
theorem dX11_way_5 : decode cX11_way 5 = .ok (.iconst 4, 1) := by decide +kernel
theorem dX11_way_6 : decode cX11_way 6 = .ok (.if_icmp .le 6, 3) := by decide +kernel
theorem dX11_way_9 : decode cX11_way 9 = .ok (.bipush (-2), 2) := by decide +kernel
theorem dX11_way_11 : decode cX11_way 11 = .ok (.ireturn, 1) := by decide +kernel
theorem dX11_way_12 : decode cX11_way 12 = .ok (.iload_n 1, 1) := by decide +kernel
theorem dX11_way_13 : decode cX11_way 13 = .ok (.iconst (-1), 1) := by decide +kernel
theorem dX11_way_14 : decode cX11_way 14 = .ok (.if_icmp .ne 13, 3) := by decide +kernel
theorem dX11_way_17 : decode cX11_way 17 = .ok (.aload_n 0, 1) := by decide +kernel
theorem dX11_way_18 : decode cX11_way 18 = .ok (.getfield 54, 3) := by decide +kernel
theorem dX11_way_21 : decode cX11_way 21 = .ok (.getfield 192, 3) := by decide +kernel
theorem dX11_way_24 : decode cX11_way 24 = .ok (.goto 12, 3) := by decide +kernel
theorem dX11_way_27 : decode cX11_way 27 = .ok (.aload_n 0, 1) := by decide +kernel
theorem dX11_way_28 : decode cX11_way 28 = .ok (.getfield 54, 3) := by decide +kernel
theorem dX11_way_31 : decode cX11_way 31 = .ok (.iload_n 1, 1) := by decide +kernel
theorem dX11_way_32 : decode cX11_way 32 = .ok (.iload_n 2, 1) := by decide +kernel
theorem dX11_way_33 : decode cX11_way 33 = .ok (.invokevirtual 193, 3) := by decide +kernel
theorem dX11_way_36 : decode cX11_way 36 = .ok (.ireturn, 1) := by decide +kernel
theorem jm_WM_way {l1 : Int} {l2 : Int} {h : xH} {r0 : Int}  (hf : f_WM_way l1 l2 h = some r0) : J mX11_way true 0 0 0 xKn (xen 0 [xR 1, xI l1, xI l2]) [] h (xEq (some r0) h) := by
  unfold f_WM_way at hf
  refine J_cong (ls2 := [(0, xR 1), (1, xI l1), (2, xI l2)]) (st2 := []) rfl rfl ?_
  refine J_iload_n 2 dX11_way_0 rfl rfl ?_
  refine J_if_lt (tgt := 9) dX11_way_1 (by decide) (fun hc => ?_) (fun hc => ?_)
  · have hf := xip hc hf
    refine J_bip dX11_way_9 (by decide) ?_
    exact J_ireti dX11_way_11 rfl (xq_p hf)
  · have hf := xin' hc hf
    refine J_iload_n 2 dX11_way_4 rfl rfl ?_
    refine J_iconst dX11_way_5 (by decide) ?_
    refine J_ic_le (tgt := 12) dX11_way_6 (by decide) (fun hc => ?_) (fun hc => ?_)
    · have hf := xip hc hf
      refine J_bip dX11_way_9 (by decide) ?_
      exact J_ireti dX11_way_11 rfl (xq_p hf)
    · have hf := xin' hc hf
      refine J_iload_n 1 dX11_way_12 rfl rfl ?_
      refine J_iconst dX11_way_13 (by decide) ?_
      refine J_ic_ne (tgt := 27) dX11_way_14 (by decide) (fun hc => ?_) (fun hc => ?_)
      · have hf := xip hc hf
        refine J_aload_n 0 dX11_way_17 rfl rfl ?_
        refine J_getRl (j := 6) xcf11 dX11_way_18 kO1 (Or.inl xq441) (by decide) (by decide) rf_1_6 ?_
        refine J_getI (j := 6) xcf10 dX11_way_21 (xK_rg kO28) kO28 (Or.inr ⟨_, xq271⟩) (by decide) (by decide) ?_
        refine J_goto (tgt := 36) dX11_way_24 (by decide) ?_
        exact J_ireti dX11_way_36 rfl (xq_p hf)
      · have hf := xin' hc hf
        refine J_aload_n 0 dX11_way_27 rfl rfl ?_
        refine J_getRl (j := 6) xcf11 dX11_way_28 kO1 (Or.inl xq441) (by decide) (by decide) rf_1_6 ?_
        refine J_iload_n 1 dX11_way_31 rfl rfl ?_
        refine J_iload_n 2 dX11_way_32 rfl rfl ?_
        obtain ⟨r1, hq, hf⟩ := xc1_e hf
        refine J_cVi (Mc := mX10_tell) [xI l1, xI l2] dX11_way_33 (fc_Way_tell.fit ⟨xbl rfl, xbl rfl⟩) rfl ⟨Or.inr ⟨_, xq705⟩, xq707, xq36⟩ kO28 (ci := 10) rfl rfl (xbl rfl) (xbl rfl) (jm_Way_tell kO28 hq) ?_
        exact J_ireti dX11_way_36 rfl (xq_p hf)
theorem dX11_isNoBound_0 : decode cX11_isNoBound 0 = .ok (.iload_n 0, 1) := by decide +kernel
theorem dX11_isNoBound_1 : decode cX11_isNoBound 1 = .ok (.ifCond .lt 10, 3) := by decide +kernel
theorem dX11_isNoBound_4 : decode cX11_isNoBound 4 = .ok (.iload_n 0, 1) := by decide +kernel
theorem dX11_isNoBound_5 : decode cX11_isNoBound 5 = .ok (.ldc_w 303, 3) := by decide +kernel
theorem dX11_isNoBound_8 : decode cX11_isNoBound 8 = .ok (.if_icmp .le 7, 3) := by decide +kernel
theorem dX11_isNoBound_11 : decode cX11_isNoBound 11 = .ok (.iconst 1, 1) := by decide +kernel
theorem dX11_isNoBound_12 : decode cX11_isNoBound 12 = .ok (.goto 4, 3) := by decide +kernel
theorem dX11_isNoBound_15 : decode cX11_isNoBound 15 = .ok (.iconst 0, 1) := by decide +kernel
theorem dX11_isNoBound_16 : decode cX11_isNoBound 16 = .ok (.ireturn, 1) := by decide +kernel
theorem j_WM_isNoBound_11  {h : xH} {r0 : Int}  (hf : f_WM_isNoBound_11 h = some r0)  : J mX11_isNoBound true 0 0 11 xKn [] [] h (xEq (some r0) h) := by
  unfold f_WM_isNoBound_11 at hf
  refine J_iconst dX11_isNoBound_11 (by decide) ?_
  refine J_goto (tgt := 16) dX11_isNoBound_12 (by decide) ?_
  exact J_iretz dX11_isNoBound_16 rfl (by decide) (xq_p hf)
theorem jm_WM_isNoBound {l0 : Int} {h : xH} {r0 : Int}  (hf : f_WM_isNoBound l0 h = some r0) : J mX11_isNoBound true 0 0 0 xKn (xen 0 [xI l0]) [] h (xEq (some r0) h) := by
  unfold f_WM_isNoBound at hf
  refine J_cong (ls2 := [(0, xI l0)]) (st2 := []) rfl rfl ?_
  refine J_iload_n 0 dX11_isNoBound_0 rfl rfl ?_
  refine J_if_lt (tgt := 11) dX11_isNoBound_1 (by decide) (fun hc => ?_) (fun hc => ?_)
  · have hf := xip hc hf
    refine J_sub [] rfl ?_
    exact j_WM_isNoBound_11  hf
  · have hf := xin' hc hf
    refine J_iload_n 0 dX11_isNoBound_4 rfl rfl ?_
    refine J_ldcw (v := 99999) dX11_isNoBound_5 xq720 (by decide) ?_
    refine J_ic_le (tgt := 15) dX11_isNoBound_8 (by decide) (fun hc => ?_) (fun hc => ?_)
    · have hf := xip hc hf
      refine J_sub [] rfl ?_
      exact j_WM_isNoBound_11  hf
    · have hf := xin' hc hf
      refine J_iconst dX11_isNoBound_15 (by decide) ?_
      exact J_iretz dX11_isNoBound_16 rfl (by decide) (xq_p hf)
theorem dX3_clear_0 : decode cX3_clear 0 = .ok (.aload_n 0, 1) := by decide +kernel
theorem dX3_clear_1 : decode cX3_clear 1 = .ok (.iconst 0, 1) := by decide +kernel
theorem dX3_clear_2 : decode cX3_clear 2 = .ok (.putfield 28, 3) := by decide +kernel
theorem dX3_clear_5 : decode cX3_clear 5 = .ok (.aload_n 0, 1) := by decide +kernel
theorem dX3_clear_6 : decode cX3_clear 6 = .ok (.iconst 0, 1) := by decide +kernel
theorem dX3_clear_7 : decode cX3_clear 7 = .ok (.putfield 32, 3) := by decide +kernel
theorem dX3_clear_10 : decode cX3_clear 10 = .ok (.aload_n 0, 1) := by decide +kernel
theorem dX3_clear_11 : decode cX3_clear 11 = .ok (.iconst 0, 1) := by decide +kernel
theorem dX3_clear_12 : decode cX3_clear 12 = .ok (.iload_n 1, 1) := by decide +kernel
theorem dX3_clear_13 : decode cX3_clear 13 = .ok (.bipush 13, 2) := by decide +kernel
theorem dX3_clear_15 : decode cX3_clear 15 = .ok (.invokestatic 35, 3) := by decide +kernel
theorem dX3_clear_18 : decode cX3_clear 18 = .ok (.invokestatic 41, 3) := by decide +kernel
theorem dX3_clear_21 : decode cX3_clear 21 = .ok (.putfield 44, 3) := by decide +kernel
theorem dX3_clear_24 : decode cX3_clear 24 = .ok (.return_, 1) := by decide +kernel
theorem jm_Met_clear {l1 : Int} {h : xH} {h0 : xH}  (hf : f_Met_clear l1 h = some h0) : J mX3_clear true 0 0 0 xKn (xen 0 [xR 49, xI l1]) [] h (xEq none h0) := by
  unfold f_Met_clear at hf
  refine J_cong (ls2 := [(0, xR 49), (1, xI l1)]) (st2 := []) rfl rfl ?_
  refine J_aload_n 0 dX3_clear_0 rfl rfl ?_
  refine J_iconst dX3_clear_1 (by decide) ?_
  obtain ⟨h1, eh1, hf⟩ := xlet_e hf
  refine J_putI (j := 5) xcf3 dX3_clear_2 (xK_rg kO49) kO49 (Or.inl xq304) (by decide) (by decide) eh1 ?_
  refine J_aload_n 0 dX3_clear_5 rfl rfl ?_
  refine J_iconst dX3_clear_6 (by decide) ?_
  obtain ⟨h2, eh2, hf⟩ := xlet_e hf
  refine J_putI (j := 6) xcf3 dX3_clear_7 (xK_rg kO49) kO49 (Or.inl xq306) (by decide) (by decide) eh2 ?_
  refine J_aload_n 0 dX3_clear_10 rfl rfl ?_
  refine J_iconst dX3_clear_11 (by decide) ?_
  refine J_iload_n 1 dX3_clear_12 rfl rfl ?_
  refine J_bip dX3_clear_13 (by decide) ?_
  refine J_mmin dX3_clear_15 ⟨xq729, xq542, xq129, xq543⟩ (xbl rfl) (xbl rfl) ?_
  refine J_mmax dX3_clear_18 ⟨xq730, xq177, xq129, xq178⟩ (xbl rfl) (xbl rfl) ?_
  obtain ⟨h3, eh3, hf⟩ := xlet_e hf
  refine J_putI (j := 7) xcf3 dX3_clear_21 (xK_rg kO49) kO49 (Or.inl xq308) (by decide) (by decide) eh3 ?_
  exact J_rt dX3_clear_24 rfl (xq_v hf)
theorem dX5_copyTo_0 : decode cX5_copyTo 0 = .ok (.aload_n 2, 1) := by decide +kernel
theorem dX5_copyTo_1 : decode cX5_copyTo 1 = .ok (.invokevirtual 28, 3) := by decide +kernel
theorem dX5_copyTo_4 : decode cX5_copyTo 4 = .ok (.iconst 0, 1) := by decide +kernel
theorem dX5_copyTo_5 : decode cX5_copyTo 5 = .ok (.istore_n 3, 1) := by decide +kernel
theorem dX5_copyTo_6 : decode cX5_copyTo 6 = .ok (.iload_n 3, 1) := by decide +kernel
theorem dX5_copyTo_7 : decode cX5_copyTo 7 = .ok (.aload_n 0, 1) := by decide +kernel
theorem dX5_copyTo_8 : decode cX5_copyTo 8 = .ok (.iload_n 1, 1) := by decide +kernel
theorem dX5_copyTo_9 : decode cX5_copyTo 9 = .ok (.invokevirtual 33, 3) := by decide +kernel
theorem dX5_copyTo_12 : decode cX5_copyTo 12 = .ok (.if_icmp .ge 20, 3) := by decide +kernel
theorem dX5_copyTo_15 : decode cX5_copyTo 15 = .ok (.aload_n 2, 1) := by decide +kernel
theorem dX5_copyTo_16 : decode cX5_copyTo 16 = .ok (.aload_n 0, 1) := by decide +kernel
theorem dX5_copyTo_17 : decode cX5_copyTo 17 = .ok (.iload_n 1, 1) := by decide +kernel
theorem dX5_copyTo_18 : decode cX5_copyTo 18 = .ok (.iload_n 3, 1) := by decide +kernel
theorem dX5_copyTo_19 : decode cX5_copyTo 19 = .ok (.invokevirtual 37, 3) := by decide +kernel
theorem dX5_copyTo_22 : decode cX5_copyTo 22 = .ok (.invokevirtual 40, 3) := by decide +kernel
theorem dX5_copyTo_25 : decode cX5_copyTo 25 = .ok (.pop, 1) := by decide +kernel
theorem dX5_copyTo_26 : decode cX5_copyTo 26 = .ok (.iinc 3 1, 3) := by decide +kernel
theorem dX5_copyTo_29 : decode cX5_copyTo 29 = .ok (.goto (-23), 3) := by decide +kernel
theorem dX5_copyTo_32 : decode cX5_copyTo 32 = .ok (.return_, 1) := by decide +kernel
theorem j_Rows_copyTo_32  {h : xH} {h0 : xH}  (hf : f_Rows_copyTo_32 h = some h0)  : J mX5_copyTo true 0 0 32 xKn [] [] h (xEq none h0) := by
  unfold f_Rows_copyTo_32 at hf
  exact J_rt dX5_copyTo_32 rfl (xq_v hf)
theorem j_Rows_copyTo_s6 {l0 : Int} {l1 : Int} {l2 : Int} {l3 : Int} {h : xH} {x : ((Int × xH) ⊕ xH)} {Q : xQ} (kl0 : xK l0 = 3 + 5) (kl2 : xK l2 = 3 + 4) (hf : f_Rows_copyTo_s6 l0 l1 l2 l3 h = some x) (kb : ∀ (l3' : Int) (h' : xH), x = Sum.inl (l3', h') → J mX5_copyTo true 0 0 6 xKn [(0, xR l0), (1, xI l1), (2, xR l2), (3, xI l3')] [] h' Q) (ke : ∀  (h' : xH), x = (Sum.inr h') → J mX5_copyTo true 0 0 32 xKn [] [] h' Q) : J mX5_copyTo true 0 0 6 xKn [(0, xR l0), (1, xI l1), (2, xR l2), (3, xI l3)] [] h Q := by
  unfold f_Rows_copyTo_s6 at hf
  refine J_iload_n 3 dX5_copyTo_6 rfl rfl ?_
  refine J_aload_n 0 dX5_copyTo_7 rfl rfl ?_
  refine J_iload_n 1 dX5_copyTo_8 rfl rfl ?_
  obtain ⟨r1, hq, hf⟩ := xc1_e hf
  refine J_cVi (Mc := mX5_sizeOf) [xI l1] dX5_copyTo_9 (fc_Rows_sizeOf.fit ⟨xbl rfl, xbl rfl⟩) rfl ⟨Or.inl xq600, xq584, xq16⟩ kl0 (ci := 5) rfl rfl (xbl rfl) (xbl rfl) (jm_Rows_sizeOf kl0 hq) ?_
  refine J_ic_ge (tgt := 32) dX5_copyTo_12 (by decide) (fun hc => ?_) (fun hc => ?_)
  · have hf := xip hc hf
    refine J_aload_n 2 dX5_copyTo_15 rfl rfl ?_
    refine J_aload_n 0 dX5_copyTo_16 rfl rfl ?_
    refine J_iload_n 1 dX5_copyTo_17 rfl rfl ?_
    refine J_iload_n 3 dX5_copyTo_18 rfl rfl ?_
    obtain ⟨r2, hq, hf⟩ := xc1_e hf
    refine J_cVi (Mc := mX5_at) [xI l1, xI l3] dX5_copyTo_19 (fc_Rows_at.fit ⟨xbl rfl, xbl rfl⟩) rfl ⟨Or.inl xq532, xq534, xq9⟩ kl0 (ci := 5) rfl rfl (xbl rfl) (xbl rfl) (jm_Rows_at kl0 hq) ?_
    obtain ⟨r3, h4, hq, hf⟩ := xc2_e hf
    refine J_cVi (Mc := mX4_append) [xI r2] dX5_copyTo_22 (fc_Row_append.fit ⟨xbl rfl, xbl rfl⟩) rfl ⟨Or.inr ⟨_, xq736⟩, xq513, xq4⟩ kl2 (ci := 4) rfl rfl (xbl rfl) (xbl rfl) (jm_Row_append kl2 hq) ?_
    refine J_pop dX5_copyTo_25 rfl ?_
    obtain ⟨x5, ex5, hf⟩ := xlet_e hf
    refine J_iinc (ls' := [(3, xI x5), (0, xR l0), (1, xI l1), (2, xR l2)]) 3 dX5_copyTo_26 rfl (by decide) ex5 rfl ?_
    refine J_goto (tgt := 6) dX5_copyTo_29 (by decide) ?_
    refine J_sub [1, 2, 3, 0] rfl ?_
    exact kb _ _ (xinl hf)
  · have hf := xin' hc hf
    refine J_sub [] rfl ?_
    exact ke _ (xinl hf)
theorem j_Rows_copyTo_6 {l0 : Int} {l1 : Int} {l2 : Int} {l3 : Int} {h : xH} {h0 : xH} (kl0 : xK l0 = 3 + 5) (kl2 : xK l2 = 3 + 4) (hf : f_Rows_copyTo_6 l0 l1 l2 l3 h = some h0)  : J mX5_copyTo true 0 0 6 xKn [(0, xR l0), (1, xI l1), (2, xR l2), (3, xI l3)] [] h (xEq none h0) := by
  unfold f_Rows_copyTo_6 at hf
  obtain ⟨b0, hb0, hf⟩ := xc1_e hf
  refine xloop_ind (P := fun s : (Int × xH) => J mX5_copyTo true 0 0 6 xKn [(0, xR l0), (1, xI l1), (2, xR l2), (3, xI s.1)] [] s.2 (xEq none h0)) hb0 (fun s x1 hs ib ie => ?_)
  exact j_Rows_copyTo_s6 kl0 kl2 hs (fun _ _ e => ib _ e) (fun _ e => by have := ie _ e; subst this; exact j_Rows_copyTo_32  hf)
theorem jm_Rows_copyTo {l0 : Int} {l1 : Int} {l2 : Int} {h : xH} {h0 : xH} (kl0 : xK l0 = 3 + 5) (kl2 : xK l2 = 3 + 4) (hf : f_Rows_copyTo l0 l1 l2 h = some h0) : J mX5_copyTo true 0 0 0 xKn (xen 0 [xR l0, xI l1, xR l2]) [] h (xEq none h0) := by
  unfold f_Rows_copyTo at hf
  refine J_cong (ls2 := [(0, xR l0), (1, xI l1), (2, xR l2)]) (st2 := []) rfl rfl ?_
  refine J_aload_n 2 dX5_copyTo_0 rfl rfl ?_
  obtain ⟨h1, hq, hf⟩ := xc1_e hf
  refine J_cVv (Mc := mX4_clear) [] dX5_copyTo_1 (fc_Row_clear.fit ⟨xbl rfl, xbl rfl⟩) rfl ⟨Or.inr ⟨_, xq735⟩, xq509, xq3⟩ kl2 (ci := 4) rfl rfl (xbl rfl) (xbl rfl) (jm_Row_clear kl2 hq) ?_
  refine J_iconst dX5_copyTo_4 (by decide) ?_
  refine J_istore_n (ls' := [(3, xI 0), (0, xR l0), (1, xI l1), (2, xR l2)]) dX5_copyTo_5 rfl (by decide) rfl rfl ?_
  refine J_sub [1, 2, 3, 0] rfl ?_
  exact j_Rows_copyTo_6 kl0 kl2 hf
theorem dX6_mayStand_0 : decode cX6_mayStand 0 = .ok (.iload_n 1, 1) := by decide +kernel
theorem dX6_mayStand_1 : decode cX6_mayStand 1 = .ok (.bipush 7, 2) := by decide +kernel
theorem dX6_mayStand_3 : decode cX6_mayStand 3 = .ok (.if_icmp .lt 19, 3) := by decide +kernel
theorem dX6_mayStand_6 : decode cX6_mayStand 6 = .ok (.aload_n 0, 1) := by decide +kernel
theorem dX6_mayStand_7 : decode cX6_mayStand 7 = .ok (.getfield 29, 3) := by decide +kernel
theorem dX6_mayStand_10 : decode cX6_mayStand 10 = .ok (.iload_n 1, 1) := by decide +kernel
theorem dX6_mayStand_11 : decode cX6_mayStand 11 = .ok (.bipush 7, 2) := by decide +kernel
theorem dX6_mayStand_13 : decode cX6_mayStand 13 = .ok (.isub, 1) := by decide +kernel
theorem dX6_mayStand_14 : decode cX6_mayStand 14 = .ok (.aload_n 2, 1) := by decide +kernel
theorem dX6_mayStand_15 : decode cX6_mayStand 15 = .ok (.iload_n 3, 1) := by decide +kernel
theorem dX6_mayStand_16 : decode cX6_mayStand 16 = .ok (.invokevirtual 65, 3) := by decide +kernel
theorem dX6_mayStand_19 : decode cX6_mayStand 19 = .ok (.ifCond .eq 7, 3) := by decide +kernel
theorem dX6_mayStand_22 : decode cX6_mayStand 22 = .ok (.iconst 1, 1) := by decide +kernel
theorem dX6_mayStand_23 : decode cX6_mayStand 23 = .ok (.goto 4, 3) := by decide +kernel
theorem dX6_mayStand_26 : decode cX6_mayStand 26 = .ok (.iconst 0, 1) := by decide +kernel
theorem dX6_mayStand_27 : decode cX6_mayStand 27 = .ok (.ireturn, 1) := by decide +kernel
theorem j_Slips_mayStand_22  {h : xH} {r0 : Int}  (hf : f_Slips_mayStand_22 h = some r0)  : J mX6_mayStand true 0 0 22 xKn [] [] h (xEq (some r0) h) := by
  unfold f_Slips_mayStand_22 at hf
  refine J_iconst dX6_mayStand_22 (by decide) ?_
  refine J_goto (tgt := 27) dX6_mayStand_23 (by decide) ?_
  exact J_iretz dX6_mayStand_27 rfl (by decide) (xq_p hf)
theorem jm_Slips_mayStand {l1 : Int} {l2 : Int} {l3 : Int} {h : xH} {r0 : Int} (kl2 : xK l2 = 3 + 4) (hf : f_Slips_mayStand l1 l2 l3 h = some r0) : J mX6_mayStand true 0 0 0 xKn (xen 0 [xR 9, xI l1, xR l2, xI l3]) [] h (xEq (some r0) h) := by
  unfold f_Slips_mayStand at hf
  refine J_cong (ls2 := [(0, xR 9), (1, xI l1), (2, xR l2), (3, xI l3)]) (st2 := []) rfl rfl ?_
  refine J_iload_n 1 dX6_mayStand_0 rfl rfl ?_
  refine J_bip dX6_mayStand_1 (by decide) ?_
  refine J_ic_lt (tgt := 22) dX6_mayStand_3 (by decide) (fun hc => ?_) (fun hc => ?_)
  · have hf := xip hc hf
    refine J_sub [] rfl ?_
    exact j_Slips_mayStand_22  hf
  · have hf := xin' hc hf
    refine J_aload_n 0 dX6_mayStand_6 rfl rfl ?_
    refine J_getRl (j := 4) xcf6 dX6_mayStand_7 kO9 (Or.inl xq220) (by decide) (by decide) rf_9_4 ?_
    refine J_iload_n 1 dX6_mayStand_10 rfl rfl ?_
    refine J_bip dX6_mayStand_11 (by decide) ?_
    refine J_isub dX6_mayStand_13 ?_
    refine J_aload_n 2 dX6_mayStand_14 rfl rfl ?_
    refine J_iload_n 3 dX6_mayStand_15 rfl rfl ?_
    obtain ⟨r1, hq, hf⟩ := xc1_e hf
    refine J_cVi (Mc := mX5_standsIn) [xI (w32 (l1 - 7)), xR l2, xI l3] dX6_mayStand_16 (fc_Rows_standsIn.fit ⟨xbl rfl, xbl rfl⟩) rfl ⟨Or.inr ⟨_, xq671⟩, xq673, xq30⟩ kO14 (ci := 5) rfl rfl (xbl rfl) (xbl rfl) (jm_Rows_standsIn kO14 kl2 hq) ?_
    refine J_if_eq (tgt := 26) dX6_mayStand_19 (by decide) (fun hc => ?_) (fun hc => ?_)
    · have hf := xip hc hf
      refine J_iconst dX6_mayStand_26 (by decide) ?_
      exact J_iretz dX6_mayStand_27 rfl (by decide) (xq_p hf)
    · have hf := xin' hc hf
      refine J_sub [] rfl ?_
      exact j_Slips_mayStand_22  hf
theorem dX9_reach_0 : decode cX9_reach 0 = .ok (.iload_n 2, 1) := by decide +kernel
theorem dX9_reach_1 : decode cX9_reach 1 = .ok (.aload_n 0, 1) := by decide +kernel
theorem dX9_reach_2 : decode cX9_reach 2 = .ok (.getfield 45, 3) := by decide +kernel
theorem dX9_reach_5 : decode cX9_reach 5 = .ok (.iload_n 1, 1) := by decide +kernel
theorem dX9_reach_6 : decode cX9_reach 6 = .ok (.invokevirtual 115, 3) := by decide +kernel
theorem dX9_reach_9 : decode cX9_reach 9 = .ok (.isub, 1) := by decide +kernel
theorem dX9_reach_10 : decode cX9_reach 10 = .ok (.istore 4, 2) := by decide +kernel
theorem dX9_reach_12 : decode cX9_reach 12 = .ok (.iload 4, 2) := by decide +kernel
theorem dX9_reach_14 : decode cX9_reach 14 = .ok (.ifCond .lt 20, 3) := by decide +kernel
theorem dX9_reach_17 : decode cX9_reach 17 = .ok (.aload_n 0, 1) := by decide +kernel
theorem dX9_reach_18 : decode cX9_reach 18 = .ok (.getfield 45, 3) := by decide +kernel
theorem dX9_reach_21 : decode cX9_reach 21 = .ok (.iload_n 1, 1) := by decide +kernel
theorem dX9_reach_22 : decode cX9_reach 22 = .ok (.aload_n 0, 1) := by decide +kernel
theorem dX9_reach_23 : decode cX9_reach 23 = .ok (.getfield 21, 3) := by decide +kernel
theorem dX9_reach_26 : decode cX9_reach 26 = .ok (.iload 4, 2) := by decide +kernel
theorem dX9_reach_28 : decode cX9_reach 28 = .ok (.invokevirtual 118, 3) := by decide +kernel
theorem dX9_reach_31 : decode cX9_reach 31 = .ok (.ifCond .ne 4, 3) := by decide +kernel
theorem dX9_reach_34 : decode cX9_reach 34 = .ok (.return_, 1) := by decide +kernel
theorem dX9_reach_35 : decode cX9_reach 35 = .ok (.aload_n 0, 1) := by decide +kernel
theorem dX9_reach_36 : decode cX9_reach 36 = .ok (.getfield 45, 3) := by decide +kernel
theorem dX9_reach_39 : decode cX9_reach 39 = .ok (.iload_n 1, 1) := by decide +kernel
theorem dX9_reach_40 : decode cX9_reach 40 = .ok (.invokevirtual 122, 3) := by decide +kernel
theorem dX9_reach_43 : decode cX9_reach 43 = .ok (.istore 5, 2) := by decide +kernel
theorem dX9_reach_45 : decode cX9_reach 45 = .ok (.iconst 0, 1) := by decide +kernel
theorem dX9_reach_46 : decode cX9_reach 46 = .ok (.istore 6, 2) := by decide +kernel
theorem dX9_reach_48 : decode cX9_reach 48 = .ok (.iload 6, 2) := by decide +kernel
theorem dX9_reach_50 : decode cX9_reach 50 = .ok (.iload 5, 2) := by decide +kernel
theorem dX9_reach_52 : decode cX9_reach 52 = .ok (.iadd, 1) := by decide +kernel
theorem dX9_reach_53 : decode cX9_reach 53 = .ok (.aload_n 3, 1) := by decide +kernel
theorem dX9_reach_54 : decode cX9_reach 54 = .ok (.getfield 49, 3) := by decide +kernel
theorem dX9_reach_57 : decode cX9_reach 57 = .ok (.if_icmp .gt 123, 3) := by decide +kernel
theorem dX9_reach_60 : decode cX9_reach 60 = .ok (.iload 4, 2) := by decide +kernel
theorem dX9_reach_62 : decode cX9_reach 62 = .ok (.bipush 13, 2) := by decide +kernel
theorem dX9_reach_64 : decode cX9_reach 64 = .ok (.imul, 1) := by decide +kernel
theorem dX9_reach_65 : decode cX9_reach 65 = .ok (.iload 6, 2) := by decide +kernel
theorem dX9_reach_67 : decode cX9_reach 67 = .ok (.iadd, 1) := by decide +kernel
theorem dX9_reach_68 : decode cX9_reach 68 = .ok (.istore 7, 2) := by decide +kernel
theorem dX9_reach_70 : decode cX9_reach 70 = .ok (.iload_n 2, 1) := by decide +kernel
theorem dX9_reach_71 : decode cX9_reach 71 = .ok (.bipush 13, 2) := by decide +kernel
theorem dX9_reach_73 : decode cX9_reach 73 = .ok (.imul, 1) := by decide +kernel
theorem dX9_reach_74 : decode cX9_reach 74 = .ok (.iload 6, 2) := by decide +kernel
theorem dX9_reach_76 : decode cX9_reach 76 = .ok (.iadd, 1) := by decide +kernel
theorem dX9_reach_77 : decode cX9_reach 77 = .ok (.iload 5, 2) := by decide +kernel
theorem dX9_reach_79 : decode cX9_reach 79 = .ok (.iadd, 1) := by decide +kernel
theorem dX9_reach_80 : decode cX9_reach 80 = .ok (.istore 8, 2) := by decide +kernel
theorem dX9_reach_82 : decode cX9_reach 82 = .ok (.aload_n 0, 1) := by decide +kernel
theorem dX9_reach_83 : decode cX9_reach 83 = .ok (.getfield 45, 3) := by decide +kernel
theorem dX9_reach_86 : decode cX9_reach 86 = .ok (.iload_n 1, 1) := by decide +kernel
theorem dX9_reach_87 : decode cX9_reach 87 = .ok (.aload_n 0, 1) := by decide +kernel
theorem dX9_reach_88 : decode cX9_reach 88 = .ok (.getfield 21, 3) := by decide +kernel
theorem dX9_reach_91 : decode cX9_reach 91 = .ok (.iload 4, 2) := by decide +kernel
theorem dX9_reach_93 : decode cX9_reach 93 = .ok (.aload_n 3, 1) := by decide +kernel
theorem dX9_reach_94 : decode cX9_reach 94 = .ok (.iload 6, 2) := by decide +kernel
theorem dX9_reach_96 : decode cX9_reach 96 = .ok (.invokevirtual 125, 3) := by decide +kernel
theorem dX9_reach_99 : decode cX9_reach 99 = .ok (.istore 9, 2) := by decide +kernel
theorem dX9_reach_101 : decode cX9_reach 101 = .ok (.iload 9, 2) := by decide +kernel
theorem dX9_reach_103 : decode cX9_reach 103 = .ok (.iconst (-1), 1) := by decide +kernel
theorem dX9_reach_104 : decode cX9_reach 104 = .ok (.if_icmp .eq 70, 3) := by decide +kernel
theorem dX9_reach_107 : decode cX9_reach 107 = .ok (.iload 7, 2) := by decide +kernel
theorem dX9_reach_109 : decode cX9_reach 109 = .ok (.ifCond .lt 65, 3) := by decide +kernel
theorem dX9_reach_112 : decode cX9_reach 112 = .ok (.iload 7, 2) := by decide +kernel
theorem dX9_reach_114 : decode cX9_reach 114 = .ok (.aload_n 0, 1) := by decide +kernel
theorem dX9_reach_115 : decode cX9_reach 115 = .ok (.getfield 25, 3) := by decide +kernel
theorem dX9_reach_118 : decode cX9_reach 118 = .ok (.arraylength, 1) := by decide +kernel
theorem dX9_reach_119 : decode cX9_reach 119 = .ok (.if_icmp .ge 55, 3) := by decide +kernel
theorem dX9_reach_122 : decode cX9_reach 122 = .ok (.iload 8, 2) := by decide +kernel
theorem dX9_reach_124 : decode cX9_reach 124 = .ok (.ifCond .lt 50, 3) := by decide +kernel
theorem dX9_reach_127 : decode cX9_reach 127 = .ok (.iload 8, 2) := by decide +kernel
theorem dX9_reach_129 : decode cX9_reach 129 = .ok (.aload_n 0, 1) := by decide +kernel
theorem dX9_reach_130 : decode cX9_reach 130 = .ok (.getfield 25, 3) := by decide +kernel
theorem dX9_reach_133 : decode cX9_reach 133 = .ok (.arraylength, 1) := by decide +kernel
theorem dX9_reach_134 : decode cX9_reach 134 = .ok (.if_icmp .ge 40, 3) := by decide +kernel
theorem dX9_reach_137 : decode cX9_reach 137 = .ok (.aload_n 0, 1) := by decide +kernel
theorem dX9_reach_138 : decode cX9_reach 138 = .ok (.getfield 25, 3) := by decide +kernel
theorem dX9_reach_141 : decode cX9_reach 141 = .ok (.iload 7, 2) := by decide +kernel
theorem dX9_reach_143 : decode cX9_reach 143 = .ok (.iaload, 1) := by decide +kernel
theorem dX9_reach_144 : decode cX9_reach 144 = .ok (.iload 9, 2) := by decide +kernel
theorem dX9_reach_146 : decode cX9_reach 146 = .ok (.iadd, 1) := by decide +kernel
theorem dX9_reach_147 : decode cX9_reach 147 = .ok (.aload_n 0, 1) := by decide +kernel
theorem dX9_reach_148 : decode cX9_reach 148 = .ok (.getfield 25, 3) := by decide +kernel
theorem dX9_reach_151 : decode cX9_reach 151 = .ok (.iload 8, 2) := by decide +kernel
theorem dX9_reach_153 : decode cX9_reach 153 = .ok (.iaload, 1) := by decide +kernel
theorem dX9_reach_154 : decode cX9_reach 154 = .ok (.if_icmp .ge 20, 3) := by decide +kernel
theorem dX9_reach_157 : decode cX9_reach 157 = .ok (.aload_n 0, 1) := by decide +kernel
theorem dX9_reach_158 : decode cX9_reach 158 = .ok (.getfield 25, 3) := by decide +kernel
theorem dX9_reach_161 : decode cX9_reach 161 = .ok (.iload 8, 2) := by decide +kernel
theorem dX9_reach_163 : decode cX9_reach 163 = .ok (.aload_n 0, 1) := by decide +kernel
theorem dX9_reach_164 : decode cX9_reach 164 = .ok (.getfield 25, 3) := by decide +kernel
theorem dX9_reach_167 : decode cX9_reach 167 = .ok (.iload 7, 2) := by decide +kernel
theorem dX9_reach_169 : decode cX9_reach 169 = .ok (.iaload, 1) := by decide +kernel
theorem dX9_reach_170 : decode cX9_reach 170 = .ok (.iload 9, 2) := by decide +kernel
theorem dX9_reach_172 : decode cX9_reach 172 = .ok (.iadd, 1) := by decide +kernel
theorem dX9_reach_173 : decode cX9_reach 173 = .ok (.iastore, 1) := by decide +kernel
theorem dX9_reach_174 : decode cX9_reach 174 = .ok (.iinc 6 1, 3) := by decide +kernel
theorem dX9_reach_177 : decode cX9_reach 177 = .ok (.goto (-129), 3) := by decide +kernel
theorem dX9_reach_180 : decode cX9_reach 180 = .ok (.return_, 1) := by decide +kernel
theorem j_Walk_reach_180  {h : xH} {h0 : xH}  (hf : f_Walk_reach_180 h = some h0)  : J mX9_reach true 0 0 180 xKn [] [] h (xEq none h0) := by
  unfold f_Walk_reach_180 at hf
  exact J_rt dX9_reach_180 rfl (xq_v hf)
theorem j_Walk_reach_174 {l1 : Int} {l2 : Int} {l3 : Int} {l4 : Int} {l5 : Int} {l6 : Int} {h : xH} {x : ((Int × xH) ⊕ xH)} {Q : xQ} (kl3 : xK l3 = 3 + 4) (hf : f_Walk_reach_174 l1 l2 l3 l4 l5 l6 h = some x) (kb : ∀ (l6' : Int) (h' : xH), x = Sum.inl (l6', h') → J mX9_reach true 0 0 48 xKn [(0, xR 48), (1, xI l1), (2, xI l2), (3, xR l3), (4, xI l4), (5, xI l5), (6, xI l6')] [] h' Q) (ke : ∀  (h' : xH), x = (Sum.inr h') → J mX9_reach true 0 0 180 xKn [] [] h' Q) : J mX9_reach true 0 0 174 xKn [(0, xR 48), (1, xI l1), (2, xI l2), (3, xR l3), (4, xI l4), (5, xI l5), (6, xI l6)] [] h Q := by
  unfold f_Walk_reach_174 at hf
  obtain ⟨x1, ex1, hf⟩ := xlet_e hf
  refine J_iinc (ls' := [(6, xI x1), (0, xR 48), (1, xI l1), (2, xI l2), (3, xR l3), (4, xI l4), (5, xI l5)]) 6 dX9_reach_174 rfl (by decide) ex1 rfl ?_
  refine J_goto (tgt := 48) dX9_reach_177 (by decide) ?_
  refine J_sub [1, 2, 3, 4, 5, 6, 0] rfl ?_
  exact kb _ _ (xinl hf)
theorem j_Walk_reach_s48 {l1 : Int} {l2 : Int} {l3 : Int} {l4 : Int} {l5 : Int} {l6 : Int} {h : xH} {x : ((Int × xH) ⊕ xH)} {Q : xQ} (kl3 : xK l3 = 3 + 4) (hf : f_Walk_reach_s48 l1 l2 l3 l4 l5 l6 h = some x) (kb : ∀ (l6' : Int) (h' : xH), x = Sum.inl (l6', h') → J mX9_reach true 0 0 48 xKn [(0, xR 48), (1, xI l1), (2, xI l2), (3, xR l3), (4, xI l4), (5, xI l5), (6, xI l6')] [] h' Q) (ke : ∀  (h' : xH), x = (Sum.inr h') → J mX9_reach true 0 0 180 xKn [] [] h' Q) : J mX9_reach true 0 0 48 xKn [(0, xR 48), (1, xI l1), (2, xI l2), (3, xR l3), (4, xI l4), (5, xI l5), (6, xI l6)] [] h Q := by
  unfold f_Walk_reach_s48 at hf
  refine J_iload 6 dX9_reach_48 rfl ?_
  refine J_iload 5 dX9_reach_50 rfl ?_
  refine J_iadd dX9_reach_52 ?_
  refine J_aload_n 3 dX9_reach_53 rfl rfl ?_
  refine J_getI (j := 1) xcf4 dX9_reach_54 (xK_rg kl3) kl3 (Or.inr ⟨_, xq249⟩) (by decide) (by decide) ?_
  refine J_ic_gt (tgt := 180) dX9_reach_57 (by decide) (fun hc => ?_) (fun hc => ?_)
  · have hf := xip hc hf
    refine J_sub [] rfl ?_
    exact ke _ (xinl hf)
  · have hf := xin' hc hf
    refine J_iload 4 dX9_reach_60 rfl ?_
    refine J_bip dX9_reach_62 (by decide) ?_
    refine J_imul dX9_reach_64 ?_
    refine J_iload 6 dX9_reach_65 rfl ?_
    refine J_iadd dX9_reach_67 ?_
    obtain ⟨x1, ex1, hf⟩ := xlet_e hf
    refine J_istore (ls' := [(7, xI x1), (0, xR 48), (1, xI l1), (2, xI l2), (3, xR l3), (4, xI l4), (5, xI l5), (6, xI l6)]) dX9_reach_68 (by decide) ex1 rfl ?_
    refine J_iload_n 3 dX9_reach_70 rfl rfl ?_
    refine J_bip dX9_reach_71 (by decide) ?_
    refine J_imul dX9_reach_73 ?_
    refine J_iload 7 dX9_reach_74 rfl ?_
    refine J_iadd dX9_reach_76 ?_
    refine J_iload 6 dX9_reach_77 rfl ?_
    refine J_iadd dX9_reach_79 ?_
    obtain ⟨x2, ex2, hf⟩ := xlet_e hf
    refine J_istore (ls' := [(8, xI x2), (7, xI x1), (0, xR 48), (1, xI l1), (2, xI l2), (3, xR l3), (4, xI l4), (5, xI l5), (6, xI l6)]) dX9_reach_80 (by decide) ex2 rfl ?_
    refine J_aload_n 2 dX9_reach_82 rfl rfl ?_
    refine J_getRl (j := 1) xcf9 dX9_reach_83 kO48 (Or.inl xq331) (by decide) (by decide) rf_48_1 ?_
    refine J_iload_n 3 dX9_reach_86 rfl rfl ?_
    refine J_aload_n 2 dX9_reach_87 rfl rfl ?_
    refine J_getRl (j := 3) xcf9 dX9_reach_88 kO48 (Or.inl xq334) (by decide) (by decide) rf_48_3 ?_
    refine J_iload 6 dX9_reach_91 rfl ?_
    refine J_aload_n 5 dX9_reach_93 rfl rfl ?_
    refine J_iload 8 dX9_reach_94 rfl ?_
    obtain ⟨r3, hq, hf⟩ := xc1_e hf
    refine J_cVi (Mc := mX6_priceAt) [xI l1, xR 55, xI l4, xR l3, xI l6] dX9_reach_96 (fc_Slips_priceAt.fit ⟨xbl rfl, xbl rfl⟩) rfl ⟨Or.inr ⟨_, xq759⟩, xq665, xq29⟩ kO9 (ci := 6) rfl rfl (xbl rfl) (xbl rfl) (jm_Slips_priceAt kO55 kl3 hq) ?_
    refine J_istore (ls' := [(9, xI r3), (8, xI x2), (7, xI x1), (0, xR 48), (1, xI l1), (2, xI l2), (3, xR l3), (4, xI l4), (5, xI l5), (6, xI l6)]) dX9_reach_99 (by decide) rfl rfl ?_
    refine J_iload 0 dX9_reach_101 rfl ?_
    refine J_iconst dX9_reach_103 (by decide) ?_
    refine J_ic_eq (tgt := 174) dX9_reach_104 (by decide) (fun hc => ?_) (fun hc => ?_)
    · have hf := xip hc hf
      refine J_sub [3, 4, 5, 6, 7, 8, 9] rfl ?_
      exact j_Walk_reach_174 kl3 hf kb ke
    · have hf := xin' hc hf
      refine J_iload 2 dX9_reach_107 rfl ?_
      refine J_if_lt (tgt := 174) dX9_reach_109 (by decide) (fun hc => ?_) (fun hc => ?_)
      · have hf := xip hc hf
        refine J_sub [3, 4, 5, 6, 7, 8, 9] rfl ?_
        exact j_Walk_reach_174 kl3 hf kb ke
      · have hf := xin' hc hf
        refine J_iload 2 dX9_reach_112 rfl ?_
        refine J_aload_n 3 dX9_reach_114 rfl rfl ?_
        refine J_getRl (j := 4) xcf9 dX9_reach_115 kO48 (Or.inl xq335) (by decide) (by decide) rf_48_4 ?_
        refine J_alen dX9_reach_118 (xK_r1 kO57) (Or.inl kO57) (by decide) nA57 ?_
        refine J_ic_ge (tgt := 174) dX9_reach_119 (by decide) (fun hc => ?_) (fun hc => ?_)
        · have hf := xip hc hf
          refine J_iload 1 dX9_reach_122 rfl ?_
          refine J_if_lt (tgt := 174) dX9_reach_124 (by decide) (fun hc => ?_) (fun hc => ?_)
          · have hf := xip hc hf
            refine J_sub [3, 4, 5, 6, 7, 8, 9] rfl ?_
            exact j_Walk_reach_174 kl3 hf kb ke
          · have hf := xin' hc hf
            refine J_iload 1 dX9_reach_127 rfl ?_
            refine J_aload_n 3 dX9_reach_129 rfl rfl ?_
            refine J_getRl (j := 4) xcf9 dX9_reach_130 kO48 (Or.inl xq335) (by decide) (by decide) rf_48_4 ?_
            refine J_alen dX9_reach_133 (xK_r1 kO57) (Or.inl kO57) (by decide) nA57 ?_
            refine J_ic_ge (tgt := 174) dX9_reach_134 (by decide) (fun hc => ?_) (fun hc => ?_)
            · have hf := xip hc hf
              refine J_aload_n 3 dX9_reach_137 rfl rfl ?_
              refine J_getRl (j := 4) xcf9 dX9_reach_138 kO48 (Or.inl xq335) (by decide) (by decide) rf_48_4 ?_
              refine J_iload 2 dX9_reach_141 rfl ?_
              obtain ⟨hg, hf⟩ := xgd_e hf
              refine J_iald dX9_reach_143 (xK_r1 kO57) kO57 hg nA57 ?_
              refine J_iload 0 dX9_reach_144 rfl ?_
              refine J_iadd dX9_reach_146 ?_
              refine J_aload_n 3 dX9_reach_147 rfl rfl ?_
              refine J_getRl (j := 4) xcf9 dX9_reach_148 kO48 (Or.inl xq335) (by decide) (by decide) rf_48_4 ?_
              refine J_iload 1 dX9_reach_151 rfl ?_
              obtain ⟨hg, hf⟩ := xgd_e hf
              refine J_iald dX9_reach_153 (xK_r1 kO57) kO57 hg nA57 ?_
              refine J_ic_ge (tgt := 174) dX9_reach_154 (by decide) (fun hc => ?_) (fun hc => ?_)
              · have hf := xip hc hf
                refine J_aload_n 3 dX9_reach_157 rfl rfl ?_
                refine J_getRl (j := 4) xcf9 dX9_reach_158 kO48 (Or.inl xq335) (by decide) (by decide) rf_48_4 ?_
                refine J_iload 1 dX9_reach_161 rfl ?_
                refine J_aload_n 3 dX9_reach_163 rfl rfl ?_
                refine J_getRl (j := 4) xcf9 dX9_reach_164 kO48 (Or.inl xq335) (by decide) (by decide) rf_48_4 ?_
                refine J_iload 2 dX9_reach_167 rfl ?_
                obtain ⟨hg, hf⟩ := xgd_e hf
                refine J_iald dX9_reach_169 (xK_r1 kO57) kO57 hg nA57 ?_
                refine J_iload 0 dX9_reach_170 rfl ?_
                refine J_iadd dX9_reach_172 ?_
                obtain ⟨hg, hf⟩ := xgd_e hf
                obtain ⟨h4, eh4, hf⟩ := xlet_e hf
                refine J_iast dX9_reach_173 (xK_r1 kO57) kO57 hg nA57 eh4 ?_
                refine J_sub [3, 4, 5, 6, 7, 8, 9] rfl ?_
                exact j_Walk_reach_174 kl3 hf kb ke
              · have hf := xin' hc hf
                refine J_sub [3, 4, 5, 6, 7, 8, 9] rfl ?_
                exact j_Walk_reach_174 kl3 hf kb ke
            · have hf := xin' hc hf
              refine J_sub [3, 4, 5, 6, 7, 8, 9] rfl ?_
              exact j_Walk_reach_174 kl3 hf kb ke
        · have hf := xin' hc hf
          refine J_sub [3, 4, 5, 6, 7, 8, 9] rfl ?_
          exact j_Walk_reach_174 kl3 hf kb ke
theorem j_Walk_reach_48 {l1 : Int} {l2 : Int} {l3 : Int} {l4 : Int} {l5 : Int} {l6 : Int} {h : xH} {h0 : xH} (kl3 : xK l3 = 3 + 4) (hf : f_Walk_reach_48 l1 l2 l3 l4 l5 l6 h = some h0)  : J mX9_reach true 0 0 48 xKn [(0, xR 48), (1, xI l1), (2, xI l2), (3, xR l3), (4, xI l4), (5, xI l5), (6, xI l6)] [] h (xEq none h0) := by
  unfold f_Walk_reach_48 at hf
  obtain ⟨b0, hb0, hf⟩ := xc1_e hf
  refine xloop_ind (P := fun s : (Int × xH) => J mX9_reach true 0 0 48 xKn [(0, xR 48), (1, xI l1), (2, xI l2), (3, xR l3), (4, xI l4), (5, xI l5), (6, xI s.1)] [] s.2 (xEq none h0)) hb0 (fun s x1 hs ib ie => ?_)
  exact j_Walk_reach_s48 kl3 hs (fun _ _ e => ib _ e) (fun _ e => by have := ie _ e; subst this; exact j_Walk_reach_180  hf)
theorem jm_Walk_reach {l1 : Int} {l2 : Int} {l3 : Int} {h : xH} {h0 : xH} (kl3 : xK l3 = 3 + 4) (hf : f_Walk_reach l1 l2 l3 h = some h0) : J mX9_reach true 0 0 0 xKn (xen 0 [xR 48, xI l1, xI l2, xR l3]) [] h (xEq none h0) := by
  unfold f_Walk_reach at hf
  refine J_cong (ls2 := [(0, xR 48), (1, xI l1), (2, xI l2), (3, xR l3)]) (st2 := []) rfl rfl ?_
  refine J_iload_n 2 dX9_reach_0 rfl rfl ?_
  refine J_aload_n 0 dX9_reach_1 rfl rfl ?_
  refine J_getRl (j := 1) xcf9 dX9_reach_2 kO48 (Or.inl xq331) (by decide) (by decide) rf_48_1 ?_
  refine J_iload_n 1 dX9_reach_5 rfl rfl ?_
  obtain ⟨r1, hq, hf⟩ := xc1_e hf
  refine J_cVi (Mc := mX6_meantTaken) [xI l1] dX9_reach_6 (fc_Slips_meantTaken.fit ⟨xbl rfl, xbl rfl⟩) rfl ⟨Or.inr ⟨_, xq753⟩, xq681, xq32⟩ kO9 (ci := 6) rfl rfl (xbl rfl) (xbl rfl) (jm_Slips_meantTaken  hq) ?_
  refine J_isub dX9_reach_9 ?_
  obtain ⟨x2, ex2, hf⟩ := xlet_e hf
  refine J_istore (ls' := [(4, xI x2), (0, xR 48), (1, xI l1), (2, xI l2), (3, xR l3)]) dX9_reach_10 (by decide) ex2 rfl ?_
  refine J_iload 0 dX9_reach_12 rfl ?_
  refine J_if_lt (tgt := 34) dX9_reach_14 (by decide) (fun hc => ?_) (fun hc => ?_)
  · have hf := xip hc hf
    exact J_rt dX9_reach_34 rfl (xq_v hf)
  · have hf := xin' hc hf
    refine J_aload_n 1 dX9_reach_17 rfl rfl ?_
    refine J_getRl (j := 1) xcf9 dX9_reach_18 kO48 (Or.inl xq331) (by decide) (by decide) rf_48_1 ?_
    refine J_iload_n 2 dX9_reach_21 rfl rfl ?_
    refine J_aload_n 1 dX9_reach_22 rfl rfl ?_
    refine J_getRl (j := 3) xcf9 dX9_reach_23 kO48 (Or.inl xq334) (by decide) (by decide) rf_48_3 ?_
    refine J_iload 0 dX9_reach_26 rfl ?_
    obtain ⟨r3, hq, hf⟩ := xc1_e hf
    refine J_cVi (Mc := mX6_mayStand) [xI l1, xR 55, xI x2] dX9_reach_28 (fc_Slips_mayStand.fit ⟨xbl rfl, xbl rfl⟩) rfl ⟨Or.inr ⟨_, xq754⟩, xq756, xq44⟩ kO9 (ci := 6) rfl rfl (xbl rfl) (xbl rfl) (jm_Slips_mayStand kO55 hq) ?_
    refine J_if_ne (tgt := 35) dX9_reach_31 (by decide) (fun hc => ?_) (fun hc => ?_)
    · have hf := xip hc hf
      exact J_rt dX9_reach_34 rfl (xq_v hf)
    · have hf := xin' hc hf
      refine J_aload_n 1 dX9_reach_35 rfl rfl ?_
      refine J_getRl (j := 1) xcf9 dX9_reach_36 kO48 (Or.inl xq331) (by decide) (by decide) rf_48_1 ?_
      refine J_iload_n 2 dX9_reach_39 rfl rfl ?_
      obtain ⟨r4, hq, hf⟩ := xc1_e hf
      refine J_cVi (Mc := mX6_typedTaken) [xI l1] dX9_reach_40 (fc_Slips_typedTaken.fit ⟨xbl rfl, xbl rfl⟩) rfl ⟨Or.inr ⟨_, xq758⟩, xq688, xq33⟩ kO9 (ci := 6) rfl rfl (xbl rfl) (xbl rfl) (jm_Slips_typedTaken  hq) ?_
      refine J_istore (ls' := [(5, xI r4), (4, xI x2), (0, xR 48), (1, xI l1), (2, xI l2), (3, xR l3)]) dX9_reach_43 (by decide) rfl rfl ?_
      refine J_iconst dX9_reach_45 (by decide) ?_
      refine J_istore (ls' := [(6, xI 0), (5, xI r4), (4, xI x2), (0, xR 48), (1, xI l1), (2, xI l2), (3, xR l3)]) dX9_reach_46 (by decide) rfl rfl ?_
      refine J_sub [3, 4, 5, 6, 2, 1, 0] rfl ?_
      exact j_Walk_reach_48 kl3 hf
theorem dX9_fill_0 : decode cX9_fill 0 = .ok (.iconst 0, 1) := by decide +kernel
theorem dX9_fill_1 : decode cX9_fill 1 = .ok (.istore_n 3, 1) := by decide +kernel
theorem dX9_fill_2 : decode cX9_fill 2 = .ok (.iload_n 3, 1) := by decide +kernel
theorem dX9_fill_3 : decode cX9_fill 3 = .ok (.aload_n 2, 1) := by decide +kernel
theorem dX9_fill_4 : decode cX9_fill 4 = .ok (.getfield 49, 3) := by decide +kernel
theorem dX9_fill_7 : decode cX9_fill 7 = .ok (.if_icmp .gt 50, 3) := by decide +kernel
theorem dX9_fill_10 : decode cX9_fill 10 = .ok (.iload_n 1, 1) := by decide +kernel
theorem dX9_fill_11 : decode cX9_fill 11 = .ok (.bipush 13, 2) := by decide +kernel
theorem dX9_fill_13 : decode cX9_fill 13 = .ok (.imul, 1) := by decide +kernel
theorem dX9_fill_14 : decode cX9_fill 14 = .ok (.iload_n 3, 1) := by decide +kernel
theorem dX9_fill_15 : decode cX9_fill 15 = .ok (.iadd, 1) := by decide +kernel
theorem dX9_fill_16 : decode cX9_fill 16 = .ok (.istore 4, 2) := by decide +kernel
theorem dX9_fill_18 : decode cX9_fill 18 = .ok (.iload 4, 2) := by decide +kernel
theorem dX9_fill_20 : decode cX9_fill 20 = .ok (.ifCond .lt 31, 3) := by decide +kernel
theorem dX9_fill_23 : decode cX9_fill 23 = .ok (.iload 4, 2) := by decide +kernel
theorem dX9_fill_25 : decode cX9_fill 25 = .ok (.aload_n 0, 1) := by decide +kernel
theorem dX9_fill_26 : decode cX9_fill 26 = .ok (.getfield 25, 3) := by decide +kernel
theorem dX9_fill_29 : decode cX9_fill 29 = .ok (.arraylength, 1) := by decide +kernel
theorem dX9_fill_30 : decode cX9_fill 30 = .ok (.if_icmp .ge 21, 3) := by decide +kernel
theorem dX9_fill_33 : decode cX9_fill 33 = .ok (.aload_n 0, 1) := by decide +kernel
theorem dX9_fill_34 : decode cX9_fill 34 = .ok (.getfield 25, 3) := by decide +kernel
theorem dX9_fill_37 : decode cX9_fill 37 = .ok (.iload 4, 2) := by decide +kernel
theorem dX9_fill_39 : decode cX9_fill 39 = .ok (.iload 4, 2) := by decide +kernel
theorem dX9_fill_41 : decode cX9_fill 41 = .ok (.ifCond .ne 7, 3) := by decide +kernel
theorem dX9_fill_44 : decode cX9_fill 44 = .ok (.iconst 0, 1) := by decide +kernel
theorem dX9_fill_45 : decode cX9_fill 45 = .ok (.goto 5, 3) := by decide +kernel
theorem dX9_fill_48 : decode cX9_fill 48 = .ok (.ldc 84, 2) := by decide +kernel
theorem dX9_fill_50 : decode cX9_fill 50 = .ok (.iastore, 1) := by decide +kernel
theorem dX9_fill_51 : decode cX9_fill 51 = .ok (.iinc 3 1, 3) := by decide +kernel
theorem dX9_fill_54 : decode cX9_fill 54 = .ok (.goto (-52), 3) := by decide +kernel
theorem dX9_fill_57 : decode cX9_fill 57 = .ok (.iconst 0, 1) := by decide +kernel
theorem dX9_fill_58 : decode cX9_fill 58 = .ok (.istore_n 3, 1) := by decide +kernel
theorem dX9_fill_59 : decode cX9_fill 59 = .ok (.iload_n 3, 1) := by decide +kernel
theorem dX9_fill_60 : decode cX9_fill 60 = .ok (.aload_n 0, 1) := by decide +kernel
theorem dX9_fill_61 : decode cX9_fill 61 = .ok (.getfield 45, 3) := by decide +kernel
theorem dX9_fill_64 : decode cX9_fill 64 = .ok (.invokevirtual 105, 3) := by decide +kernel
theorem dX9_fill_67 : decode cX9_fill 67 = .ok (.if_icmp .ge 21, 3) := by decide +kernel
theorem dX9_fill_70 : decode cX9_fill 70 = .ok (.iload_n 3, 1) := by decide +kernel
theorem dX9_fill_71 : decode cX9_fill 71 = .ok (.iconst 3, 1) := by decide +kernel
theorem dX9_fill_72 : decode cX9_fill 72 = .ok (.if_icmp .eq 10, 3) := by decide +kernel
theorem dX9_fill_75 : decode cX9_fill 75 = .ok (.aload_n 0, 1) := by decide +kernel
theorem dX9_fill_76 : decode cX9_fill 76 = .ok (.iload_n 3, 1) := by decide +kernel
theorem dX9_fill_77 : decode cX9_fill 77 = .ok (.iload_n 1, 1) := by decide +kernel
theorem dX9_fill_78 : decode cX9_fill 78 = .ok (.aload_n 2, 1) := by decide +kernel
theorem dX9_fill_79 : decode cX9_fill 79 = .ok (.invokevirtual 111, 3) := by decide +kernel
theorem dX9_fill_82 : decode cX9_fill 82 = .ok (.iinc 3 1, 3) := by decide +kernel
theorem dX9_fill_85 : decode cX9_fill 85 = .ok (.goto (-26), 3) := by decide +kernel
theorem dX9_fill_88 : decode cX9_fill 88 = .ok (.aload_n 0, 1) := by decide +kernel
theorem dX9_fill_89 : decode cX9_fill 89 = .ok (.iconst 3, 1) := by decide +kernel
theorem dX9_fill_90 : decode cX9_fill 90 = .ok (.iload_n 1, 1) := by decide +kernel
theorem dX9_fill_91 : decode cX9_fill 91 = .ok (.aload_n 2, 1) := by decide +kernel
theorem dX9_fill_92 : decode cX9_fill 92 = .ok (.invokevirtual 111, 3) := by decide +kernel
theorem dX9_fill_95 : decode cX9_fill 95 = .ok (.return_, 1) := by decide +kernel
theorem j_Walk_fill_88 {l1 : Int} {l2 : Int} {h : xH} {h0 : xH} (kl2 : xK l2 = 3 + 4) (hf : f_Walk_fill_88 l1 l2 h = some h0)  : J mX9_fill true 0 0 88 xKn [(0, xR 48), (1, xI l1), (2, xR l2)] [] h (xEq none h0) := by
  unfold f_Walk_fill_88 at hf
  refine J_aload_n 0 dX9_fill_88 rfl rfl ?_
  refine J_iconst dX9_fill_89 (by decide) ?_
  refine J_iload_n 1 dX9_fill_90 rfl rfl ?_
  refine J_aload_n 2 dX9_fill_91 rfl rfl ?_
  obtain ⟨h1, hq, hf⟩ := xc1_e hf
  refine J_cVv (Mc := mX9_reach) [xI 3, xI l1, xR l2] dX9_fill_92 (fc_Walk_reach.fit ⟨xbl rfl, xbl rfl⟩) rfl ⟨Or.inl xq749, xq751, xq43⟩ kO48 (ci := 9) rfl rfl (xbl rfl) (xbl rfl) (jm_Walk_reach kl2 hq) ?_
  exact J_rt dX9_fill_95 rfl (xq_v hf)
theorem j_Walk_fill_82 {l1 : Int} {l2 : Int} {l3 : Int} {h : xH} {x : ((Int × xH) ⊕ xH)} {Q : xQ} (kl2 : xK l2 = 3 + 4) (hf : f_Walk_fill_82 l1 l2 l3 h = some x) (kb : ∀ (l3' : Int) (h' : xH), x = Sum.inl (l3', h') → J mX9_fill true 0 0 59 xKn [(0, xR 48), (1, xI l1), (2, xR l2), (3, xI l3')] [] h' Q) (ke : ∀  (h' : xH), x = (Sum.inr h') → J mX9_fill true 0 0 88 xKn [(0, xR 48), (1, xI l1), (2, xR l2)] [] h' Q) : J mX9_fill true 0 0 82 xKn [(0, xR 48), (1, xI l1), (2, xR l2), (3, xI l3)] [] h Q := by
  unfold f_Walk_fill_82 at hf
  obtain ⟨x1, ex1, hf⟩ := xlet_e hf
  refine J_iinc (ls' := [(3, xI x1), (0, xR 48), (1, xI l1), (2, xR l2)]) 3 dX9_fill_82 rfl (by decide) ex1 rfl ?_
  refine J_goto (tgt := 59) dX9_fill_85 (by decide) ?_
  refine J_sub [1, 2, 3, 0] rfl ?_
  exact kb _ _ (xinl hf)
theorem j_Walk_fill_s59 {l1 : Int} {l2 : Int} {l3 : Int} {h : xH} {x : ((Int × xH) ⊕ xH)} {Q : xQ} (kl2 : xK l2 = 3 + 4) (hf : f_Walk_fill_s59 l1 l2 l3 h = some x) (kb : ∀ (l3' : Int) (h' : xH), x = Sum.inl (l3', h') → J mX9_fill true 0 0 59 xKn [(0, xR 48), (1, xI l1), (2, xR l2), (3, xI l3')] [] h' Q) (ke : ∀  (h' : xH), x = (Sum.inr h') → J mX9_fill true 0 0 88 xKn [(0, xR 48), (1, xI l1), (2, xR l2)] [] h' Q) : J mX9_fill true 0 0 59 xKn [(0, xR 48), (1, xI l1), (2, xR l2), (3, xI l3)] [] h Q := by
  unfold f_Walk_fill_s59 at hf
  refine J_iload_n 3 dX9_fill_59 rfl rfl ?_
  refine J_aload_n 0 dX9_fill_60 rfl rfl ?_
  refine J_getRl (j := 1) xcf9 dX9_fill_61 kO48 (Or.inl xq331) (by decide) (by decide) rf_48_1 ?_
  obtain ⟨r1, hq, hf⟩ := xc1_e hf
  refine J_cVi (Mc := mX6_codes) [] dX9_fill_64 (fc_Slips_codes.fit ⟨xbl rfl, xbl rfl⟩) rfl ⟨Or.inr ⟨_, xq748⟩, xq657, xq27⟩ kO9 (ci := 6) rfl rfl (xbl rfl) (xbl rfl) (jm_Slips_codes  hq) ?_
  refine J_ic_ge (tgt := 88) dX9_fill_67 (by decide) (fun hc => ?_) (fun hc => ?_)
  · have hf := xip hc hf
    refine J_iload_n 3 dX9_fill_70 rfl rfl ?_
    refine J_iconst dX9_fill_71 (by decide) ?_
    refine J_ic_eq (tgt := 82) dX9_fill_72 (by decide) (fun hc => ?_) (fun hc => ?_)
    · have hf := xip hc hf
      exact j_Walk_fill_82 kl2 hf kb ke
    · have hf := xin' hc hf
      refine J_aload_n 0 dX9_fill_75 rfl rfl ?_
      refine J_iload_n 3 dX9_fill_76 rfl rfl ?_
      refine J_iload_n 1 dX9_fill_77 rfl rfl ?_
      refine J_aload_n 2 dX9_fill_78 rfl rfl ?_
      obtain ⟨h2, hq, hf⟩ := xc1_e hf
      refine J_cVv (Mc := mX9_reach) [xI l3, xI l1, xR l2] dX9_fill_79 (fc_Walk_reach.fit ⟨xbl rfl, xbl rfl⟩) rfl ⟨Or.inl xq749, xq751, xq43⟩ kO48 (ci := 9) rfl rfl (xbl rfl) (xbl rfl) (jm_Walk_reach kl2 hq) ?_
      exact j_Walk_fill_82 kl2 hf kb ke
  · have hf := xin' hc hf
    refine J_sub [0, 1, 2] rfl ?_
    exact ke _ (xinl hf)
theorem j_Walk_fill_59 {l1 : Int} {l2 : Int} {l3 : Int} {h : xH} {h0 : xH} (kl2 : xK l2 = 3 + 4) (hf : f_Walk_fill_59 l1 l2 l3 h = some h0)  : J mX9_fill true 0 0 59 xKn [(0, xR 48), (1, xI l1), (2, xR l2), (3, xI l3)] [] h (xEq none h0) := by
  unfold f_Walk_fill_59 at hf
  obtain ⟨b0, hb0, hf⟩ := xc1_e hf
  refine xloop_ind (P := fun s : (Int × xH) => J mX9_fill true 0 0 59 xKn [(0, xR 48), (1, xI l1), (2, xR l2), (3, xI s.1)] [] s.2 (xEq none h0)) hb0 (fun s x1 hs ib ie => ?_)
  exact j_Walk_fill_s59 kl2 hs (fun _ _ e => ib _ e) (fun _ e => by have := ie _ e; subst this; exact j_Walk_fill_88 kl2 hf)
theorem j_Walk_fill_57 {l1 : Int} {l2 : Int} {h : xH} {h0 : xH} (kl2 : xK l2 = 3 + 4) (hf : f_Walk_fill_57 l1 l2 h = some h0)  : J mX9_fill true 0 0 57 xKn [(0, xR 48), (1, xI l1), (2, xR l2)] [] h (xEq none h0) := by
  unfold f_Walk_fill_57 at hf
  refine J_iconst dX9_fill_57 (by decide) ?_
  refine J_istore_n (ls' := [(3, xI 0), (0, xR 48), (1, xI l1), (2, xR l2)]) dX9_fill_58 rfl (by decide) rfl rfl ?_
  refine J_sub [1, 2, 3, 0] rfl ?_
  exact j_Walk_fill_59 kl2 hf
theorem j_Walk_fill_51 {l1 : Int} {l2 : Int} {l3 : Int} {h : xH} {x : ((Int × xH) ⊕ xH)} {Q : xQ} (kl2 : xK l2 = 3 + 4) (hf : f_Walk_fill_51 l1 l2 l3 h = some x) (kb : ∀ (l3' : Int) (h' : xH), x = Sum.inl (l3', h') → J mX9_fill true 0 0 2 xKn [(0, xR 48), (1, xI l1), (2, xR l2), (3, xI l3')] [] h' Q) (ke : ∀  (h' : xH), x = (Sum.inr h') → J mX9_fill true 0 0 57 xKn [(0, xR 48), (1, xI l1), (2, xR l2)] [] h' Q) : J mX9_fill true 0 0 51 xKn [(0, xR 48), (1, xI l1), (2, xR l2), (3, xI l3)] [] h Q := by
  unfold f_Walk_fill_51 at hf
  obtain ⟨x1, ex1, hf⟩ := xlet_e hf
  refine J_iinc (ls' := [(3, xI x1), (0, xR 48), (1, xI l1), (2, xR l2)]) 3 dX9_fill_51 rfl (by decide) ex1 rfl ?_
  refine J_goto (tgt := 2) dX9_fill_54 (by decide) ?_
  refine J_sub [1, 2, 3, 0] rfl ?_
  exact kb _ _ (xinl hf)
theorem j_Walk_fill_50 {l1 : Int} {l2 : Int} {l3 : Int} {s1 : Int} {s2 : Int} {h : xH} {x : ((Int × xH) ⊕ xH)} {Q : xQ} (kl2 : xK l2 = 3 + 4) (hf : f_Walk_fill_50 l1 l2 l3 s1 s2 h = some x) (kb : ∀ (l3' : Int) (h' : xH), x = Sum.inl (l3', h') → J mX9_fill true 0 0 2 xKn [(0, xR 48), (1, xI l1), (2, xR l2), (3, xI l3')] [] h' Q) (ke : ∀  (h' : xH), x = (Sum.inr h') → J mX9_fill true 0 0 57 xKn [(0, xR 48), (1, xI l1), (2, xR l2)] [] h' Q) : J mX9_fill true 0 0 50 xKn [(0, xR 48), (1, xI l1), (2, xR l2), (3, xI l3)] [xI s2, xI s1, xR 57] h Q := by
  unfold f_Walk_fill_50 at hf
  obtain ⟨hg, hf⟩ := xgd_e hf
  obtain ⟨h1, eh1, hf⟩ := xlet_e hf
  refine J_iast dX9_fill_50 (xK_r1 kO57) kO57 hg nA57 eh1 ?_
  exact j_Walk_fill_51 kl2 hf kb ke
theorem j_Walk_fill_s2 {l1 : Int} {l2 : Int} {l3 : Int} {h : xH} {x : ((Int × xH) ⊕ xH)} {Q : xQ} (kl2 : xK l2 = 3 + 4) (hf : f_Walk_fill_s2 l1 l2 l3 h = some x) (kb : ∀ (l3' : Int) (h' : xH), x = Sum.inl (l3', h') → J mX9_fill true 0 0 2 xKn [(0, xR 48), (1, xI l1), (2, xR l2), (3, xI l3')] [] h' Q) (ke : ∀  (h' : xH), x = (Sum.inr h') → J mX9_fill true 0 0 57 xKn [(0, xR 48), (1, xI l1), (2, xR l2)] [] h' Q) : J mX9_fill true 0 0 2 xKn [(0, xR 48), (1, xI l1), (2, xR l2), (3, xI l3)] [] h Q := by
  unfold f_Walk_fill_s2 at hf
  refine J_iload_n 3 dX9_fill_2 rfl rfl ?_
  refine J_aload_n 2 dX9_fill_3 rfl rfl ?_
  refine J_getI (j := 1) xcf4 dX9_fill_4 (xK_rg kl2) kl2 (Or.inr ⟨_, xq249⟩) (by decide) (by decide) ?_
  refine J_ic_gt (tgt := 57) dX9_fill_7 (by decide) (fun hc => ?_) (fun hc => ?_)
  · have hf := xip hc hf
    refine J_sub [0, 1, 2] rfl ?_
    exact ke _ (xinl hf)
  · have hf := xin' hc hf
    refine J_iload_n 1 dX9_fill_10 rfl rfl ?_
    refine J_bip dX9_fill_11 (by decide) ?_
    refine J_imul dX9_fill_13 ?_
    refine J_iload_n 3 dX9_fill_14 rfl rfl ?_
    refine J_iadd dX9_fill_15 ?_
    obtain ⟨x1, ex1, hf⟩ := xlet_e hf
    refine J_istore (ls' := [(4, xI x1), (0, xR 48), (1, xI l1), (2, xR l2), (3, xI l3)]) dX9_fill_16 (by decide) ex1 rfl ?_
    refine J_iload 0 dX9_fill_18 rfl ?_
    refine J_if_lt (tgt := 51) dX9_fill_20 (by decide) (fun hc => ?_) (fun hc => ?_)
    · have hf := xip hc hf
      refine J_sub [1, 2, 3, 4] rfl ?_
      exact j_Walk_fill_51 kl2 hf kb ke
    · have hf := xin' hc hf
      refine J_iload 0 dX9_fill_23 rfl ?_
      refine J_aload_n 1 dX9_fill_25 rfl rfl ?_
      refine J_getRl (j := 4) xcf9 dX9_fill_26 kO48 (Or.inl xq335) (by decide) (by decide) rf_48_4 ?_
      refine J_alen dX9_fill_29 (xK_r1 kO57) (Or.inl kO57) (by decide) nA57 ?_
      refine J_ic_ge (tgt := 51) dX9_fill_30 (by decide) (fun hc => ?_) (fun hc => ?_)
      · have hf := xip hc hf
        refine J_aload_n 1 dX9_fill_33 rfl rfl ?_
        refine J_getRl (j := 4) xcf9 dX9_fill_34 kO48 (Or.inl xq335) (by decide) (by decide) rf_48_4 ?_
        refine J_iload 0 dX9_fill_37 rfl ?_
        refine J_iload 0 dX9_fill_39 rfl ?_
        refine J_if_ne (tgt := 48) dX9_fill_41 (by decide) (fun hc => ?_) (fun hc => ?_)
        · have hf := xip hc hf
          refine J_iconst dX9_fill_44 (by decide) ?_
          refine J_goto (tgt := 50) dX9_fill_45 (by decide) ?_
          refine J_sub [1, 2, 3, 4] rfl ?_
          exact j_Walk_fill_50 kl2 hf kb ke
        · have hf := xin' hc hf
          refine J_ldc (v := 1000000) dX9_fill_48 xq747 (by decide) ?_
          refine J_sub [1, 2, 3, 4] rfl ?_
          exact j_Walk_fill_50 kl2 hf kb ke
      · have hf := xin' hc hf
        refine J_sub [1, 2, 3, 4] rfl ?_
        exact j_Walk_fill_51 kl2 hf kb ke
theorem j_Walk_fill_2 {l1 : Int} {l2 : Int} {l3 : Int} {h : xH} {h0 : xH} (kl2 : xK l2 = 3 + 4) (hf : f_Walk_fill_2 l1 l2 l3 h = some h0)  : J mX9_fill true 0 0 2 xKn [(0, xR 48), (1, xI l1), (2, xR l2), (3, xI l3)] [] h (xEq none h0) := by
  unfold f_Walk_fill_2 at hf
  obtain ⟨b0, hb0, hf⟩ := xc1_e hf
  refine xloop_ind (P := fun s : (Int × xH) => J mX9_fill true 0 0 2 xKn [(0, xR 48), (1, xI l1), (2, xR l2), (3, xI s.1)] [] s.2 (xEq none h0)) hb0 (fun s x1 hs ib ie => ?_)
  exact j_Walk_fill_s2 kl2 hs (fun _ _ e => ib _ e) (fun _ e => by have := ie _ e; subst this; exact j_Walk_fill_57 kl2 hf)
theorem jm_Walk_fill {l1 : Int} {l2 : Int} {h : xH} {h0 : xH} (kl2 : xK l2 = 3 + 4) (hf : f_Walk_fill l1 l2 h = some h0) : J mX9_fill true 0 0 0 xKn (xen 0 [xR 48, xI l1, xR l2]) [] h (xEq none h0) := by
  unfold f_Walk_fill at hf
  refine J_cong (ls2 := [(0, xR 48), (1, xI l1), (2, xR l2)]) (st2 := []) rfl rfl ?_
  refine J_iconst dX9_fill_0 (by decide) ?_
  refine J_istore_n (ls' := [(3, xI 0), (0, xR 48), (1, xI l1), (2, xR l2)]) dX9_fill_1 rfl (by decide) rfl rfl ?_
  refine J_sub [1, 2, 3, 0] rfl ?_
  exact j_Walk_fill_2 kl2 hf
theorem dX9_sumUp_0 : decode cX9_sumUp 0 = .ok (.ldc 84, 2) := by decide +kernel
theorem dX9_sumUp_2 : decode cX9_sumUp 2 = .ok (.istore_n 3, 1) := by decide +kernel
theorem dX9_sumUp_3 : decode cX9_sumUp 3 = .ok (.ldc 84, 2) := by decide +kernel
theorem dX9_sumUp_5 : decode cX9_sumUp 5 = .ok (.istore 4, 2) := by decide +kernel
theorem dX9_sumUp_7 : decode cX9_sumUp 7 = .ok (.iconst 0, 1) := by decide +kernel
theorem dX9_sumUp_8 : decode cX9_sumUp 8 = .ok (.istore 5, 2) := by decide +kernel
theorem dX9_sumUp_10 : decode cX9_sumUp 10 = .ok (.iload 5, 2) := by decide +kernel
theorem dX9_sumUp_12 : decode cX9_sumUp 12 = .ok (.aload_n 2, 1) := by decide +kernel
theorem dX9_sumUp_13 : decode cX9_sumUp 13 = .ok (.getfield 49, 3) := by decide +kernel
theorem dX9_sumUp_16 : decode cX9_sumUp 16 = .ok (.if_icmp .gt 54, 3) := by decide +kernel
theorem dX9_sumUp_19 : decode cX9_sumUp 19 = .ok (.iload_n 1, 1) := by decide +kernel
theorem dX9_sumUp_20 : decode cX9_sumUp 20 = .ok (.bipush 13, 2) := by decide +kernel
theorem dX9_sumUp_22 : decode cX9_sumUp 22 = .ok (.imul, 1) := by decide +kernel
theorem dX9_sumUp_23 : decode cX9_sumUp 23 = .ok (.iload 5, 2) := by decide +kernel
theorem dX9_sumUp_25 : decode cX9_sumUp 25 = .ok (.iadd, 1) := by decide +kernel
theorem dX9_sumUp_26 : decode cX9_sumUp 26 = .ok (.istore 6, 2) := by decide +kernel
theorem dX9_sumUp_28 : decode cX9_sumUp 28 = .ok (.iload 6, 2) := by decide +kernel
theorem dX9_sumUp_30 : decode cX9_sumUp 30 = .ok (.ifCond .lt 23, 3) := by decide +kernel
theorem dX9_sumUp_33 : decode cX9_sumUp 33 = .ok (.iload 6, 2) := by decide +kernel
theorem dX9_sumUp_35 : decode cX9_sumUp 35 = .ok (.aload_n 0, 1) := by decide +kernel
theorem dX9_sumUp_36 : decode cX9_sumUp 36 = .ok (.getfield 25, 3) := by decide +kernel
theorem dX9_sumUp_39 : decode cX9_sumUp 39 = .ok (.arraylength, 1) := by decide +kernel
theorem dX9_sumUp_40 : decode cX9_sumUp 40 = .ok (.if_icmp .ge 13, 3) := by decide +kernel
theorem dX9_sumUp_43 : decode cX9_sumUp 43 = .ok (.aload_n 0, 1) := by decide +kernel
theorem dX9_sumUp_44 : decode cX9_sumUp 44 = .ok (.getfield 25, 3) := by decide +kernel
theorem dX9_sumUp_47 : decode cX9_sumUp 47 = .ok (.iload 6, 2) := by decide +kernel
theorem dX9_sumUp_49 : decode cX9_sumUp 49 = .ok (.iaload, 1) := by decide +kernel
theorem dX9_sumUp_50 : decode cX9_sumUp 50 = .ok (.goto 5, 3) := by decide +kernel
theorem dX9_sumUp_53 : decode cX9_sumUp 53 = .ok (.ldc 84, 2) := by decide +kernel
theorem dX9_sumUp_55 : decode cX9_sumUp 55 = .ok (.istore 4, 2) := by decide +kernel
theorem dX9_sumUp_57 : decode cX9_sumUp 57 = .ok (.iload_n 3, 1) := by decide +kernel
theorem dX9_sumUp_58 : decode cX9_sumUp 58 = .ok (.iload 4, 2) := by decide +kernel
theorem dX9_sumUp_60 : decode cX9_sumUp 60 = .ok (.invokestatic 78, 3) := by decide +kernel
theorem dX9_sumUp_63 : decode cX9_sumUp 63 = .ok (.istore_n 3, 1) := by decide +kernel
theorem dX9_sumUp_64 : decode cX9_sumUp 64 = .ok (.iinc 5 1, 3) := by decide +kernel
theorem dX9_sumUp_67 : decode cX9_sumUp 67 = .ok (.goto (-57), 3) := by decide +kernel
theorem dX9_sumUp_70 : decode cX9_sumUp 70 = .ok (.iload_n 1, 1) := by decide +kernel
theorem dX9_sumUp_71 : decode cX9_sumUp 71 = .ok (.ifCond .lt 56, 3) := by decide +kernel
theorem dX9_sumUp_74 : decode cX9_sumUp 74 = .ok (.iload_n 1, 1) := by decide +kernel
theorem dX9_sumUp_75 : decode cX9_sumUp 75 = .ok (.aload_n 0, 1) := by decide +kernel
theorem dX9_sumUp_76 : decode cX9_sumUp 76 = .ok (.getfield 29, 3) := by decide +kernel
theorem dX9_sumUp_79 : decode cX9_sumUp 79 = .ok (.arraylength, 1) := by decide +kernel
theorem dX9_sumUp_80 : decode cX9_sumUp 80 = .ok (.if_icmp .ge 47, 3) := by decide +kernel
theorem dX9_sumUp_83 : decode cX9_sumUp 83 = .ok (.iload_n 1, 1) := by decide +kernel
theorem dX9_sumUp_84 : decode cX9_sumUp 84 = .ok (.aload_n 0, 1) := by decide +kernel
theorem dX9_sumUp_85 : decode cX9_sumUp 85 = .ok (.getfield 32, 3) := by decide +kernel
theorem dX9_sumUp_88 : decode cX9_sumUp 88 = .ok (.arraylength, 1) := by decide +kernel
theorem dX9_sumUp_89 : decode cX9_sumUp 89 = .ok (.if_icmp .ge 38, 3) := by decide +kernel
theorem dX9_sumUp_92 : decode cX9_sumUp 92 = .ok (.aload_n 0, 1) := by decide +kernel
theorem dX9_sumUp_93 : decode cX9_sumUp 93 = .ok (.getfield 29, 3) := by decide +kernel
theorem dX9_sumUp_96 : decode cX9_sumUp 96 = .ok (.iload_n 1, 1) := by decide +kernel
theorem dX9_sumUp_97 : decode cX9_sumUp 97 = .ok (.iload_n 3, 1) := by decide +kernel
theorem dX9_sumUp_98 : decode cX9_sumUp 98 = .ok (.iastore, 1) := by decide +kernel
theorem dX9_sumUp_99 : decode cX9_sumUp 99 = .ok (.aload_n 0, 1) := by decide +kernel
theorem dX9_sumUp_100 : decode cX9_sumUp 100 = .ok (.getfield 32, 3) := by decide +kernel
theorem dX9_sumUp_103 : decode cX9_sumUp 103 = .ok (.iload_n 1, 1) := by decide +kernel
theorem dX9_sumUp_104 : decode cX9_sumUp 104 = .ok (.iload_n 1, 1) := by decide +kernel
theorem dX9_sumUp_105 : decode cX9_sumUp 105 = .ok (.ifCond .le 19, 3) := by decide +kernel
theorem dX9_sumUp_108 : decode cX9_sumUp 108 = .ok (.iload 4, 2) := by decide +kernel
theorem dX9_sumUp_110 : decode cX9_sumUp 110 = .ok (.aload_n 0, 1) := by decide +kernel
theorem dX9_sumUp_111 : decode cX9_sumUp 111 = .ok (.getfield 32, 3) := by decide +kernel
theorem dX9_sumUp_114 : decode cX9_sumUp 114 = .ok (.iload_n 1, 1) := by decide +kernel
theorem dX9_sumUp_115 : decode cX9_sumUp 115 = .ok (.iconst 1, 1) := by decide +kernel
theorem dX9_sumUp_116 : decode cX9_sumUp 116 = .ok (.isub, 1) := by decide +kernel
theorem dX9_sumUp_117 : decode cX9_sumUp 117 = .ok (.iaload, 1) := by decide +kernel
theorem dX9_sumUp_118 : decode cX9_sumUp 118 = .ok (.invokestatic 78, 3) := by decide +kernel
theorem dX9_sumUp_121 : decode cX9_sumUp 121 = .ok (.goto 5, 3) := by decide +kernel
theorem dX9_sumUp_124 : decode cX9_sumUp 124 = .ok (.iload 4, 2) := by decide +kernel
theorem dX9_sumUp_126 : decode cX9_sumUp 126 = .ok (.iastore, 1) := by decide +kernel
theorem dX9_sumUp_127 : decode cX9_sumUp 127 = .ok (.return_, 1) := by decide +kernel
theorem j_Walk_sumUp_126 {s1 : Int} {s2 : Int} {h : xH} {h0 : xH}  (hf : f_Walk_sumUp_126 s1 s2 h = some h0)  : J mX9_sumUp true 0 0 126 xKn [] [xI s2, xI s1, xR 59] h (xEq none h0) := by
  unfold f_Walk_sumUp_126 at hf
  obtain ⟨hg, hf⟩ := xgd_e hf
  obtain ⟨h1, eh1, hf⟩ := xlet_e hf
  refine J_iast dX9_sumUp_126 (xK_r1 kO59) kO59 hg nA59 eh1 ?_
  exact J_rt dX9_sumUp_127 rfl (xq_v hf)
theorem j_Walk_sumUp_70 {l1 : Int} {l3 : Int} {l4 : Int} {h : xH} {h0 : xH}  (hf : f_Walk_sumUp_70 l1 l3 l4 h = some h0)  : J mX9_sumUp true 0 0 70 xKn [(0, xR 48), (1, xI l1), (3, xI l3), (4, xI l4)] [] h (xEq none h0) := by
  unfold f_Walk_sumUp_70 at hf
  refine J_iload_n 1 dX9_sumUp_70 rfl rfl ?_
  refine J_if_lt (tgt := 127) dX9_sumUp_71 (by decide) (fun hc => ?_) (fun hc => ?_)
  · have hf := xip hc hf
    exact J_rt dX9_sumUp_127 rfl (xq_v hf)
  · have hf := xin' hc hf
    refine J_iload_n 1 dX9_sumUp_74 rfl rfl ?_
    refine J_aload_n 0 dX9_sumUp_75 rfl rfl ?_
    refine J_getRl (j := 5) xcf9 dX9_sumUp_76 kO48 (Or.inl xq336) (by decide) (by decide) rf_48_5 ?_
    refine J_alen dX9_sumUp_79 (xK_r1 kO58) (Or.inl kO58) (by decide) nA58 ?_
    refine J_ic_ge (tgt := 127) dX9_sumUp_80 (by decide) (fun hc => ?_) (fun hc => ?_)
    · have hf := xip hc hf
      refine J_iload_n 1 dX9_sumUp_83 rfl rfl ?_
      refine J_aload_n 0 dX9_sumUp_84 rfl rfl ?_
      refine J_getRl (j := 6) xcf9 dX9_sumUp_85 kO48 (Or.inl xq337) (by decide) (by decide) rf_48_6 ?_
      refine J_alen dX9_sumUp_88 (xK_r1 kO59) (Or.inl kO59) (by decide) nA59 ?_
      refine J_ic_ge (tgt := 127) dX9_sumUp_89 (by decide) (fun hc => ?_) (fun hc => ?_)
      · have hf := xip hc hf
        refine J_aload_n 0 dX9_sumUp_92 rfl rfl ?_
        refine J_getRl (j := 5) xcf9 dX9_sumUp_93 kO48 (Or.inl xq336) (by decide) (by decide) rf_48_5 ?_
        refine J_iload_n 1 dX9_sumUp_96 rfl rfl ?_
        refine J_iload_n 2 dX9_sumUp_97 rfl rfl ?_
        obtain ⟨hg, hf⟩ := xgd_e hf
        obtain ⟨h1, eh1, hf⟩ := xlet_e hf
        refine J_iast dX9_sumUp_98 (xK_r1 kO58) kO58 hg nA58 eh1 ?_
        refine J_aload_n 0 dX9_sumUp_99 rfl rfl ?_
        refine J_getRl (j := 6) xcf9 dX9_sumUp_100 kO48 (Or.inl xq337) (by decide) (by decide) rf_48_6 ?_
        refine J_iload_n 1 dX9_sumUp_103 rfl rfl ?_
        refine J_iload_n 1 dX9_sumUp_104 rfl rfl ?_
        refine J_if_le (tgt := 124) dX9_sumUp_105 (by decide) (fun hc => ?_) (fun hc => ?_)
        · have hf := xip hc hf
          refine J_iload 3 dX9_sumUp_108 rfl ?_
          refine J_aload_n 0 dX9_sumUp_110 rfl rfl ?_
          refine J_getRl (j := 6) xcf9 dX9_sumUp_111 kO48 (Or.inl xq337) (by decide) (by decide) rf_48_6 ?_
          refine J_iload_n 1 dX9_sumUp_114 rfl rfl ?_
          refine J_iconst dX9_sumUp_115 (by decide) ?_
          refine J_isub dX9_sumUp_116 ?_
          obtain ⟨hg, hf⟩ := xgd_e hf
          refine J_iald dX9_sumUp_117 (xK_r1 kO59) kO59 hg nA59 ?_
          refine J_mmin dX9_sumUp_118 ⟨xq764, xq542, xq129, xq543⟩ (xbl rfl) (xbl rfl) ?_
          refine J_goto (tgt := 126) dX9_sumUp_121 (by decide) ?_
          refine J_sub [] rfl ?_
          exact j_Walk_sumUp_126  hf
        · have hf := xin' hc hf
          refine J_iload 3 dX9_sumUp_124 rfl ?_
          refine J_sub [] rfl ?_
          exact j_Walk_sumUp_126  hf
      · have hf := xin' hc hf
        exact J_rt dX9_sumUp_127 rfl (xq_v hf)
    · have hf := xin' hc hf
      exact J_rt dX9_sumUp_127 rfl (xq_v hf)
theorem j_Walk_sumUp_55 {l1 : Int} {l2 : Int} {l3 : Int} {l5 : Int} {s0 : Int} {h : xH} {x : ((Int × Int × Int) ⊕ (Int × Int))} {Q : xQ} (kl2 : xK l2 = 3 + 4) (hf : f_Walk_sumUp_55 l1 l2 l3 l5 s0 h = some x) (kb : ∀ (l3' : Int) (l4' : Int) (l5' : Int), x = Sum.inl (l3', l4', l5') → J mX9_sumUp true 0 0 10 xKn [(0, xR 48), (1, xI l1), (2, xR l2), (3, xI l3'), (4, xI l4'), (5, xI l5')] [] h Q) (ke : ∀ (l3' : Int) (l4' : Int), x = (Sum.inr (l3', l4')) → J mX9_sumUp true 0 0 70 xKn [(0, xR 48), (1, xI l1), (3, xI l3'), (4, xI l4')] [] h Q) : J mX9_sumUp true 0 0 55 xKn [(0, xR 48), (1, xI l1), (2, xR l2), (3, xI l3), (5, xI l5)] [xI s0] h Q := by
  unfold f_Walk_sumUp_55 at hf
  refine J_istore (ls' := [(4, xI s0), (0, xR 48), (1, xI l1), (2, xR l2), (3, xI l3), (5, xI l5)]) dX9_sumUp_55 (by decide) rfl rfl ?_
  refine J_iload_n 4 dX9_sumUp_57 rfl rfl ?_
  refine J_iload 0 dX9_sumUp_58 rfl ?_
  refine J_mmin dX9_sumUp_60 ⟨xq764, xq542, xq129, xq543⟩ (xbl rfl) (xbl rfl) ?_
  obtain ⟨x1, ex1, hf⟩ := xlet_e hf
  refine J_istore_n (ls' := [(3, xI x1), (4, xI s0), (0, xR 48), (1, xI l1), (2, xR l2), (5, xI l5)]) dX9_sumUp_63 rfl (by decide) ex1 rfl ?_
  obtain ⟨x2, ex2, hf⟩ := xlet_e hf
  refine J_iinc (ls' := [(5, xI x2), (3, xI x1), (4, xI s0), (0, xR 48), (1, xI l1), (2, xR l2)]) 5 dX9_sumUp_64 rfl (by decide) ex2 rfl ?_
  refine J_goto (tgt := 10) dX9_sumUp_67 (by decide) ?_
  refine J_sub [3, 4, 5, 1, 2, 0] rfl ?_
  exact kb _ _ _ (xinl hf)
theorem j_Walk_sumUp_53 {l1 : Int} {l2 : Int} {l3 : Int} {l5 : Int} {h : xH} {x : ((Int × Int × Int) ⊕ (Int × Int))} {Q : xQ} (kl2 : xK l2 = 3 + 4) (hf : f_Walk_sumUp_53 l1 l2 l3 l5 h = some x) (kb : ∀ (l3' : Int) (l4' : Int) (l5' : Int), x = Sum.inl (l3', l4', l5') → J mX9_sumUp true 0 0 10 xKn [(0, xR 48), (1, xI l1), (2, xR l2), (3, xI l3'), (4, xI l4'), (5, xI l5')] [] h Q) (ke : ∀ (l3' : Int) (l4' : Int), x = (Sum.inr (l3', l4')) → J mX9_sumUp true 0 0 70 xKn [(0, xR 48), (1, xI l1), (3, xI l3'), (4, xI l4')] [] h Q) : J mX9_sumUp true 0 0 53 xKn [(0, xR 48), (1, xI l1), (2, xR l2), (3, xI l3), (5, xI l5)] [] h Q := by
  unfold f_Walk_sumUp_53 at hf
  refine J_ldc (v := 1000000) dX9_sumUp_53 xq747 (by decide) ?_
  exact j_Walk_sumUp_55 kl2 hf kb ke
theorem j_Walk_sumUp_s10 {l1 : Int} {l2 : Int} {l3 : Int} {l4 : Int} {l5 : Int} {h : xH} {x : ((Int × Int × Int) ⊕ (Int × Int))} {Q : xQ} (kl2 : xK l2 = 3 + 4) (hf : f_Walk_sumUp_s10 l1 l2 l3 l4 l5 h = some x) (kb : ∀ (l3' : Int) (l4' : Int) (l5' : Int), x = Sum.inl (l3', l4', l5') → J mX9_sumUp true 0 0 10 xKn [(0, xR 48), (1, xI l1), (2, xR l2), (3, xI l3'), (4, xI l4'), (5, xI l5')] [] h Q) (ke : ∀ (l3' : Int) (l4' : Int), x = (Sum.inr (l3', l4')) → J mX9_sumUp true 0 0 70 xKn [(0, xR 48), (1, xI l1), (3, xI l3'), (4, xI l4')] [] h Q) : J mX9_sumUp true 0 0 10 xKn [(0, xR 48), (1, xI l1), (2, xR l2), (3, xI l3), (4, xI l4), (5, xI l5)] [] h Q := by
  unfold f_Walk_sumUp_s10 at hf
  refine J_iload 5 dX9_sumUp_10 rfl ?_
  refine J_aload_n 2 dX9_sumUp_12 rfl rfl ?_
  refine J_getI (j := 1) xcf4 dX9_sumUp_13 (xK_rg kl2) kl2 (Or.inr ⟨_, xq249⟩) (by decide) (by decide) ?_
  refine J_ic_gt (tgt := 70) dX9_sumUp_16 (by decide) (fun hc => ?_) (fun hc => ?_)
  · have hf := xip hc hf
    refine J_sub [0, 1, 3, 4] rfl ?_
    exact ke _ _ (xinl hf)
  · have hf := xin' hc hf
    refine J_iload_n 1 dX9_sumUp_19 rfl rfl ?_
    refine J_bip dX9_sumUp_20 (by decide) ?_
    refine J_imul dX9_sumUp_22 ?_
    refine J_iload 5 dX9_sumUp_23 rfl ?_
    refine J_iadd dX9_sumUp_25 ?_
    obtain ⟨x1, ex1, hf⟩ := xlet_e hf
    refine J_istore (ls' := [(6, xI x1), (0, xR 48), (1, xI l1), (2, xR l2), (3, xI l3), (4, xI l4), (5, xI l5)]) dX9_sumUp_26 (by decide) ex1 rfl ?_
    refine J_iload 0 dX9_sumUp_28 rfl ?_
    refine J_if_lt (tgt := 53) dX9_sumUp_30 (by decide) (fun hc => ?_) (fun hc => ?_)
    · have hf := xip hc hf
      refine J_sub [1, 2, 3, 4, 6] rfl ?_
      exact j_Walk_sumUp_53 kl2 hf kb ke
    · have hf := xin' hc hf
      refine J_iload 0 dX9_sumUp_33 rfl ?_
      refine J_aload_n 1 dX9_sumUp_35 rfl rfl ?_
      refine J_getRl (j := 4) xcf9 dX9_sumUp_36 kO48 (Or.inl xq335) (by decide) (by decide) rf_48_4 ?_
      refine J_alen dX9_sumUp_39 (xK_r1 kO57) (Or.inl kO57) (by decide) nA57 ?_
      refine J_ic_ge (tgt := 53) dX9_sumUp_40 (by decide) (fun hc => ?_) (fun hc => ?_)
      · have hf := xip hc hf
        refine J_aload_n 1 dX9_sumUp_43 rfl rfl ?_
        refine J_getRl (j := 4) xcf9 dX9_sumUp_44 kO48 (Or.inl xq335) (by decide) (by decide) rf_48_4 ?_
        refine J_iload 0 dX9_sumUp_47 rfl ?_
        obtain ⟨hg, hf⟩ := xgd_e hf
        refine J_iald dX9_sumUp_49 (xK_r1 kO57) kO57 hg nA57 ?_
        refine J_goto (tgt := 55) dX9_sumUp_50 (by decide) ?_
        refine J_sub [1, 2, 3, 4, 6] rfl ?_
        exact j_Walk_sumUp_55 kl2 hf kb ke
      · have hf := xin' hc hf
        refine J_sub [1, 2, 3, 4, 6] rfl ?_
        exact j_Walk_sumUp_53 kl2 hf kb ke
theorem j_Walk_sumUp_10 {l1 : Int} {l2 : Int} {l3 : Int} {l4 : Int} {l5 : Int} {h : xH} {h0 : xH} (kl2 : xK l2 = 3 + 4) (hf : f_Walk_sumUp_10 l1 l2 l3 l4 l5 h = some h0)  : J mX9_sumUp true 0 0 10 xKn [(0, xR 48), (1, xI l1), (2, xR l2), (3, xI l3), (4, xI l4), (5, xI l5)] [] h (xEq none h0) := by
  unfold f_Walk_sumUp_10 at hf
  obtain ⟨b0, hb0, hf⟩ := xc1_e hf
  refine xloop_ind (P := fun s : (Int × Int × Int) => J mX9_sumUp true 0 0 10 xKn [(0, xR 48), (1, xI l1), (2, xR l2), (3, xI s.1), (4, xI s.2.1), (5, xI s.2.2)] [] h (xEq none h0)) hb0 (fun s x1 hs ib ie => ?_)
  exact j_Walk_sumUp_s10 kl2 hs (fun _ _ _ e => ib _ e) (fun _ _ e => by have := ie _ e; subst this; exact j_Walk_sumUp_70  hf)
theorem jm_Walk_sumUp {l1 : Int} {l2 : Int} {h : xH} {h0 : xH} (kl2 : xK l2 = 3 + 4) (hf : f_Walk_sumUp l1 l2 h = some h0) : J mX9_sumUp true 0 0 0 xKn (xen 0 [xR 48, xI l1, xR l2]) [] h (xEq none h0) := by
  unfold f_Walk_sumUp at hf
  refine J_cong (ls2 := [(0, xR 48), (1, xI l1), (2, xR l2)]) (st2 := []) rfl rfl ?_
  refine J_ldc (v := 1000000) dX9_sumUp_0 xq747 (by decide) ?_
  refine J_istore_n (ls' := [(3, xI 1000000), (0, xR 48), (1, xI l1), (2, xR l2)]) dX9_sumUp_2 rfl (by decide) rfl rfl ?_
  refine J_ldc (v := 1000000) dX9_sumUp_3 xq747 (by decide) ?_
  refine J_istore (ls' := [(4, xI 1000000), (3, xI 1000000), (0, xR 48), (1, xI l1), (2, xR l2)]) dX9_sumUp_5 (by decide) rfl rfl ?_
  refine J_iconst dX9_sumUp_7 (by decide) ?_
  refine J_istore (ls' := [(5, xI 0), (4, xI 1000000), (3, xI 1000000), (0, xR 48), (1, xI l1), (2, xR l2)]) dX9_sumUp_8 (by decide) rfl rfl ?_
  refine J_sub [3, 4, 5, 2, 1, 0] rfl ?_
  exact j_Walk_sumUp_10 kl2 hf
theorem dX9_isLeft_0 : decode cX9_isLeft 0 = .ok (.iload_n 1, 1) := by decide +kernel
theorem dX9_isLeft_1 : decode cX9_isLeft 1 = .ok (.iconst 2, 1) := by decide +kernel
theorem dX9_isLeft_2 : decode cX9_isLeft 2 = .ok (.isub, 1) := by decide +kernel
theorem dX9_isLeft_3 : decode cX9_isLeft 3 = .ok (.iconst 0, 1) := by decide +kernel
theorem dX9_isLeft_4 : decode cX9_isLeft 4 = .ok (.invokestatic 85, 3) := by decide +kernel
theorem dX9_isLeft_7 : decode cX9_isLeft 7 = .ok (.istore_n 3, 1) := by decide +kernel
theorem dX9_isLeft_8 : decode cX9_isLeft 8 = .ok (.iload_n 3, 1) := by decide +kernel
theorem dX9_isLeft_9 : decode cX9_isLeft 9 = .ok (.iload_n 1, 1) := by decide +kernel
theorem dX9_isLeft_10 : decode cX9_isLeft 10 = .ok (.if_icmp .gt 30, 3) := by decide +kernel
theorem dX9_isLeft_13 : decode cX9_isLeft 13 = .ok (.iload_n 3, 1) := by decide +kernel
theorem dX9_isLeft_14 : decode cX9_isLeft 14 = .ok (.aload_n 0, 1) := by decide +kernel
theorem dX9_isLeft_15 : decode cX9_isLeft 15 = .ok (.getfield 29, 3) := by decide +kernel
theorem dX9_isLeft_18 : decode cX9_isLeft 18 = .ok (.arraylength, 1) := by decide +kernel
theorem dX9_isLeft_19 : decode cX9_isLeft 19 = .ok (.if_icmp .ge 21, 3) := by decide +kernel
theorem dX9_isLeft_22 : decode cX9_isLeft 22 = .ok (.aload_n 0, 1) := by decide +kernel
theorem dX9_isLeft_23 : decode cX9_isLeft 23 = .ok (.getfield 29, 3) := by decide +kernel
theorem dX9_isLeft_26 : decode cX9_isLeft 26 = .ok (.iload_n 3, 1) := by decide +kernel
theorem dX9_isLeft_27 : decode cX9_isLeft 27 = .ok (.iaload, 1) := by decide +kernel
theorem dX9_isLeft_28 : decode cX9_isLeft 28 = .ok (.iload_n 2, 1) := by decide +kernel
theorem dX9_isLeft_29 : decode cX9_isLeft 29 = .ok (.if_icmp .gt 5, 3) := by decide +kernel
theorem dX9_isLeft_32 : decode cX9_isLeft 32 = .ok (.iconst 0, 1) := by decide +kernel
theorem dX9_isLeft_33 : decode cX9_isLeft 33 = .ok (.ireturn, 1) := by decide +kernel
theorem dX9_isLeft_34 : decode cX9_isLeft 34 = .ok (.iinc 3 1, 3) := by decide +kernel
theorem dX9_isLeft_37 : decode cX9_isLeft 37 = .ok (.goto (-29), 3) := by decide +kernel
theorem dX9_isLeft_40 : decode cX9_isLeft 40 = .ok (.iconst 1, 1) := by decide +kernel
theorem dX9_isLeft_41 : decode cX9_isLeft 41 = .ok (.ireturn, 1) := by decide +kernel
theorem j_Walk_isLeft_40  {h : xH} {r0 : Int}  (hf : f_Walk_isLeft_40 h = some r0)  : J mX9_isLeft true 0 0 40 xKn [] [] h (xEq (some r0) h) := by
  unfold f_Walk_isLeft_40 at hf
  refine J_iconst dX9_isLeft_40 (by decide) ?_
  exact J_iretz dX9_isLeft_41 rfl (by decide) (xq_p hf)
theorem j_Walk_isLeft_s8 {l1 : Int} {l2 : Int} {l3 : Int} {h : xH} {x : (Int ⊕ (Unit ⊕ Int))} {Q : xQ}  (hf : f_Walk_isLeft_s8 l1 l2 l3 h = some x) (kb : ∀ (l3' : Int), x = Sum.inl l3' → J mX9_isLeft true 0 0 8 xKn [(0, xR 48), (1, xI l1), (2, xI l2), (3, xI l3')] [] h Q) (ke : x = (Sum.inr (Sum.inl ())) → J mX9_isLeft true 0 0 40 xKn [] [] h Q) (kr : ∀ v : Int, x = (Sum.inr (Sum.inr v)) → Q (some v) xKn h) : J mX9_isLeft true 0 0 8 xKn [(0, xR 48), (1, xI l1), (2, xI l2), (3, xI l3)] [] h Q := by
  unfold f_Walk_isLeft_s8 at hf
  refine J_iload_n 3 dX9_isLeft_8 rfl rfl ?_
  refine J_iload_n 1 dX9_isLeft_9 rfl rfl ?_
  refine J_ic_gt (tgt := 40) dX9_isLeft_10 (by decide) (fun hc => ?_) (fun hc => ?_)
  · have hf := xip hc hf
    refine J_sub [] rfl ?_
    exact ke  (xinl hf)
  · have hf := xin' hc hf
    refine J_iload_n 3 dX9_isLeft_13 rfl rfl ?_
    refine J_aload_n 0 dX9_isLeft_14 rfl rfl ?_
    refine J_getRl (j := 5) xcf9 dX9_isLeft_15 kO48 (Or.inl xq336) (by decide) (by decide) rf_48_5 ?_
    refine J_alen dX9_isLeft_18 (xK_r1 kO58) (Or.inl kO58) (by decide) nA58 ?_
    refine J_ic_ge (tgt := 40) dX9_isLeft_19 (by decide) (fun hc => ?_) (fun hc => ?_)
    · have hf := xip hc hf
      refine J_aload_n 0 dX9_isLeft_22 rfl rfl ?_
      refine J_getRl (j := 5) xcf9 dX9_isLeft_23 kO48 (Or.inl xq336) (by decide) (by decide) rf_48_5 ?_
      refine J_iload_n 3 dX9_isLeft_26 rfl rfl ?_
      obtain ⟨hg, hf⟩ := xgd_e hf
      refine J_iald dX9_isLeft_27 (xK_r1 kO58) kO58 hg nA58 ?_
      refine J_iload_n 2 dX9_isLeft_28 rfl rfl ?_
      refine J_ic_gt (tgt := 34) dX9_isLeft_29 (by decide) (fun hc => ?_) (fun hc => ?_)
      · have hf := xip hc hf
        obtain ⟨x1, ex1, hf⟩ := xlet_e hf
        refine J_iinc (ls' := [(3, xI x1), (0, xR 48), (1, xI l1), (2, xI l2)]) 3 dX9_isLeft_34 rfl (by decide) ex1 rfl ?_
        refine J_goto (tgt := 8) dX9_isLeft_37 (by decide) ?_
        refine J_sub [1, 2, 3, 0] rfl ?_
        exact kb _ (xinl hf)
      · have hf := xin' hc hf
        refine J_iconst dX9_isLeft_32 (by decide) ?_
        exact J_iretz dX9_isLeft_33 rfl (by decide) (kr _ (xinl hf))
    · have hf := xin' hc hf
      refine J_sub [] rfl ?_
      exact ke  (xinl hf)
theorem j_Walk_isLeft_8 {l1 : Int} {l2 : Int} {l3 : Int} {h : xH} {r0 : Int}  (hf : f_Walk_isLeft_8 l1 l2 l3 h = some r0)  : J mX9_isLeft true 0 0 8 xKn [(0, xR 48), (1, xI l1), (2, xI l2), (3, xI l3)] [] h (xEq (some r0) h) := by
  unfold f_Walk_isLeft_8 at hf
  obtain ⟨b0, hb0, hf⟩ := xc1_e hf
  refine xloop_ind (P := fun s : Int => J mX9_isLeft true 0 0 8 xKn [(0, xR 48), (1, xI l1), (2, xI l2), (3, xI s)] [] h (xEq (some r0) h)) hb0 (fun s x1 hs ib ie => ?_)
  exact j_Walk_isLeft_s8  hs (fun _ e => ib _ e) (fun  e => by have := ie _ e; subst this; exact j_Walk_isLeft_40  hf) (fun _ e => by have := ie _ e; subst this; exact xq_p hf)
theorem jm_Walk_isLeft {l1 : Int} {l2 : Int} {h : xH} {r0 : Int}  (hf : f_Walk_isLeft l1 l2 h = some r0) : J mX9_isLeft true 0 0 0 xKn (xen 0 [xR 48, xI l1, xI l2]) [] h (xEq (some r0) h) := by
  unfold f_Walk_isLeft at hf
  refine J_cong (ls2 := [(0, xR 48), (1, xI l1), (2, xI l2)]) (st2 := []) rfl rfl ?_
  refine J_iload_n 1 dX9_isLeft_0 rfl rfl ?_
  refine J_iconst dX9_isLeft_1 (by decide) ?_
  refine J_isub dX9_isLeft_2 ?_
  refine J_iconst dX9_isLeft_3 (by decide) ?_
  refine J_mmax dX9_isLeft_4 ⟨xq742, xq177, xq129, xq178⟩ (xbl rfl) (xbl rfl) ?_
  obtain ⟨x1, ex1, hf⟩ := xlet_e hf
  refine J_istore_n (ls' := [(3, xI x1), (0, xR 48), (1, xI l1), (2, xI l2)]) dX9_isLeft_7 rfl (by decide) ex1 rfl ?_
  refine J_sub [1, 2, 3, 0] rfl ?_
  exact j_Walk_isLeft_8  hf
theorem dX3_keep_0 : decode cX3_keep 0 = .ok (.aload_n 0, 1) := by decide +kernel
theorem dX3_keep_1 : decode cX3_keep 1 = .ok (.getfield 28, 3) := by decide +kernel
theorem dX3_keep_4 : decode cX3_keep 4 = .ok (.ifCond .lt 29, 3) := by decide +kernel
theorem dX3_keep_7 : decode cX3_keep 7 = .ok (.aload_n 0, 1) := by decide +kernel
theorem dX3_keep_8 : decode cX3_keep 8 = .ok (.getfield 28, 3) := by decide +kernel
theorem dX3_keep_11 : decode cX3_keep 11 = .ok (.sipush 2401, 3) := by decide +kernel
theorem dX3_keep_14 : decode cX3_keep 14 = .ok (.if_icmp .ge 19, 3) := by decide +kernel
theorem dX3_keep_17 : decode cX3_keep 17 = .ok (.iload_n 1, 1) := by decide +kernel
theorem dX3_keep_18 : decode cX3_keep 18 = .ok (.ifCond .lt 15, 3) := by decide +kernel
theorem dX3_keep_21 : decode cX3_keep 21 = .ok (.iload_n 1, 1) := by decide +kernel
theorem dX3_keep_22 : decode cX3_keep 22 = .ok (.iconst 1, 1) := by decide +kernel
theorem dX3_keep_23 : decode cX3_keep 23 = .ok (.iadd, 1) := by decide +kernel
theorem dX3_keep_24 : decode cX3_keep 24 = .ok (.bipush 13, 2) := by decide +kernel
theorem dX3_keep_26 : decode cX3_keep 26 = .ok (.imul, 1) := by decide +kernel
theorem dX3_keep_27 : decode cX3_keep 27 = .ok (.aload 5, 2) := by decide +kernel
theorem dX3_keep_29 : decode cX3_keep 29 = .ok (.arraylength, 1) := by decide +kernel
theorem dX3_keep_30 : decode cX3_keep 30 = .ok (.if_icmp .le 4, 3) := by decide +kernel
theorem dX3_keep_33 : decode cX3_keep 33 = .ok (.return_, 1) := by decide +kernel
theorem dX3_keep_34 : decode cX3_keep 34 = .ok (.aload_n 0, 1) := by decide +kernel
theorem dX3_keep_35 : decode cX3_keep 35 = .ok (.getfield 9, 3) := by decide +kernel
theorem dX3_keep_38 : decode cX3_keep 38 = .ok (.aload_n 0, 1) := by decide +kernel
theorem dX3_keep_39 : decode cX3_keep 39 = .ok (.getfield 28, 3) := by decide +kernel
theorem dX3_keep_42 : decode cX3_keep 42 = .ok (.iload_n 1, 1) := by decide +kernel
theorem dX3_keep_43 : decode cX3_keep 43 = .ok (.iastore, 1) := by decide +kernel
theorem dX3_keep_44 : decode cX3_keep 44 = .ok (.aload_n 0, 1) := by decide +kernel
theorem dX3_keep_45 : decode cX3_keep 45 = .ok (.getfield 15, 3) := by decide +kernel
theorem dX3_keep_48 : decode cX3_keep 48 = .ok (.aload_n 0, 1) := by decide +kernel
theorem dX3_keep_49 : decode cX3_keep 49 = .ok (.getfield 28, 3) := by decide +kernel
theorem dX3_keep_52 : decode cX3_keep 52 = .ok (.iload_n 2, 1) := by decide +kernel
theorem dX3_keep_53 : decode cX3_keep 53 = .ok (.iastore, 1) := by decide +kernel
theorem dX3_keep_54 : decode cX3_keep 54 = .ok (.aload_n 0, 1) := by decide +kernel
theorem dX3_keep_55 : decode cX3_keep 55 = .ok (.getfield 18, 3) := by decide +kernel
theorem dX3_keep_58 : decode cX3_keep 58 = .ok (.aload_n 0, 1) := by decide +kernel
theorem dX3_keep_59 : decode cX3_keep 59 = .ok (.getfield 28, 3) := by decide +kernel
theorem dX3_keep_62 : decode cX3_keep 62 = .ok (.iload_n 3, 1) := by decide +kernel
theorem dX3_keep_63 : decode cX3_keep 63 = .ok (.bastore, 1) := by decide +kernel
theorem dX3_keep_64 : decode cX3_keep 64 = .ok (.aload_n 0, 1) := by decide +kernel
theorem dX3_keep_65 : decode cX3_keep 65 = .ok (.getfield 22, 3) := by decide +kernel
theorem dX3_keep_68 : decode cX3_keep 68 = .ok (.aload_n 0, 1) := by decide +kernel
theorem dX3_keep_69 : decode cX3_keep 69 = .ok (.getfield 28, 3) := by decide +kernel
theorem dX3_keep_72 : decode cX3_keep 72 = .ok (.iload 4, 2) := by decide +kernel
theorem dX3_keep_74 : decode cX3_keep 74 = .ok (.bastore, 1) := by decide +kernel
theorem dX3_keep_75 : decode cX3_keep 75 = .ok (.aload 5, 2) := by decide +kernel
theorem dX3_keep_77 : decode cX3_keep 77 = .ok (.iload_n 1, 1) := by decide +kernel
theorem dX3_keep_78 : decode cX3_keep 78 = .ok (.bipush 13, 2) := by decide +kernel
theorem dX3_keep_80 : decode cX3_keep 80 = .ok (.imul, 1) := by decide +kernel
theorem dX3_keep_81 : decode cX3_keep 81 = .ok (.aload_n 0, 1) := by decide +kernel
theorem dX3_keep_82 : decode cX3_keep 82 = .ok (.getfield 25, 3) := by decide +kernel
theorem dX3_keep_85 : decode cX3_keep 85 = .ok (.aload_n 0, 1) := by decide +kernel
theorem dX3_keep_86 : decode cX3_keep 86 = .ok (.getfield 28, 3) := by decide +kernel
theorem dX3_keep_89 : decode cX3_keep 89 = .ok (.bipush 13, 2) := by decide +kernel
theorem dX3_keep_91 : decode cX3_keep 91 = .ok (.imul, 1) := by decide +kernel
theorem dX3_keep_92 : decode cX3_keep 92 = .ok (.aload_n 0, 1) := by decide +kernel
theorem dX3_keep_93 : decode cX3_keep 93 = .ok (.getfield 44, 3) := by decide +kernel
theorem dX3_keep_96 : decode cX3_keep 96 = .ok (.invokestatic 47, 3) := by decide +kernel
theorem dX3_keep_99 : decode cX3_keep 99 = .ok (.aload_n 0, 1) := by decide +kernel
theorem dX3_keep_100 : decode cX3_keep 100 = .ok (.dup, 1) := by decide +kernel
theorem dX3_keep_101 : decode cX3_keep 101 = .ok (.getfield 28, 3) := by decide +kernel
theorem dX3_keep_104 : decode cX3_keep 104 = .ok (.iconst 1, 1) := by decide +kernel
theorem dX3_keep_105 : decode cX3_keep 105 = .ok (.iadd, 1) := by decide +kernel
theorem dX3_keep_106 : decode cX3_keep 106 = .ok (.putfield 28, 3) := by decide +kernel
theorem dX3_keep_109 : decode cX3_keep 109 = .ok (.iload 4, 2) := by decide +kernel
theorem dX3_keep_111 : decode cX3_keep 111 = .ok (.ifCond .eq 13, 3) := by decide +kernel
theorem dX3_keep_114 : decode cX3_keep 114 = .ok (.aload_n 0, 1) := by decide +kernel
theorem dX3_keep_115 : decode cX3_keep 115 = .ok (.dup, 1) := by decide +kernel
theorem dX3_keep_116 : decode cX3_keep 116 = .ok (.getfield 32, 3) := by decide +kernel
theorem dX3_keep_119 : decode cX3_keep 119 = .ok (.iconst 1, 1) := by decide +kernel
theorem dX3_keep_120 : decode cX3_keep 120 = .ok (.iadd, 1) := by decide +kernel
theorem dX3_keep_121 : decode cX3_keep 121 = .ok (.putfield 32, 3) := by decide +kernel
theorem dX3_keep_124 : decode cX3_keep 124 = .ok (.return_, 1) := by decide +kernel
theorem jm_Met_keep {l1 : Int} {l2 : Int} {l3 : Int} {l4 : Int} {l5 : Int} {h : xH} {h0 : xH} (kl5 : xK l5 = 1) (hf : f_Met_keep l1 l2 l3 l4 l5 h = some h0) : J mX3_keep true 0 0 0 xKn (xen 0 [xR 49, xI l1, xI l2, xI l3, xI l4, xR l5]) [] h (xEq none h0) := by
  unfold f_Met_keep at hf
  refine J_cong (ls2 := [(0, xR 49), (1, xI l1), (2, xI l2), (3, xI l3), (4, xI l4), (5, xR l5)]) (st2 := []) rfl rfl ?_
  refine J_aload_n 0 dX3_keep_0 rfl rfl ?_
  refine J_getI (j := 5) xcf3 dX3_keep_1 (xK_rg kO49) kO49 (Or.inl xq304) (by decide) (by decide) ?_
  refine J_if_lt (tgt := 33) dX3_keep_4 (by decide) (fun hc => ?_) (fun hc => ?_)
  · have hf := xip hc hf
    exact J_rt dX3_keep_33 rfl (xq_v hf)
  · have hf := xin' hc hf
    refine J_aload_n 0 dX3_keep_7 rfl rfl ?_
    refine J_getI (j := 5) xcf3 dX3_keep_8 (xK_rg kO49) kO49 (Or.inl xq304) (by decide) (by decide) ?_
    refine J_sip dX3_keep_11 (by decide) ?_
    refine J_ic_ge (tgt := 33) dX3_keep_14 (by decide) (fun hc => ?_) (fun hc => ?_)
    · have hf := xip hc hf
      refine J_iload_n 1 dX3_keep_17 rfl rfl ?_
      refine J_if_lt (tgt := 33) dX3_keep_18 (by decide) (fun hc => ?_) (fun hc => ?_)
      · have hf := xip hc hf
        exact J_rt dX3_keep_33 rfl (xq_v hf)
      · have hf := xin' hc hf
        refine J_iload_n 1 dX3_keep_21 rfl rfl ?_
        refine J_iconst dX3_keep_22 (by decide) ?_
        refine J_iadd dX3_keep_23 ?_
        refine J_bip dX3_keep_24 (by decide) ?_
        refine J_imul dX3_keep_26 ?_
        refine J_aload 5 dX3_keep_27 rfl ?_
        refine J_alen dX3_keep_29 (xK_r1 kl5) (Or.inl kl5) (xNok l5) rfl ?_
        refine J_ic_le (tgt := 34) dX3_keep_30 (by decide) (fun hc => ?_) (fun hc => ?_)
        · have hf := xip hc hf
          exact J_rt dX3_keep_33 rfl (xq_v hf)
        · have hf := xin' hc hf
          refine J_aload_n 0 dX3_keep_34 rfl rfl ?_
          refine J_getRl (j := 0) xcf3 dX3_keep_35 kO49 (Or.inl xq299) (by decide) (by decide) rf_49_0 ?_
          refine J_aload_n 0 dX3_keep_38 rfl rfl ?_
          refine J_getI (j := 5) xcf3 dX3_keep_39 (xK_rg kO49) kO49 (Or.inl xq304) (by decide) (by decide) ?_
          refine J_iload_n 1 dX3_keep_42 rfl rfl ?_
          obtain ⟨hg, hf⟩ := xgd_e hf
          obtain ⟨h1, eh1, hf⟩ := xlet_e hf
          refine J_iast dX3_keep_43 (xK_r1 kO50) kO50 hg nA50 eh1 ?_
          refine J_aload_n 0 dX3_keep_44 rfl rfl ?_
          refine J_getRl (j := 1) xcf3 dX3_keep_45 kO49 (Or.inl xq300) (by decide) (by decide) rf_49_1 ?_
          refine J_aload_n 0 dX3_keep_48 rfl rfl ?_
          refine J_getI (j := 5) xcf3 dX3_keep_49 (xK_rg kO49) kO49 (Or.inl xq304) (by decide) (by decide) ?_
          refine J_iload_n 2 dX3_keep_52 rfl rfl ?_
          obtain ⟨hg, hf⟩ := xgd_e hf
          obtain ⟨h2, eh2, hf⟩ := xlet_e hf
          refine J_iast dX3_keep_53 (xK_r1 kO51) kO51 hg nA51 eh2 ?_
          refine J_aload_n 0 dX3_keep_54 rfl rfl ?_
          refine J_getRl (j := 2) xcf3 dX3_keep_55 kO49 (Or.inl xq301) (by decide) (by decide) rf_49_2 ?_
          refine J_aload_n 0 dX3_keep_58 rfl rfl ?_
          refine J_getI (j := 5) xcf3 dX3_keep_59 (xK_rg kO49) kO49 (Or.inl xq304) (by decide) (by decide) ?_
          refine J_iload_n 3 dX3_keep_62 rfl rfl ?_
          obtain ⟨hg, hf⟩ := xgd_e hf
          obtain ⟨hz, hf⟩ := xgb_e hf
          obtain ⟨h3, eh3, hf⟩ := xlet_e hf
          refine J_bast dX3_keep_63 (xK_r2 kO52) kO52 hg nA52 hz eh3 ?_
          refine J_aload_n 0 dX3_keep_64 rfl rfl ?_
          refine J_getRl (j := 3) xcf3 dX3_keep_65 kO49 (Or.inl xq302) (by decide) (by decide) rf_49_3 ?_
          refine J_aload_n 0 dX3_keep_68 rfl rfl ?_
          refine J_getI (j := 5) xcf3 dX3_keep_69 (xK_rg kO49) kO49 (Or.inl xq304) (by decide) (by decide) ?_
          refine J_iload 4 dX3_keep_72 rfl ?_
          obtain ⟨hg, hf⟩ := xgd_e hf
          obtain ⟨hz, hf⟩ := xgb_e hf
          obtain ⟨h4, eh4, hf⟩ := xlet_e hf
          refine J_bast dX3_keep_74 (xK_r2 kO53) kO53 hg nA53 hz eh4 ?_
          refine J_aload 5 dX3_keep_75 rfl ?_
          refine J_iload_n 1 dX3_keep_77 rfl rfl ?_
          refine J_bip dX3_keep_78 (by decide) ?_
          refine J_imul dX3_keep_80 ?_
          refine J_aload_n 0 dX3_keep_81 rfl rfl ?_
          refine J_getRl (j := 4) xcf3 dX3_keep_82 kO49 (Or.inl xq303) (by decide) (by decide) rf_49_4 ?_
          refine J_aload_n 0 dX3_keep_85 rfl rfl ?_
          refine J_getI (j := 5) xcf3 dX3_keep_86 (xK_rg kO49) kO49 (Or.inl xq304) (by decide) (by decide) ?_
          refine J_bip dX3_keep_89 (by decide) ?_
          refine J_imul dX3_keep_91 ?_
          refine J_aload_n 0 dX3_keep_92 rfl rfl ?_
          refine J_getI (j := 7) xcf3 dX3_keep_93 (xK_rg kO49) kO49 (Or.inl xq308) (by decide) (by decide) ?_
          obtain ⟨hg, hf⟩ := xgc_e hf
          obtain ⟨h5, eh5, hf⟩ := xlet_e hf
          refine J_copy dX3_keep_96 ⟨xq774, xq550, xq549, xq139⟩ (xK_r1 kl5) (xK_r1 kO54) kl5 kO54 hg rfl nA54 eh5 (xbl rfl) (xbl rfl) ?_
          refine J_aload_n 0 dX3_keep_99 rfl rfl ?_
          refine J_dup dX3_keep_100 rfl ?_
          refine J_getI (j := 5) xcf3 dX3_keep_101 (xK_rg kO49) kO49 (Or.inl xq304) (by decide) (by decide) ?_
          refine J_iconst dX3_keep_104 (by decide) ?_
          refine J_iadd dX3_keep_105 ?_
          obtain ⟨h6, eh6, hf⟩ := xlet_e hf
          refine J_putI (j := 5) xcf3 dX3_keep_106 (xK_rg kO49) kO49 (Or.inl xq304) (by decide) (by decide) eh6 ?_
          refine J_iload 4 dX3_keep_109 rfl ?_
          refine J_if_eq (tgt := 124) dX3_keep_111 (by decide) (fun hc => ?_) (fun hc => ?_)
          · have hf := xip hc hf
            exact J_rt dX3_keep_124 rfl (xq_v hf)
          · have hf := xin' hc hf
            refine J_aload_n 0 dX3_keep_114 rfl rfl ?_
            refine J_dup dX3_keep_115 rfl ?_
            refine J_getI (j := 6) xcf3 dX3_keep_116 (xK_rg kO49) kO49 (Or.inl xq306) (by decide) (by decide) ?_
            refine J_iconst dX3_keep_119 (by decide) ?_
            refine J_iadd dX3_keep_120 ?_
            obtain ⟨h7, eh7, hf⟩ := xlet_e hf
            refine J_putI (j := 6) xcf3 dX3_keep_121 (xK_rg kO49) kO49 (Or.inl xq306) (by decide) (by decide) eh7 ?_
            exact J_rt dX3_keep_124 rfl (xq_v hf)
    · have hf := xin' hc hf
      exact J_rt dX3_keep_33 rfl (xq_v hf)
