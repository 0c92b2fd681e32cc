/-! the machine follows the functions -/
theorem dX12_alike_0 : decode cX12_alike 0 = .ok (.iconst 0, 1) := by decide +kernel
theorem dX12_alike_1 : decode cX12_alike 1 = .ok (.istore_n 2, 1) := by decide +kernel
theorem dX12_alike_2 : decode cX12_alike 2 = .ok (.iload_n 2, 1) := by decide +kernel
theorem dX12_alike_3 : decode cX12_alike 3 = .ok (.aload_n 0, 1) := by decide +kernel
theorem dX12_alike_4 : decode cX12_alike 4 = .ok (.getfield 19, 3) := by decide +kernel
theorem dX12_alike_7 : decode cX12_alike 7 = .ok (.iload_n 1, 1) := by decide +kernel
theorem dX12_alike_8 : decode cX12_alike 8 = .ok (.iaload, 1) := by decide +kernel
theorem dX12_alike_9 : decode cX12_alike 9 = .ok (.if_icmp .ge 48, 3) := by decide +kernel
theorem dX12_alike_12 : decode cX12_alike 12 = .ok (.iload_n 2, 1) := by decide +kernel
theorem dX12_alike_13 : decode cX12_alike 13 = .ok (.aload_n 0, 1) := by decide +kernel
theorem dX12_alike_14 : decode cX12_alike 14 = .ok (.getfield 19, 3) := by decide +kernel
theorem dX12_alike_17 : decode cX12_alike 17 = .ok (.iload_n 1, 1) := by decide +kernel
theorem dX12_alike_18 : decode cX12_alike 18 = .ok (.iconst 1, 1) := by decide +kernel
theorem dX12_alike_19 : decode cX12_alike 19 = .ok (.iadd, 1) := by decide +kernel
theorem dX12_alike_20 : decode cX12_alike 20 = .ok (.iaload, 1) := by decide +kernel
theorem dX12_alike_21 : decode cX12_alike 21 = .ok (.if_icmp .ge 36, 3) := by decide +kernel
theorem dX12_alike_24 : decode cX12_alike 24 = .ok (.aload_n 0, 1) := by decide +kernel
theorem dX12_alike_25 : decode cX12_alike 25 = .ok (.getfield 22, 3) := by decide +kernel
theorem dX12_alike_28 : decode cX12_alike 28 = .ok (.bipush 12, 2) := by decide +kernel
theorem dX12_alike_30 : decode cX12_alike 30 = .ok (.iload_n 1, 1) := by decide +kernel
theorem dX12_alike_31 : decode cX12_alike 31 = .ok (.imul, 1) := by decide +kernel
theorem dX12_alike_32 : decode cX12_alike 32 = .ok (.iload_n 2, 1) := by decide +kernel
theorem dX12_alike_33 : decode cX12_alike 33 = .ok (.iadd, 1) := by decide +kernel
theorem dX12_alike_34 : decode cX12_alike 34 = .ok (.iaload, 1) := by decide +kernel
theorem dX12_alike_35 : decode cX12_alike 35 = .ok (.aload_n 0, 1) := by decide +kernel
theorem dX12_alike_36 : decode cX12_alike 36 = .ok (.getfield 22, 3) := by decide +kernel
theorem dX12_alike_39 : decode cX12_alike 39 = .ok (.bipush 12, 2) := by decide +kernel
theorem dX12_alike_41 : decode cX12_alike 41 = .ok (.iload_n 1, 1) := by decide +kernel
theorem dX12_alike_42 : decode cX12_alike 42 = .ok (.iconst 1, 1) := by decide +kernel
theorem dX12_alike_43 : decode cX12_alike 43 = .ok (.iadd, 1) := by decide +kernel
theorem dX12_alike_44 : decode cX12_alike 44 = .ok (.imul, 1) := by decide +kernel
theorem dX12_alike_45 : decode cX12_alike 45 = .ok (.iload_n 2, 1) := by decide +kernel
theorem dX12_alike_46 : decode cX12_alike 46 = .ok (.iadd, 1) := by decide +kernel
theorem dX12_alike_47 : decode cX12_alike 47 = .ok (.iaload, 1) := by decide +kernel
theorem dX12_alike_48 : decode cX12_alike 48 = .ok (.if_icmp .ne 9, 3) := by decide +kernel
theorem dX12_alike_51 : decode cX12_alike 51 = .ok (.iinc 2 1, 3) := by decide +kernel
theorem dX12_alike_54 : decode cX12_alike 54 = .ok (.goto (-52), 3) := by decide +kernel
theorem dX12_alike_57 : decode cX12_alike 57 = .ok (.iload_n 2, 1) := by decide +kernel
theorem dX12_alike_58 : decode cX12_alike 58 = .ok (.ireturn, 1) := by decide +kernel
theorem j_Md_alike_57 {l2 : Int} {h : xH} {r0 : Int}  (hf : f_Md_alike_57 l2 h = some r0)  : J mX12_alike true 0 0 57 xKn [(2, xI l2)] [] h (xEq (some r0) h) := by
  unfold f_Md_alike_57 at hf
  refine J_iload_n 0 dX12_alike_57 rfl rfl ?_
  exact J_ireti dX12_alike_58 rfl (xq_p hf)
theorem j_Md_alike_s2 {l1 : Int} {l2 : Int} {h : xH} {x : (Int ⊕ Int)} {Q : xQ}  (hf : f_Md_alike_s2 l1 l2 h = some x) (kb : ∀ (l2' : Int), x = Sum.inl l2' → J mX12_alike true 0 0 2 xKn [(0, xR 81), (1, xI l1), (2, xI l2')] [] h Q) (ke : ∀ (l2' : Int), x = (Sum.inr l2') → J mX12_alike true 0 0 57 xKn [(2, xI l2')] [] h Q) : J mX12_alike true 0 0 2 xKn [(0, xR 81), (1, xI l1), (2, xI l2)] [] h Q := by
  unfold f_Md_alike_s2 at hf
  refine J_iload_n 2 dX12_alike_2 rfl rfl ?_
  refine J_aload_n 0 dX12_alike_3 rfl rfl ?_
  refine J_getRl (j := 6) xcf12 dX12_alike_4 kO81 (Or.inl xq1026) (by decide) (by decide) rf_81_6 ?_
  refine J_iload_n 1 dX12_alike_7 rfl rfl ?_
  obtain ⟨hg, hf⟩ := xgd_e hf
  refine J_iald dX12_alike_8 (xK_r1 kO85) kO85 hg nA85 ?_
  refine J_ic_ge (tgt := 57) dX12_alike_9 (by decide) (fun hc => ?_) (fun hc => ?_)
  · have hf := xip hc hf
    refine J_iload_n 2 dX12_alike_12 rfl rfl ?_
    refine J_aload_n 0 dX12_alike_13 rfl rfl ?_
    refine J_getRl (j := 6) xcf12 dX12_alike_14 kO81 (Or.inl xq1026) (by decide) (by decide) rf_81_6 ?_
    refine J_iload_n 1 dX12_alike_17 rfl rfl ?_
    refine J_iconst dX12_alike_18 (by decide) ?_
    refine J_iadd dX12_alike_19 ?_
    obtain ⟨hg, hf⟩ := xgd_e hf
    refine J_iald dX12_alike_20 (xK_r1 kO85) kO85 hg nA85 ?_
    refine J_ic_ge (tgt := 57) dX12_alike_21 (by decide) (fun hc => ?_) (fun hc => ?_)
    · have hf := xip hc hf
      refine J_aload_n 0 dX12_alike_24 rfl rfl ?_
      refine J_getRl (j := 7) xcf12 dX12_alike_25 kO81 (Or.inl xq1027) (by decide) (by decide) rf_81_7 ?_
      refine J_bip dX12_alike_28 (by decide) ?_
      refine J_iload_n 1 dX12_alike_30 rfl rfl ?_
      refine J_imul dX12_alike_31 ?_
      refine J_iload_n 2 dX12_alike_32 rfl rfl ?_
      refine J_iadd dX12_alike_33 ?_
      obtain ⟨hg, hf⟩ := xgd_e hf
      refine J_iald dX12_alike_34 (xK_r1 kO86) kO86 hg nA86 ?_
      refine J_aload_n 0 dX12_alike_35 rfl rfl ?_
      refine J_getRl (j := 7) xcf12 dX12_alike_36 kO81 (Or.inl xq1027) (by decide) (by decide) rf_81_7 ?_
      refine J_bip dX12_alike_39 (by decide) ?_
      refine J_iload_n 1 dX12_alike_41 rfl rfl ?_
      refine J_iconst dX12_alike_42 (by decide) ?_
      refine J_iadd dX12_alike_43 ?_
      refine J_imul dX12_alike_44 ?_
      refine J_iload_n 2 dX12_alike_45 rfl rfl ?_
      refine J_iadd dX12_alike_46 ?_
      obtain ⟨hg, hf⟩ := xgd_e hf
      refine J_iald dX12_alike_47 (xK_r1 kO86) kO86 hg nA86 ?_
      refine J_ic_ne (tgt := 57) dX12_alike_48 (by decide) (fun hc => ?_) (fun hc => ?_)
      · have hf := xip hc hf
        obtain ⟨x1, ex1, hf⟩ := xlet_e hf
        refine J_iinc (ls' := [(2, xI x1), (0, xR 81), (1, xI l1)]) 2 dX12_alike_51 rfl (by decide) ex1 rfl ?_
        refine J_goto (tgt := 2) dX12_alike_54 (by decide) ?_
        refine J_sub [1, 2, 0] rfl ?_
        exact kb _ (xinl hf)
      · have hf := xin' hc hf
        refine J_sub [2] rfl ?_
        exact ke _ (xinl hf)
    · have hf := xin' hc hf
      refine J_sub [2] rfl ?_
      exact ke _ (xinl hf)
  · have hf := xin' hc hf
    refine J_sub [2] rfl ?_
    exact ke _ (xinl hf)
theorem j_Md_alike_2 {l1 : Int} {l2 : Int} {h : xH} {r0 : Int}  (hf : f_Md_alike_2 l1 l2 h = some r0)  : J mX12_alike true 0 0 2 xKn [(0, xR 81), (1, xI l1), (2, xI l2)] [] h (xEq (some r0) h) := by
  unfold f_Md_alike_2 at hf
  obtain ⟨b0, hb0, hf⟩ := xc1_e hf
  refine xloop_ind (P := fun s : Int => J mX12_alike true 0 0 2 xKn [(0, xR 81), (1, xI l1), (2, xI s)] [] h (xEq (some r0) h)) hb0 (fun s x1 hs ib ie => ?_)
  exact j_Md_alike_s2  hs (fun _ e => ib _ e) (fun _ e => by have := ie _ e; subst this; exact j_Md_alike_57  hf)
theorem jm_Md_alike {l1 : Int} {h : xH} {r0 : Int}  (hf : f_Md_alike l1 h = some r0) : J mX12_alike true 0 0 0 xKn (xen 0 [xR 81, xI l1]) [] h (xEq (some r0) h) := by
  unfold f_Md_alike at hf
  refine J_cong (ls2 := [(0, xR 81), (1, xI l1)]) (st2 := []) rfl rfl ?_
  refine J_iconst dX12_alike_0 (by decide) ?_
  refine J_istore_n (ls' := [(2, xI 0), (0, xR 81), (1, xI l1)]) dX12_alike_1 rfl (by decide) rfl rfl ?_
  refine J_sub [1, 2, 0] rfl ?_
  exact j_Md_alike_2  hf
theorem dX12_nodes_0 : decode cX12_nodes 0 = .ok (.aload_n 0, 1) := by decide +kernel
theorem dX12_nodes_1 : decode cX12_nodes 1 = .ok (.getfield 234, 3) := by decide +kernel
theorem dX12_nodes_4 : decode cX12_nodes 4 = .ok (.ifCond .ne 5, 3) := by decide +kernel
theorem dX12_nodes_7 : decode cX12_nodes 7 = .ok (.iconst 0, 1) := by decide +kernel
theorem dX12_nodes_8 : decode cX12_nodes 8 = .ok (.ireturn, 1) := by decide +kernel
theorem dX12_nodes_9 : decode cX12_nodes 9 = .ok (.iconst 1, 1) := by decide +kernel
theorem dX12_nodes_10 : decode cX12_nodes 10 = .ok (.aload_n 0, 1) := by decide +kernel
theorem dX12_nodes_11 : decode cX12_nodes 11 = .ok (.getfield 19, 3) := by decide +kernel
theorem dX12_nodes_14 : decode cX12_nodes 14 = .ok (.iconst 0, 1) := by decide +kernel
theorem dX12_nodes_15 : decode cX12_nodes 15 = .ok (.iaload, 1) := by decide +kernel
theorem dX12_nodes_16 : decode cX12_nodes 16 = .ok (.iadd, 1) := by decide +kernel
theorem dX12_nodes_17 : decode cX12_nodes 17 = .ok (.istore_n 1, 1) := by decide +kernel
theorem dX12_nodes_18 : decode cX12_nodes 18 = .ok (.iconst 0, 1) := by decide +kernel
theorem dX12_nodes_19 : decode cX12_nodes 19 = .ok (.istore_n 2, 1) := by decide +kernel
theorem dX12_nodes_20 : decode cX12_nodes 20 = .ok (.iload_n 2, 1) := by decide +kernel
theorem dX12_nodes_21 : decode cX12_nodes 21 = .ok (.iconst 1, 1) := by decide +kernel
theorem dX12_nodes_22 : decode cX12_nodes 22 = .ok (.iadd, 1) := by decide +kernel
theorem dX12_nodes_23 : decode cX12_nodes 23 = .ok (.aload_n 0, 1) := by decide +kernel
theorem dX12_nodes_24 : decode cX12_nodes 24 = .ok (.getfield 234, 3) := by decide +kernel
theorem dX12_nodes_27 : decode cX12_nodes 27 = .ok (.if_icmp .ge 26, 3) := by decide +kernel
theorem dX12_nodes_30 : decode cX12_nodes 30 = .ok (.iload_n 1, 1) := by decide +kernel
theorem dX12_nodes_31 : decode cX12_nodes 31 = .ok (.aload_n 0, 1) := by decide +kernel
theorem dX12_nodes_32 : decode cX12_nodes 32 = .ok (.getfield 19, 3) := by decide +kernel
theorem dX12_nodes_35 : decode cX12_nodes 35 = .ok (.iload_n 2, 1) := by decide +kernel
theorem dX12_nodes_36 : decode cX12_nodes 36 = .ok (.iconst 1, 1) := by decide +kernel
theorem dX12_nodes_37 : decode cX12_nodes 37 = .ok (.iadd, 1) := by decide +kernel
theorem dX12_nodes_38 : decode cX12_nodes 38 = .ok (.iaload, 1) := by decide +kernel
theorem dX12_nodes_39 : decode cX12_nodes 39 = .ok (.aload_n 0, 1) := by decide +kernel
theorem dX12_nodes_40 : decode cX12_nodes 40 = .ok (.iload_n 2, 1) := by decide +kernel
theorem dX12_nodes_41 : decode cX12_nodes 41 = .ok (.invokevirtual 258, 3) := by decide +kernel
theorem dX12_nodes_44 : decode cX12_nodes 44 = .ok (.isub, 1) := by decide +kernel
theorem dX12_nodes_45 : decode cX12_nodes 45 = .ok (.iadd, 1) := by decide +kernel
theorem dX12_nodes_46 : decode cX12_nodes 46 = .ok (.istore_n 1, 1) := by decide +kernel
theorem dX12_nodes_47 : decode cX12_nodes 47 = .ok (.iinc 2 1, 3) := by decide +kernel
theorem dX12_nodes_50 : decode cX12_nodes 50 = .ok (.goto (-30), 3) := by decide +kernel
theorem dX12_nodes_53 : decode cX12_nodes 53 = .ok (.iload_n 1, 1) := by decide +kernel
theorem dX12_nodes_54 : decode cX12_nodes 54 = .ok (.ireturn, 1) := by decide +kernel
theorem j_Md_nodes_53 {l1 : Int} {h : xH} {r0 : Int}  (hf : f_Md_nodes_53 l1 h = some r0)  : J mX12_nodes true 0 0 53 xKn [(1, xI l1)] [] h (xEq (some r0) h) := by
  unfold f_Md_nodes_53 at hf
  refine J_iload_n 0 dX12_nodes_53 rfl rfl ?_
  exact J_ireti dX12_nodes_54 rfl (xq_p hf)
theorem j_Md_nodes_s20 {l1 : Int} {l2 : Int} {h : xH} {x : ((Int × Int) ⊕ Int)} {Q : xQ}  (hf : f_Md_nodes_s20 l1 l2 h = some x) (kb : ∀ (l1' : Int) (l2' : Int), x = Sum.inl (l1', l2') → J mX12_nodes true 0 0 20 xKn [(0, xR 81), (1, xI l1'), (2, xI l2')] [] h Q) (ke : ∀ (l1' : Int), x = (Sum.inr l1') → J mX12_nodes true 0 0 53 xKn [(1, xI l1')] [] h Q) : J mX12_nodes true 0 0 20 xKn [(0, xR 81), (1, xI l1), (2, xI l2)] [] h Q := by
  unfold f_Md_nodes_s20 at hf
  refine J_iload_n 2 dX12_nodes_20 rfl rfl ?_
  refine J_iconst dX12_nodes_21 (by decide) ?_
  refine J_iadd dX12_nodes_22 ?_
  refine J_aload_n 0 dX12_nodes_23 rfl rfl ?_
  refine J_getI (j := 5) xcf12 dX12_nodes_24 (xK_rg kO81) kO81 (Or.inl xq1025) (by decide) (by decide) ?_
  refine J_ic_ge (tgt := 53) dX12_nodes_27 (by decide) (fun hc => ?_) (fun hc => ?_)
  · have hf := xip hc hf
    refine J_iload_n 1 dX12_nodes_30 rfl rfl ?_
    refine J_aload_n 0 dX12_nodes_31 rfl rfl ?_
    refine J_getRl (j := 6) xcf12 dX12_nodes_32 kO81 (Or.inl xq1026) (by decide) (by decide) rf_81_6 ?_
    refine J_iload_n 2 dX12_nodes_35 rfl rfl ?_
    refine J_iconst dX12_nodes_36 (by decide) ?_
    refine J_iadd dX12_nodes_37 ?_
    obtain ⟨hg, hf⟩ := xgd_e hf
    refine J_iald dX12_nodes_38 (xK_r1 kO85) kO85 hg nA85 ?_
    refine J_aload_n 0 dX12_nodes_39 rfl rfl ?_
    refine J_iload_n 2 dX12_nodes_40 rfl rfl ?_
    obtain ⟨r1, hq, hf⟩ := xc1_e hf
    refine J_cVi (Mc := mX12_alike) [xI l2] dX12_nodes_41 (fc_Md_alike.fit ⟨xbl rfl, xbl rfl⟩) rfl ⟨Or.inl xq1334, xq1336, xq95⟩ kO81 (ci := 12) rfl rfl (xbl rfl) (xbl rfl) (jm_Md_alike  hq) ?_
    refine J_isub dX12_nodes_44 ?_
    refine J_iadd dX12_nodes_45 ?_
    obtain ⟨x2, ex2, hf⟩ := xlet_e hf
    refine J_istore_n (ls' := [(1, xI x2), (0, xR 81), (2, xI l2)]) dX12_nodes_46 rfl (by decide) ex2 rfl ?_
    obtain ⟨x3, ex3, hf⟩ := xlet_e hf
    refine J_iinc (ls' := [(2, xI x3), (1, xI x2), (0, xR 81)]) 2 dX12_nodes_47 rfl (by decide) ex3 rfl ?_
    refine J_goto (tgt := 20) dX12_nodes_50 (by decide) ?_
    refine J_sub [2, 1, 0] rfl ?_
    exact kb _ _ (xinl hf)
  · have hf := xin' hc hf
    refine J_sub [1] rfl ?_
    exact ke _ (xinl hf)
theorem j_Md_nodes_20 {l1 : Int} {l2 : Int} {h : xH} {r0 : Int}  (hf : f_Md_nodes_20 l1 l2 h = some r0)  : J mX12_nodes true 0 0 20 xKn [(0, xR 81), (1, xI l1), (2, xI l2)] [] h (xEq (some r0) h) := by
  unfold f_Md_nodes_20 at hf
  obtain ⟨b0, hb0, hf⟩ := xc1_e hf
  refine xloop_ind (P := fun s : (Int × Int) => J mX12_nodes true 0 0 20 xKn [(0, xR 81), (1, xI s.1), (2, xI s.2)] [] h (xEq (some r0) h)) hb0 (fun s x1 hs ib ie => ?_)
  exact j_Md_nodes_s20  hs (fun _ _ e => ib _ e) (fun _ e => by have := ie _ e; subst this; exact j_Md_nodes_53  hf)
theorem jm_Md_nodes  {h : xH} {r0 : Int}  (hf : f_Md_nodes h = some r0) : J mX12_nodes true 0 0 0 xKn (xen 0 [xR 81]) [] h (xEq (some r0) h) := by
  unfold f_Md_nodes at hf
  refine J_cong (ls2 := [(0, xR 81)]) (st2 := []) rfl rfl ?_
  refine J_aload_n 0 dX12_nodes_0 rfl rfl ?_
  refine J_getI (j := 5) xcf12 dX12_nodes_1 (xK_rg kO81) kO81 (Or.inl xq1025) (by decide) (by decide) ?_
  refine J_if_ne (tgt := 9) dX12_nodes_4 (by decide) (fun hc => ?_) (fun hc => ?_)
  · have hf := xip hc hf
    refine J_iconst dX12_nodes_7 (by decide) ?_
    exact J_ireti dX12_nodes_8 rfl (xq_p hf)
  · have hf := xin' hc hf
    refine J_iconst dX12_nodes_9 (by decide) ?_
    refine J_aload_n 0 dX12_nodes_10 rfl rfl ?_
    refine J_getRl (j := 6) xcf12 dX12_nodes_11 kO81 (Or.inl xq1026) (by decide) (by decide) rf_81_6 ?_
    refine J_iconst dX12_nodes_14 (by decide) ?_
    obtain ⟨hg, hf⟩ := xgd_e hf
    refine J_iald dX12_nodes_15 (xK_r1 kO85) kO85 hg nA85 ?_
    refine J_iadd dX12_nodes_16 ?_
    obtain ⟨x1, ex1, hf⟩ := xlet_e hf
    refine J_istore_n (ls' := [(1, xI x1), (0, xR 81)]) dX12_nodes_17 rfl (by decide) ex1 rfl ?_
    refine J_iconst dX12_nodes_18 (by decide) ?_
    refine J_istore_n (ls' := [(2, xI 0), (1, xI x1), (0, xR 81)]) dX12_nodes_19 rfl (by decide) rfl rfl ?_
    refine J_sub [2, 1, 0] rfl ?_
    exact j_Md_nodes_20  hf
theorem dX12_count_0 : decode cX12_count 0 = .ok (.iload_n 1, 1) := by decide +kernel
theorem dX12_count_1 : decode cX12_count 1 = .ok (.tableswitch 87 0 7 #[47, 52, 57, 62, 67, 72, 77, 82], 47) := by decide +kernel
theorem dX12_count_48 : decode cX12_count 48 = .ok (.aload_n 0, 1) := by decide +kernel
theorem dX12_count_49 : decode cX12_count 49 = .ok (.getfield 234, 3) := by decide +kernel
theorem dX12_count_52 : decode cX12_count 52 = .ok (.ireturn, 1) := by decide +kernel
theorem dX12_count_53 : decode cX12_count 53 = .ok (.aload_n 0, 1) := by decide +kernel
theorem dX12_count_54 : decode cX12_count 54 = .ok (.invokevirtual 262, 3) := by decide +kernel
theorem dX12_count_57 : decode cX12_count 57 = .ok (.ireturn, 1) := by decide +kernel
theorem dX12_count_58 : decode cX12_count 58 = .ok (.aload_n 0, 1) := by decide +kernel
theorem dX12_count_59 : decode cX12_count 59 = .ok (.getfield 266, 3) := by decide +kernel
theorem dX12_count_62 : decode cX12_count 62 = .ok (.ireturn, 1) := by decide +kernel
theorem dX12_count_63 : decode cX12_count 63 = .ok (.aload_n 0, 1) := by decide +kernel
theorem dX12_count_64 : decode cX12_count 64 = .ok (.getfield 269, 3) := by decide +kernel
theorem dX12_count_67 : decode cX12_count 67 = .ok (.ireturn, 1) := by decide +kernel
theorem dX12_count_68 : decode cX12_count 68 = .ok (.aload_n 0, 1) := by decide +kernel
theorem dX12_count_69 : decode cX12_count 69 = .ok (.getfield 219, 3) := by decide +kernel
theorem dX12_count_72 : decode cX12_count 72 = .ok (.ireturn, 1) := by decide +kernel
theorem dX12_count_73 : decode cX12_count 73 = .ok (.aload_n 0, 1) := by decide +kernel
theorem dX12_count_74 : decode cX12_count 74 = .ok (.getfield 272, 3) := by decide +kernel
theorem dX12_count_77 : decode cX12_count 77 = .ok (.ireturn, 1) := by decide +kernel
theorem dX12_count_78 : decode cX12_count 78 = .ok (.aload_n 0, 1) := by decide +kernel
theorem dX12_count_79 : decode cX12_count 79 = .ok (.getfield 275, 3) := by decide +kernel
theorem dX12_count_82 : decode cX12_count 82 = .ok (.ireturn, 1) := by decide +kernel
theorem dX12_count_83 : decode cX12_count 83 = .ok (.aload_n 0, 1) := by decide +kernel
theorem dX12_count_84 : decode cX12_count 84 = .ok (.getfield 278, 3) := by decide +kernel
theorem dX12_count_87 : decode cX12_count 87 = .ok (.ireturn, 1) := by decide +kernel
theorem dX12_count_88 : decode cX12_count 88 = .ok (.bipush (-2), 2) := by decide +kernel
theorem dX12_count_90 : decode cX12_count 90 = .ok (.ireturn, 1) := by decide +kernel
theorem jm_Md_count {l1 : Int} {h : xH} {r0 : Int}  (hf : f_Md_count l1 h = some r0) : J mX12_count true 0 0 0 xKn (xen 0 [xR 81, xI l1]) [] h (xEq (some r0) h) := by
  unfold f_Md_count at hf
  refine J_cong (ls2 := [(0, xR 81), (1, xI l1)]) (st2 := []) rfl rfl ?_
  refine J_iload_n 1 dX12_count_0 rfl rfl ?_
  refine J_by (c := l1 = 0) (fun hc0 => ?_) (fun hc0 => ?_)
  · have hf := xip hc0 hf
    refine J_tswIn (tgt := 48) dX12_count_1 0 hc0 (by decide) (by decide) rfl (by decide) ?_
    refine J_aload_n 0 dX12_count_48 rfl rfl ?_
    refine J_getI (j := 5) xcf12 dX12_count_49 (xK_rg kO81) kO81 (Or.inl xq1025) (by decide) (by decide) ?_
    exact J_ireti dX12_count_52 rfl (xq_p hf)
  · have hf := xin' hc0 hf
    refine J_by (c := l1 = 1) (fun hc1 => ?_) (fun hc1 => ?_)
    · have hf := xip hc1 hf
      refine J_tswIn (tgt := 53) dX12_count_1 1 hc1 (by decide) (by decide) rfl (by decide) ?_
      refine J_aload_n 0 dX12_count_53 rfl rfl ?_
      obtain ⟨r1, hq, hf⟩ := xc1_e hf
      refine J_cVi (Mc := mX12_nodes) [] dX12_count_54 (fc_Md_nodes.fit ⟨xbl rfl, xbl rfl⟩) rfl ⟨Or.inl xq1330, xq1332, xq94⟩ kO81 (ci := 12) rfl rfl (xbl rfl) (xbl rfl) (jm_Md_nodes  hq) ?_
      exact J_ireti dX12_count_57 rfl (xq_p hf)
    · have hf := xin' hc1 hf
      refine J_by (c := l1 = 2) (fun hc2 => ?_) (fun hc2 => ?_)
      · have hf := xip hc2 hf
        refine J_tswIn (tgt := 58) dX12_count_1 2 hc2 (by decide) (by decide) rfl (by decide) ?_
        refine J_aload_n 0 dX12_count_58 rfl rfl ?_
        refine J_getI (j := 16) xcf12 dX12_count_59 (xK_rg kO81) kO81 (Or.inl xq1036) (by decide) (by decide) ?_
        exact J_ireti dX12_count_62 rfl (xq_p hf)
      · have hf := xin' hc2 hf
        refine J_by (c := l1 = 3) (fun hc3 => ?_) (fun hc3 => ?_)
        · have hf := xip hc3 hf
          refine J_tswIn (tgt := 63) dX12_count_1 3 hc3 (by decide) (by decide) rfl (by decide) ?_
          refine J_aload_n 0 dX12_count_63 rfl rfl ?_
          refine J_getI (j := 61) xcf12 dX12_count_64 (xK_rg kO81) kO81 (Or.inl xq1081) (by decide) (by decide) ?_
          exact J_ireti dX12_count_67 rfl (xq_p hf)
        · have hf := xin' hc3 hf
          refine J_by (c := l1 = 4) (fun hc4 => ?_) (fun hc4 => ?_)
          · have hf := xip hc4 hf
            refine J_tswIn (tgt := 68) dX12_count_1 4 hc4 (by decide) (by decide) rfl (by decide) ?_
            refine J_aload_n 0 dX12_count_68 rfl rfl ?_
            refine J_getI (j := 1) xcf12 dX12_count_69 (xK_rg kO81) kO81 (Or.inl xq1021) (by decide) (by decide) ?_
            exact J_ireti dX12_count_72 rfl (xq_p hf)
          · have hf := xin' hc4 hf
            refine J_by (c := l1 = 5) (fun hc5 => ?_) (fun hc5 => ?_)
            · have hf := xip hc5 hf
              refine J_tswIn (tgt := 73) dX12_count_1 5 hc5 (by decide) (by decide) rfl (by decide) ?_
              refine J_aload_n 0 dX12_count_73 rfl rfl ?_
              refine J_getI (j := 39) xcf12 dX12_count_74 (xK_rg kO81) kO81 (Or.inl xq1059) (by decide) (by decide) ?_
              exact J_ireti dX12_count_77 rfl (xq_p hf)
            · have hf := xin' hc5 hf
              refine J_by (c := l1 = 6) (fun hc6 => ?_) (fun hc6 => ?_)
              · have hf := xip hc6 hf
                refine J_tswIn (tgt := 78) dX12_count_1 6 hc6 (by decide) (by decide) rfl (by decide) ?_
                refine J_aload_n 0 dX12_count_78 rfl rfl ?_
                refine J_getI (j := 40) xcf12 dX12_count_79 (xK_rg kO81) kO81 (Or.inl xq1060) (by decide) (by decide) ?_
                exact J_ireti dX12_count_82 rfl (xq_p hf)
              · have hf := xin' hc6 hf
                refine J_by (c := l1 = 7) (fun hc7 => ?_) (fun hc7 => ?_)
                · have hf := xip hc7 hf
                  refine J_tswIn (tgt := 83) dX12_count_1 7 hc7 (by decide) (by decide) rfl (by decide) ?_
                  refine J_aload_n 0 dX12_count_83 rfl rfl ?_
                  refine J_getI (j := 53) xcf12 dX12_count_84 (xK_rg kO81) kO81 (Or.inl xq1073) (by decide) (by decide) ?_
                  exact J_ireti dX12_count_87 rfl (xq_p hf)
                · have hf := xin' hc7 hf
                  refine J_tswOut (tgt := 88) dX12_count_1 (by omega) (by decide) ?_
                  refine J_bip dX12_count_88 (by decide) ?_
                  exact J_ireti dX12_count_90 rfl (xq_p hf)
theorem dX12_price_0 : decode cX12_price 0 = .ok (.iload_n 2, 1) := by decide +kernel
theorem dX12_price_1 : decode cX12_price 1 = .ok (.iconst (-1), 1) := by decide +kernel
theorem dX12_price_2 : decode cX12_price 2 = .ok (.if_icmp .ne 97, 3) := by decide +kernel
theorem dX12_price_5 : decode cX12_price 5 = .ok (.iload_n 3, 1) := by decide +kernel
theorem dX12_price_6 : decode cX12_price 6 = .ok (.iconst (-1), 1) := by decide +kernel
theorem dX12_price_7 : decode cX12_price 7 = .ok (.if_icmp .ne 92, 3) := by decide +kernel
theorem dX12_price_10 : decode cX12_price 10 = .ok (.iload 4, 2) := by decide +kernel
theorem dX12_price_12 : decode cX12_price 12 = .ok (.iconst 1, 1) := by decide +kernel
theorem dX12_price_13 : decode cX12_price 13 = .ok (.sipush 9999, 3) := by decide +kernel
theorem dX12_price_16 : decode cX12_price 16 = .ok (.invokestatic 215, 3) := by decide +kernel
theorem dX12_price_19 : decode cX12_price 19 = .ok (.ifCond .ne 6, 3) := by decide +kernel
theorem dX12_price_22 : decode cX12_price 22 = .ok (.bipush (-2), 2) := by decide +kernel
theorem dX12_price_24 : decode cX12_price 24 = .ok (.ireturn, 1) := by decide +kernel
theorem dX12_price_25 : decode cX12_price 25 = .ok (.iload_n 1, 1) := by decide +kernel
theorem dX12_price_26 : decode cX12_price 26 = .ok (.iconst 1, 1) := by decide +kernel
theorem dX12_price_27 : decode cX12_price 27 = .ok (.bipush 6, 2) := by decide +kernel
theorem dX12_price_29 : decode cX12_price 29 = .ok (.invokestatic 215, 3) := by decide +kernel
theorem dX12_price_32 : decode cX12_price 32 = .ok (.ifCond .eq 22, 3) := by decide +kernel
theorem dX12_price_35 : decode cX12_price 35 = .ok (.aload_n 0, 1) := by decide +kernel
theorem dX12_price_36 : decode cX12_price 36 = .ok (.getfield 28, 3) := by decide +kernel
theorem dX12_price_39 : decode cX12_price 39 = .ok (.iload_n 1, 1) := by decide +kernel
theorem dX12_price_40 : decode cX12_price 40 = .ok (.iaload, 1) := by decide +kernel
theorem dX12_price_41 : decode cX12_price 41 = .ok (.istore 5, 2) := by decide +kernel
theorem dX12_price_43 : decode cX12_price 43 = .ok (.aload_n 0, 1) := by decide +kernel
theorem dX12_price_44 : decode cX12_price 44 = .ok (.getfield 28, 3) := by decide +kernel
theorem dX12_price_47 : decode cX12_price 47 = .ok (.iload_n 1, 1) := by decide +kernel
theorem dX12_price_48 : decode cX12_price 48 = .ok (.iload 4, 2) := by decide +kernel
theorem dX12_price_50 : decode cX12_price 50 = .ok (.iastore, 1) := by decide +kernel
theorem dX12_price_51 : decode cX12_price 51 = .ok (.iload 5, 2) := by decide +kernel
theorem dX12_price_53 : decode cX12_price 53 = .ok (.ireturn, 1) := by decide +kernel
theorem dX12_price_54 : decode cX12_price 54 = .ok (.iload_n 1, 1) := by decide +kernel
theorem dX12_price_55 : decode cX12_price 55 = .ok (.bipush 8, 2) := by decide +kernel
theorem dX12_price_57 : decode cX12_price 57 = .ok (.if_icmp .ne 18, 3) := by decide +kernel
theorem dX12_price_60 : decode cX12_price 60 = .ok (.aload_n 0, 1) := by decide +kernel
theorem dX12_price_61 : decode cX12_price 61 = .ok (.getfield 40, 3) := by decide +kernel
theorem dX12_price_64 : decode cX12_price 64 = .ok (.istore 5, 2) := by decide +kernel
theorem dX12_price_66 : decode cX12_price 66 = .ok (.aload_n 0, 1) := by decide +kernel
theorem dX12_price_67 : decode cX12_price 67 = .ok (.iload 4, 2) := by decide +kernel
theorem dX12_price_69 : decode cX12_price 69 = .ok (.putfield 40, 3) := by decide +kernel
theorem dX12_price_72 : decode cX12_price 72 = .ok (.iload 5, 2) := by decide +kernel
theorem dX12_price_74 : decode cX12_price 74 = .ok (.ireturn, 1) := by decide +kernel
theorem dX12_price_75 : decode cX12_price 75 = .ok (.iload_n 1, 1) := by decide +kernel
theorem dX12_price_76 : decode cX12_price 76 = .ok (.bipush 9, 2) := by decide +kernel
theorem dX12_price_78 : decode cX12_price 78 = .ok (.if_icmp .ne 18, 3) := by decide +kernel
theorem dX12_price_81 : decode cX12_price 81 = .ok (.aload_n 0, 1) := by decide +kernel
theorem dX12_price_82 : decode cX12_price 82 = .ok (.getfield 44, 3) := by decide +kernel
theorem dX12_price_85 : decode cX12_price 85 = .ok (.istore 5, 2) := by decide +kernel
theorem dX12_price_87 : decode cX12_price 87 = .ok (.aload_n 0, 1) := by decide +kernel
theorem dX12_price_88 : decode cX12_price 88 = .ok (.iload 4, 2) := by decide +kernel
theorem dX12_price_90 : decode cX12_price 90 = .ok (.putfield 44, 3) := by decide +kernel
theorem dX12_price_93 : decode cX12_price 93 = .ok (.iload 5, 2) := by decide +kernel
theorem dX12_price_95 : decode cX12_price 95 = .ok (.ireturn, 1) := by decide +kernel
theorem dX12_price_96 : decode cX12_price 96 = .ok (.bipush (-2), 2) := by decide +kernel
theorem dX12_price_98 : decode cX12_price 98 = .ok (.ireturn, 1) := by decide +kernel
theorem dX12_price_99 : decode cX12_price 99 = .ok (.iload 4, 2) := by decide +kernel
theorem dX12_price_101 : decode cX12_price 101 = .ok (.iconst 0, 1) := by decide +kernel
theorem dX12_price_102 : decode cX12_price 102 = .ok (.sipush 9999, 3) := by decide +kernel
theorem dX12_price_105 : decode cX12_price 105 = .ok (.invokestatic 215, 3) := by decide +kernel
theorem dX12_price_108 : decode cX12_price 108 = .ok (.ifCond .eq 13, 3) := by decide +kernel
theorem dX12_price_111 : decode cX12_price 111 = .ok (.iload_n 2, 1) := by decide +kernel
theorem dX12_price_112 : decode cX12_price 112 = .ok (.iconst 0, 1) := by decide +kernel
theorem dX12_price_113 : decode cX12_price 113 = .ok (.bipush 25, 2) := by decide +kernel
theorem dX12_price_115 : decode cX12_price 115 = .ok (.invokestatic 215, 3) := by decide +kernel
theorem dX12_price_118 : decode cX12_price 118 = .ok (.ifCond .ne 6, 3) := by decide +kernel
theorem dX12_price_121 : decode cX12_price 121 = .ok (.bipush (-2), 2) := by decide +kernel
theorem dX12_price_123 : decode cX12_price 123 = .ok (.ireturn, 1) := by decide +kernel
theorem dX12_price_124 : decode cX12_price 124 = .ok (.iload_n 1, 1) := by decide +kernel
theorem dX12_price_125 : decode cX12_price 125 = .ok (.tableswitch 112 1 3 #[27, 74, 93], 27) := by decide +kernel
theorem dX12_price_152 : decode cX12_price 152 = .ok (.iload_n 3, 1) := by decide +kernel
theorem dX12_price_153 : decode cX12_price 153 = .ok (.iconst 0, 1) := by decide +kernel
theorem dX12_price_154 : decode cX12_price 154 = .ok (.bipush 25, 2) := by decide +kernel
theorem dX12_price_156 : decode cX12_price 156 = .ok (.invokestatic 215, 3) := by decide +kernel
theorem dX12_price_159 : decode cX12_price 159 = .ok (.ifCond .eq 8, 3) := by decide +kernel
theorem dX12_price_162 : decode cX12_price 162 = .ok (.iload_n 2, 1) := by decide +kernel
theorem dX12_price_163 : decode cX12_price 163 = .ok (.iload_n 3, 1) := by decide +kernel
theorem dX12_price_164 : decode cX12_price 164 = .ok (.if_icmp .ne 6, 3) := by decide +kernel
theorem dX12_price_167 : decode cX12_price 167 = .ok (.bipush (-2), 2) := by decide +kernel
theorem dX12_price_169 : decode cX12_price 169 = .ok (.ireturn, 1) := by decide +kernel
theorem dX12_price_170 : decode cX12_price 170 = .ok (.aload_n 0, 1) := by decide +kernel
theorem dX12_price_171 : decode cX12_price 171 = .ok (.getfield 31, 3) := by decide +kernel
theorem dX12_price_174 : decode cX12_price 174 = .ok (.bipush 26, 2) := by decide +kernel
theorem dX12_price_176 : decode cX12_price 176 = .ok (.iload_n 2, 1) := by decide +kernel
theorem dX12_price_177 : decode cX12_price 177 = .ok (.imul, 1) := by decide +kernel
theorem dX12_price_178 : decode cX12_price 178 = .ok (.iload_n 3, 1) := by decide +kernel
theorem dX12_price_179 : decode cX12_price 179 = .ok (.iadd, 1) := by decide +kernel
theorem dX12_price_180 : decode cX12_price 180 = .ok (.iaload, 1) := by decide +kernel
theorem dX12_price_181 : decode cX12_price 181 = .ok (.istore 5, 2) := by decide +kernel
theorem dX12_price_183 : decode cX12_price 183 = .ok (.aload_n 0, 1) := by decide +kernel
theorem dX12_price_184 : decode cX12_price 184 = .ok (.getfield 31, 3) := by decide +kernel
theorem dX12_price_187 : decode cX12_price 187 = .ok (.bipush 26, 2) := by decide +kernel
theorem dX12_price_189 : decode cX12_price 189 = .ok (.iload_n 2, 1) := by decide +kernel
theorem dX12_price_190 : decode cX12_price 190 = .ok (.imul, 1) := by decide +kernel
theorem dX12_price_191 : decode cX12_price 191 = .ok (.iload_n 3, 1) := by decide +kernel
theorem dX12_price_192 : decode cX12_price 192 = .ok (.iadd, 1) := by decide +kernel
theorem dX12_price_193 : decode cX12_price 193 = .ok (.iload 4, 2) := by decide +kernel
theorem dX12_price_195 : decode cX12_price 195 = .ok (.iastore, 1) := by decide +kernel
theorem dX12_price_196 : decode cX12_price 196 = .ok (.iload 5, 2) := by decide +kernel
theorem dX12_price_198 : decode cX12_price 198 = .ok (.ireturn, 1) := by decide +kernel
theorem dX12_price_199 : decode cX12_price 199 = .ok (.aload_n 0, 1) := by decide +kernel
theorem dX12_price_200 : decode cX12_price 200 = .ok (.getfield 34, 3) := by decide +kernel
theorem dX12_price_203 : decode cX12_price 203 = .ok (.iload_n 2, 1) := by decide +kernel
theorem dX12_price_204 : decode cX12_price 204 = .ok (.iaload, 1) := by decide +kernel
theorem dX12_price_205 : decode cX12_price 205 = .ok (.istore 5, 2) := by decide +kernel
theorem dX12_price_207 : decode cX12_price 207 = .ok (.aload_n 0, 1) := by decide +kernel
theorem dX12_price_208 : decode cX12_price 208 = .ok (.getfield 34, 3) := by decide +kernel
theorem dX12_price_211 : decode cX12_price 211 = .ok (.iload_n 2, 1) := by decide +kernel
theorem dX12_price_212 : decode cX12_price 212 = .ok (.iload 4, 2) := by decide +kernel
theorem dX12_price_214 : decode cX12_price 214 = .ok (.iastore, 1) := by decide +kernel
theorem dX12_price_215 : decode cX12_price 215 = .ok (.iload 5, 2) := by decide +kernel
theorem dX12_price_217 : decode cX12_price 217 = .ok (.ireturn, 1) := by decide +kernel
theorem dX12_price_218 : decode cX12_price 218 = .ok (.aload_n 0, 1) := by decide +kernel
theorem dX12_price_219 : decode cX12_price 219 = .ok (.getfield 37, 3) := by decide +kernel
theorem dX12_price_222 : decode cX12_price 222 = .ok (.iload_n 2, 1) := by decide +kernel
theorem dX12_price_223 : decode cX12_price 223 = .ok (.iaload, 1) := by decide +kernel
theorem dX12_price_224 : decode cX12_price 224 = .ok (.istore 5, 2) := by decide +kernel
theorem dX12_price_226 : decode cX12_price 226 = .ok (.aload_n 0, 1) := by decide +kernel
theorem dX12_price_227 : decode cX12_price 227 = .ok (.getfield 37, 3) := by decide +kernel
theorem dX12_price_230 : decode cX12_price 230 = .ok (.iload_n 2, 1) := by decide +kernel
theorem dX12_price_231 : decode cX12_price 231 = .ok (.iload 4, 2) := by decide +kernel
theorem dX12_price_233 : decode cX12_price 233 = .ok (.iastore, 1) := by decide +kernel
theorem dX12_price_234 : decode cX12_price 234 = .ok (.iload 5, 2) := by decide +kernel
theorem dX12_price_236 : decode cX12_price 236 = .ok (.ireturn, 1) := by decide +kernel
theorem dX12_price_237 : decode cX12_price 237 = .ok (.bipush (-2), 2) := by decide +kernel
theorem dX12_price_239 : decode cX12_price 239 = .ok (.ireturn, 1) := by decide +kernel
theorem j_Md_price_99 {l1 : Int} {l2 : Int} {l3 : Int} {l4 : Int} {h : xH} {r0 : Int} {h0 : xH}  (hf : f_Md_price_99 l1 l2 l3 l4 h = some (r0, h0))  : J mX12_price true 0 0 99 xKn [(0, xR 81), (1, xI l1), (2, xI l2), (3, xI l3), (4, xI l4)] [] h (xEq (some r0) h0) := by
  unfold f_Md_price_99 at hf
  refine J_iload 4 dX12_price_99 rfl ?_
  refine J_iconst dX12_price_101 (by decide) ?_
  refine J_sip dX12_price_102 (by decide) ?_
  obtain ⟨r1, hq, hf⟩ := xc1_e hf
  refine J_cSi (Mc := mX12_in) [xI l4, xI 0, xI 9999] dX12_price_105 (fc_Md_in.fit ⟨xbl rfl, xbl rfl⟩) rfl ⟨Or.inl xq1283, xq1284⟩ rfl (xbl rfl) (xbl rfl) (jm_Md_in  hq) ?_
  refine J_if_eq (tgt := 121) dX12_price_108 (by decide) (fun hc => ?_) (fun hc => ?_)
  · have hf := xip hc hf
    refine J_bip dX12_price_121 (by decide) ?_
    exact J_ireti dX12_price_123 rfl (xq_i hf)
  · have hf := xin' hc hf
    refine J_iload_n 2 dX12_price_111 rfl rfl ?_
    refine J_iconst dX12_price_112 (by decide) ?_
    refine J_bip dX12_price_113 (by decide) ?_
    obtain ⟨r2, hq, hf⟩ := xc1_e hf
    refine J_cSi (Mc := mX12_in) [xI l2, xI 0, xI 25] dX12_price_115 (fc_Md_in.fit ⟨xbl rfl, xbl rfl⟩) rfl ⟨Or.inl xq1283, xq1284⟩ rfl (xbl rfl) (xbl rfl) (jm_Md_in  hq) ?_
    refine J_if_ne (tgt := 124) dX12_price_118 (by decide) (fun hc => ?_) (fun hc => ?_)
    · have hf := xip hc hf
      refine J_bip dX12_price_121 (by decide) ?_
      exact J_ireti dX12_price_123 rfl (xq_i hf)
    · have hf := xin' hc hf
      refine J_iload_n 1 dX12_price_124 rfl rfl ?_
      refine J_by (c := l1 = 1) (fun hc1 => ?_) (fun hc1 => ?_)
      · have hf := xip hc1 hf
        refine J_tswIn (tgt := 152) dX12_price_125 1 hc1 (by decide) (by decide) rfl (by decide) ?_
        refine J_iload_n 3 dX12_price_152 rfl rfl ?_
        refine J_iconst dX12_price_153 (by decide) ?_
        refine J_bip dX12_price_154 (by decide) ?_
        obtain ⟨r3, hq, hf⟩ := xc1_e hf
        refine J_cSi (Mc := mX12_in) [xI l3, xI 0, xI 25] dX12_price_156 (fc_Md_in.fit ⟨xbl rfl, xbl rfl⟩) rfl ⟨Or.inl xq1283, xq1284⟩ rfl (xbl rfl) (xbl rfl) (jm_Md_in  hq) ?_
        refine J_if_eq (tgt := 167) dX12_price_159 (by decide) (fun hc => ?_) (fun hc => ?_)
        · have hf := xip hc hf
          refine J_bip dX12_price_167 (by decide) ?_
          exact J_ireti dX12_price_169 rfl (xq_i hf)
        · have hf := xin' hc hf
          refine J_iload_n 2 dX12_price_162 rfl rfl ?_
          refine J_iload_n 3 dX12_price_163 rfl rfl ?_
          refine J_ic_ne (tgt := 170) dX12_price_164 (by decide) (fun hc => ?_) (fun hc => ?_)
          · have hf := xip hc hf
            refine J_bip dX12_price_167 (by decide) ?_
            exact J_ireti dX12_price_169 rfl (xq_i hf)
          · have hf := xin' hc hf
            refine J_aload_n 0 dX12_price_170 rfl rfl ?_
            refine J_getRl (j := 10) xcf12 dX12_price_171 kO81 (Or.inl xq1030) (by decide) (by decide) rf_81_10 ?_
            refine J_bip dX12_price_174 (by decide) ?_
            refine J_iload_n 2 dX12_price_176 rfl rfl ?_
            refine J_imul dX12_price_177 ?_
            refine J_iload_n 3 dX12_price_178 rfl rfl ?_
            refine J_iadd dX12_price_179 ?_
            obtain ⟨hg, hf⟩ := xgd_e hf
            refine J_iald dX12_price_180 (xK_r1 kO89) kO89 hg nA89 ?_
            obtain ⟨x4, ex4, hf⟩ := xlet_e hf
            refine J_istore (ls' := [(5, xI x4), (0, xR 81), (1, xI l1), (2, xI l2), (3, xI l3), (4, xI l4)]) dX12_price_181 (by decide) ex4 rfl ?_
            refine J_aload_n 1 dX12_price_183 rfl rfl ?_
            refine J_getRl (j := 10) xcf12 dX12_price_184 kO81 (Or.inl xq1030) (by decide) (by decide) rf_81_10 ?_
            refine J_bip dX12_price_187 (by decide) ?_
            refine J_iload_n 3 dX12_price_189 rfl rfl ?_
            refine J_imul dX12_price_190 ?_
            refine J_iload_n 4 dX12_price_191 rfl rfl ?_
            refine J_iadd dX12_price_192 ?_
            refine J_iload 5 dX12_price_193 rfl ?_
            obtain ⟨hg, hf⟩ := xgd_e hf
            obtain ⟨h5, eh5, hf⟩ := xlet_e hf
            refine J_iast dX12_price_195 (xK_r1 kO89) kO89 hg nA89 eh5 ?_
            refine J_iload 0 dX12_price_196 rfl ?_
            exact J_ireti dX12_price_198 rfl (xq_i hf)
      · have hf := xin' hc1 hf
        refine J_by (c := l1 = 2) (fun hc2 => ?_) (fun hc2 => ?_)
        · have hf := xip hc2 hf
          refine J_tswIn (tgt := 199) dX12_price_125 2 hc2 (by decide) (by decide) rfl (by decide) ?_
          refine J_aload_n 0 dX12_price_199 rfl rfl ?_
          refine J_getRl (j := 11) xcf12 dX12_price_200 kO81 (Or.inl xq1031) (by decide) (by decide) rf_81_11 ?_
          refine J_iload_n 2 dX12_price_203 rfl rfl ?_
          obtain ⟨hg, hf⟩ := xgd_e hf
          refine J_iald dX12_price_204 (xK_r1 kO90) kO90 hg nA90 ?_
          obtain ⟨x6, ex6, hf⟩ := xlet_e hf
          refine J_istore (ls' := [(5, xI x6), (0, xR 81), (1, xI l1), (2, xI l2), (3, xI l3), (4, xI l4)]) dX12_price_205 (by decide) ex6 rfl ?_
          refine J_aload_n 1 dX12_price_207 rfl rfl ?_
          refine J_getRl (j := 11) xcf12 dX12_price_208 kO81 (Or.inl xq1031) (by decide) (by decide) rf_81_11 ?_
          refine J_iload_n 3 dX12_price_211 rfl rfl ?_
          refine J_iload 5 dX12_price_212 rfl ?_
          obtain ⟨hg, hf⟩ := xgd_e hf
          obtain ⟨h7, eh7, hf⟩ := xlet_e hf
          refine J_iast dX12_price_214 (xK_r1 kO90) kO90 hg nA90 eh7 ?_
          refine J_iload 0 dX12_price_215 rfl ?_
          exact J_ireti dX12_price_217 rfl (xq_i hf)
        · have hf := xin' hc2 hf
          refine J_by (c := l1 = 3) (fun hc3 => ?_) (fun hc3 => ?_)
          · have hf := xip hc3 hf
            refine J_tswIn (tgt := 218) dX12_price_125 3 hc3 (by decide) (by decide) rfl (by decide) ?_
            refine J_aload_n 0 dX12_price_218 rfl rfl ?_
            refine J_getRl (j := 12) xcf12 dX12_price_219 kO81 (Or.inl xq1032) (by decide) (by decide) rf_81_12 ?_
            refine J_iload_n 2 dX12_price_222 rfl rfl ?_
            obtain ⟨hg, hf⟩ := xgd_e hf
            refine J_iald dX12_price_223 (xK_r1 kO91) kO91 hg nA91 ?_
            obtain ⟨x8, ex8, hf⟩ := xlet_e hf
            refine J_istore (ls' := [(5, xI x8), (0, xR 81), (1, xI l1), (2, xI l2), (3, xI l3), (4, xI l4)]) dX12_price_224 (by decide) ex8 rfl ?_
            refine J_aload_n 1 dX12_price_226 rfl rfl ?_
            refine J_getRl (j := 12) xcf12 dX12_price_227 kO81 (Or.inl xq1032) (by decide) (by decide) rf_81_12 ?_
            refine J_iload_n 3 dX12_price_230 rfl rfl ?_
            refine J_iload 5 dX12_price_231 rfl ?_
            obtain ⟨hg, hf⟩ := xgd_e hf
            obtain ⟨h9, eh9, hf⟩ := xlet_e hf
            refine J_iast dX12_price_233 (xK_r1 kO91) kO91 hg nA91 eh9 ?_
            refine J_iload 0 dX12_price_234 rfl ?_
            exact J_ireti dX12_price_236 rfl (xq_i hf)
          · have hf := xin' hc3 hf
            refine J_tswOut (tgt := 237) dX12_price_125 (by omega) (by decide) ?_
            refine J_bip dX12_price_237 (by decide) ?_
            exact J_ireti dX12_price_239 rfl (xq_i hf)
theorem jm_Md_price {l1 : Int} {l2 : Int} {l3 : Int} {l4 : Int} {h : xH} {r0 : Int} {h0 : xH}  (hf : f_Md_price l1 l2 l3 l4 h = some (r0, h0)) : J mX12_price true 0 0 0 xKn (xen 0 [xR 81, xI l1, xI l2, xI l3, xI l4]) [] h (xEq (some r0) h0) := by
  unfold f_Md_price at hf
  refine J_cong (ls2 := [(0, xR 81), (1, xI l1), (2, xI l2), (3, xI l3), (4, xI l4)]) (st2 := []) rfl rfl ?_
  refine J_iload_n 2 dX12_price_0 rfl rfl ?_
  refine J_iconst dX12_price_1 (by decide) ?_
  refine J_ic_ne (tgt := 99) dX12_price_2 (by decide) (fun hc => ?_) (fun hc => ?_)
  · have hf := xip hc hf
    refine J_iload_n 3 dX12_price_5 rfl rfl ?_
    refine J_iconst dX12_price_6 (by decide) ?_
    refine J_ic_ne (tgt := 99) dX12_price_7 (by decide) (fun hc => ?_) (fun hc => ?_)
    · have hf := xip hc hf
      refine J_iload 4 dX12_price_10 rfl ?_
      refine J_iconst dX12_price_12 (by decide) ?_
      refine J_sip dX12_price_13 (by decide) ?_
      obtain ⟨r1, hq, hf⟩ := xc1_e hf
      refine J_cSi (Mc := mX12_in) [xI l4, xI 1, xI 9999] dX12_price_16 (fc_Md_in.fit ⟨xbl rfl, xbl rfl⟩) rfl ⟨Or.inl xq1283, xq1284⟩ rfl (xbl rfl) (xbl rfl) (jm_Md_in  hq) ?_
      refine J_if_ne (tgt := 25) dX12_price_19 (by decide) (fun hc => ?_) (fun hc => ?_)
      · have hf := xip hc hf
        refine J_bip dX12_price_22 (by decide) ?_
        exact J_ireti dX12_price_24 rfl (xq_i hf)
      · have hf := xin' hc hf
        refine J_iload_n 1 dX12_price_25 rfl rfl ?_
        refine J_iconst dX12_price_26 (by decide) ?_
        refine J_bip dX12_price_27 (by decide) ?_
        obtain ⟨r2, hq, hf⟩ := xc1_e hf
        refine J_cSi (Mc := mX12_in) [xI l1, xI 1, xI 6] dX12_price_29 (fc_Md_in.fit ⟨xbl rfl, xbl rfl⟩) rfl ⟨Or.inl xq1283, xq1284⟩ rfl (xbl rfl) (xbl rfl) (jm_Md_in  hq) ?_
        refine J_if_eq (tgt := 54) dX12_price_32 (by decide) (fun hc => ?_) (fun hc => ?_)
        · have hf := xip hc hf
          refine J_iload_n 1 dX12_price_54 rfl rfl ?_
          refine J_bip dX12_price_55 (by decide) ?_
          refine J_ic_ne (tgt := 75) dX12_price_57 (by decide) (fun hc => ?_) (fun hc => ?_)
          · have hf := xip hc hf
            refine J_aload_n 0 dX12_price_60 rfl rfl ?_
            refine J_getI (j := 13) xcf12 dX12_price_61 (xK_rg kO81) kO81 (Or.inl xq1033) (by decide) (by decide) ?_
            obtain ⟨x3, ex3, hf⟩ := xlet_e hf
            refine J_istore (ls' := [(5, xI x3), (0, xR 81), (1, xI l1), (2, xI l2), (3, xI l3), (4, xI l4)]) dX12_price_64 (by decide) ex3 rfl ?_
            refine J_aload_n 1 dX12_price_66 rfl rfl ?_
            refine J_iload 5 dX12_price_67 rfl ?_
            obtain ⟨h4, eh4, hf⟩ := xlet_e hf
            refine J_putI (j := 13) xcf12 dX12_price_69 (xK_rg kO81) kO81 (Or.inl xq1033) (by decide) (by decide) eh4 ?_
            refine J_iload 0 dX12_price_72 rfl ?_
            exact J_ireti dX12_price_74 rfl (xq_i hf)
          · have hf := xin' hc hf
            refine J_iload_n 1 dX12_price_75 rfl rfl ?_
            refine J_bip dX12_price_76 (by decide) ?_
            refine J_ic_ne (tgt := 96) dX12_price_78 (by decide) (fun hc => ?_) (fun hc => ?_)
            · have hf := xip hc hf
              refine J_aload_n 0 dX12_price_81 rfl rfl ?_
              refine J_getI (j := 14) xcf12 dX12_price_82 (xK_rg kO81) kO81 (Or.inl xq1034) (by decide) (by decide) ?_
              obtain ⟨x5, ex5, hf⟩ := xlet_e hf
              refine J_istore (ls' := [(5, xI x5), (0, xR 81), (1, xI l1), (2, xI l2), (3, xI l3), (4, xI l4)]) dX12_price_85 (by decide) ex5 rfl ?_
              refine J_aload_n 1 dX12_price_87 rfl rfl ?_
              refine J_iload 5 dX12_price_88 rfl ?_
              obtain ⟨h6, eh6, hf⟩ := xlet_e hf
              refine J_putI (j := 14) xcf12 dX12_price_90 (xK_rg kO81) kO81 (Or.inl xq1034) (by decide) (by decide) eh6 ?_
              refine J_iload 0 dX12_price_93 rfl ?_
              exact J_ireti dX12_price_95 rfl (xq_i hf)
            · have hf := xin' hc hf
              refine J_bip dX12_price_96 (by decide) ?_
              exact J_ireti dX12_price_98 rfl (xq_i hf)
        · have hf := xin' hc hf
          refine J_aload_n 0 dX12_price_35 rfl rfl ?_
          refine J_getRl (j := 9) xcf12 dX12_price_36 kO81 (Or.inl xq1029) (by decide) (by decide) rf_81_9 ?_
          refine J_iload_n 1 dX12_price_39 rfl rfl ?_
          obtain ⟨hg, hf⟩ := xgd_e hf
          refine J_iald dX12_price_40 (xK_r1 kO88) kO88 hg nA88 ?_
          obtain ⟨x7, ex7, hf⟩ := xlet_e hf
          refine J_istore (ls' := [(5, xI x7), (0, xR 81), (1, xI l1), (2, xI l2), (3, xI l3), (4, xI l4)]) dX12_price_41 (by decide) ex7 rfl ?_
          refine J_aload_n 1 dX12_price_43 rfl rfl ?_
          refine J_getRl (j := 9) xcf12 dX12_price_44 kO81 (Or.inl xq1029) (by decide) (by decide) rf_81_9 ?_
          refine J_iload_n 2 dX12_price_47 rfl rfl ?_
          refine J_iload 5 dX12_price_48 rfl ?_
          obtain ⟨hg, hf⟩ := xgd_e hf
          obtain ⟨h8, eh8, hf⟩ := xlet_e hf
          refine J_iast dX12_price_50 (xK_r1 kO88) kO88 hg nA88 eh8 ?_
          refine J_iload 0 dX12_price_51 rfl ?_
          exact J_ireti dX12_price_53 rfl (xq_i hf)
    · have hf := xin' hc hf
      exact j_Md_price_99  hf
  · have hf := xin' hc hf
    exact j_Md_price_99  hf
theorem dX12_sound_0 : decode cX12_sound 0 = .ok (.aload_n 0, 1) := by decide +kernel
theorem dX12_sound_1 : decode cX12_sound 1 = .ok (.iconst 3, 1) := by decide +kernel
theorem dX12_sound_2 : decode cX12_sound 2 = .ok (.invokevirtual 281, 3) := by decide +kernel
theorem dX12_sound_5 : decode cX12_sound 5 = .ok (.istore_n 2, 1) := by decide +kernel
theorem dX12_sound_6 : decode cX12_sound 6 = .ok (.iload_n 2, 1) := by decide +kernel
theorem dX12_sound_7 : decode cX12_sound 7 = .ok (.ifCond .eq 14, 3) := by decide +kernel
theorem dX12_sound_10 : decode cX12_sound 10 = .ok (.iload_n 1, 1) := by decide +kernel
theorem dX12_sound_11 : decode cX12_sound 11 = .ok (.iconst 1, 1) := by decide +kernel
theorem dX12_sound_12 : decode cX12_sound 12 = .ok (.sipush 9999, 3) := by decide +kernel
theorem dX12_sound_15 : decode cX12_sound 15 = .ok (.invokestatic 215, 3) := by decide +kernel
theorem dX12_sound_18 : decode cX12_sound 18 = .ok (.ifCond .ne 6, 3) := by decide +kernel
theorem dX12_sound_21 : decode cX12_sound 21 = .ok (.bipush (-2), 2) := by decide +kernel
theorem dX12_sound_23 : decode cX12_sound 23 = .ok (.ireturn, 1) := by decide +kernel
theorem dX12_sound_24 : decode cX12_sound 24 = .ok (.aload_n 0, 1) := by decide +kernel
theorem dX12_sound_25 : decode cX12_sound 25 = .ok (.getfield 266, 3) := by decide +kernel
theorem dX12_sound_28 : decode cX12_sound 28 = .ok (.bipush 20, 2) := by decide +kernel
theorem dX12_sound_30 : decode cX12_sound 30 = .ok (.if_icmp .ne 6, 3) := by decide +kernel
theorem dX12_sound_33 : decode cX12_sound 33 = .ok (.bipush (-4), 2) := by decide +kernel
theorem dX12_sound_35 : decode cX12_sound 35 = .ok (.ireturn, 1) := by decide +kernel
theorem dX12_sound_36 : decode cX12_sound 36 = .ok (.aload_n 0, 1) := by decide +kernel
theorem dX12_sound_37 : decode cX12_sound 37 = .ok (.getfield 47, 3) := by decide +kernel
theorem dX12_sound_40 : decode cX12_sound 40 = .ok (.aload_n 0, 1) := by decide +kernel
theorem dX12_sound_41 : decode cX12_sound 41 = .ok (.getfield 266, 3) := by decide +kernel
theorem dX12_sound_44 : decode cX12_sound 44 = .ok (.aload_n 0, 1) := by decide +kernel
theorem dX12_sound_45 : decode cX12_sound 45 = .ok (.getfield 13, 3) := by decide +kernel
theorem dX12_sound_48 : decode cX12_sound 48 = .ok (.iconst 0, 1) := by decide +kernel
theorem dX12_sound_49 : decode cX12_sound 49 = .ok (.iaload, 1) := by decide +kernel
theorem dX12_sound_50 : decode cX12_sound 50 = .ok (.iastore, 1) := by decide +kernel
theorem dX12_sound_51 : decode cX12_sound 51 = .ok (.aload_n 0, 1) := by decide +kernel
theorem dX12_sound_52 : decode cX12_sound 52 = .ok (.getfield 53, 3) := by decide +kernel
theorem dX12_sound_55 : decode cX12_sound 55 = .ok (.aload_n 0, 1) := by decide +kernel
theorem dX12_sound_56 : decode cX12_sound 56 = .ok (.getfield 266, 3) := by decide +kernel
theorem dX12_sound_59 : decode cX12_sound 59 = .ok (.aload_n 0, 1) := by decide +kernel
theorem dX12_sound_60 : decode cX12_sound 60 = .ok (.getfield 13, 3) := by decide +kernel
theorem dX12_sound_63 : decode cX12_sound 63 = .ok (.iconst 1, 1) := by decide +kernel
theorem dX12_sound_64 : decode cX12_sound 64 = .ok (.iaload, 1) := by decide +kernel
theorem dX12_sound_65 : decode cX12_sound 65 = .ok (.iastore, 1) := by decide +kernel
theorem dX12_sound_66 : decode cX12_sound 66 = .ok (.iconst 0, 1) := by decide +kernel
theorem dX12_sound_67 : decode cX12_sound 67 = .ok (.istore_n 3, 1) := by decide +kernel
theorem dX12_sound_68 : decode cX12_sound 68 = .ok (.iload_n 3, 1) := by decide +kernel
theorem dX12_sound_69 : decode cX12_sound 69 = .ok (.iconst 3, 1) := by decide +kernel
theorem dX12_sound_70 : decode cX12_sound 70 = .ok (.if_icmp .ge 50, 3) := by decide +kernel
theorem dX12_sound_73 : decode cX12_sound 73 = .ok (.aload_n 0, 1) := by decide +kernel
theorem dX12_sound_74 : decode cX12_sound 74 = .ok (.getfield 50, 3) := by decide +kernel
theorem dX12_sound_77 : decode cX12_sound 77 = .ok (.iconst 3, 1) := by decide +kernel
theorem dX12_sound_78 : decode cX12_sound 78 = .ok (.aload_n 0, 1) := by decide +kernel
theorem dX12_sound_79 : decode cX12_sound 79 = .ok (.getfield 266, 3) := by decide +kernel
theorem dX12_sound_82 : decode cX12_sound 82 = .ok (.imul, 1) := by decide +kernel
theorem dX12_sound_83 : decode cX12_sound 83 = .ok (.iload_n 3, 1) := by decide +kernel
theorem dX12_sound_84 : decode cX12_sound 84 = .ok (.iadd, 1) := by decide +kernel
theorem dX12_sound_85 : decode cX12_sound 85 = .ok (.aload_n 0, 1) := by decide +kernel
theorem dX12_sound_86 : decode cX12_sound 86 = .ok (.getfield 16, 3) := by decide +kernel
theorem dX12_sound_89 : decode cX12_sound 89 = .ok (.iload_n 3, 1) := by decide +kernel
theorem dX12_sound_90 : decode cX12_sound 90 = .ok (.iaload, 1) := by decide +kernel
theorem dX12_sound_91 : decode cX12_sound 91 = .ok (.iastore, 1) := by decide +kernel
theorem dX12_sound_92 : decode cX12_sound 92 = .ok (.aload_n 0, 1) := by decide +kernel
theorem dX12_sound_93 : decode cX12_sound 93 = .ok (.getfield 56, 3) := by decide +kernel
theorem dX12_sound_96 : decode cX12_sound 96 = .ok (.iconst 3, 1) := by decide +kernel
theorem dX12_sound_97 : decode cX12_sound 97 = .ok (.aload_n 0, 1) := by decide +kernel
theorem dX12_sound_98 : decode cX12_sound 98 = .ok (.getfield 266, 3) := by decide +kernel
theorem dX12_sound_101 : decode cX12_sound 101 = .ok (.imul, 1) := by decide +kernel
theorem dX12_sound_102 : decode cX12_sound 102 = .ok (.iload_n 3, 1) := by decide +kernel
theorem dX12_sound_103 : decode cX12_sound 103 = .ok (.iadd, 1) := by decide +kernel
theorem dX12_sound_104 : decode cX12_sound 104 = .ok (.aload_n 0, 1) := by decide +kernel
theorem dX12_sound_105 : decode cX12_sound 105 = .ok (.getfield 16, 3) := by decide +kernel
theorem dX12_sound_108 : decode cX12_sound 108 = .ok (.bipush 12, 2) := by decide +kernel
theorem dX12_sound_110 : decode cX12_sound 110 = .ok (.iload_n 3, 1) := by decide +kernel
theorem dX12_sound_111 : decode cX12_sound 111 = .ok (.iadd, 1) := by decide +kernel
theorem dX12_sound_112 : decode cX12_sound 112 = .ok (.iaload, 1) := by decide +kernel
theorem dX12_sound_113 : decode cX12_sound 113 = .ok (.iastore, 1) := by decide +kernel
theorem dX12_sound_114 : decode cX12_sound 114 = .ok (.iinc 3 1, 3) := by decide +kernel
theorem dX12_sound_117 : decode cX12_sound 117 = .ok (.goto (-49), 3) := by decide +kernel
theorem dX12_sound_120 : decode cX12_sound 120 = .ok (.aload_n 0, 1) := by decide +kernel
theorem dX12_sound_121 : decode cX12_sound 121 = .ok (.getfield 59, 3) := by decide +kernel
theorem dX12_sound_124 : decode cX12_sound 124 = .ok (.aload_n 0, 1) := by decide +kernel
theorem dX12_sound_125 : decode cX12_sound 125 = .ok (.getfield 266, 3) := by decide +kernel
theorem dX12_sound_128 : decode cX12_sound 128 = .ok (.iload_n 1, 1) := by decide +kernel
theorem dX12_sound_129 : decode cX12_sound 129 = .ok (.iastore, 1) := by decide +kernel
theorem dX12_sound_130 : decode cX12_sound 130 = .ok (.aload_n 0, 1) := by decide +kernel
theorem dX12_sound_131 : decode cX12_sound 131 = .ok (.dup, 1) := by decide +kernel
theorem dX12_sound_132 : decode cX12_sound 132 = .ok (.getfield 266, 3) := by decide +kernel
theorem dX12_sound_135 : decode cX12_sound 135 = .ok (.dup_x1, 1) := by decide +kernel
theorem dX12_sound_136 : decode cX12_sound 136 = .ok (.iconst 1, 1) := by decide +kernel
theorem dX12_sound_137 : decode cX12_sound 137 = .ok (.iadd, 1) := by decide +kernel
theorem dX12_sound_138 : decode cX12_sound 138 = .ok (.putfield 266, 3) := by decide +kernel
theorem dX12_sound_141 : decode cX12_sound 141 = .ok (.ireturn, 1) := by decide +kernel
theorem j_Md_sound_120 {l1 : Int} {h : xH} {r0 : Int} {h0 : xH}  (hf : f_Md_sound_120 l1 h = some (r0, h0))  : J mX12_sound true 0 0 120 xKn [(0, xR 81), (1, xI l1)] [] h (xEq (some r0) h0) := by
  unfold f_Md_sound_120 at hf
  refine J_aload_n 0 dX12_sound_120 rfl rfl ?_
  refine J_getRl (j := 21) xcf12 dX12_sound_121 kO81 (Or.inl xq1041) (by decide) (by decide) rf_81_21 ?_
  refine J_aload_n 0 dX12_sound_124 rfl rfl ?_
  refine J_getI (j := 16) xcf12 dX12_sound_125 (xK_rg kO81) kO81 (Or.inl xq1036) (by decide) (by decide) ?_
  refine J_iload_n 1 dX12_sound_128 rfl rfl ?_
  obtain ⟨hg, hf⟩ := xgd_e hf
  obtain ⟨h1, eh1, hf⟩ := xlet_e hf
  refine J_iast dX12_sound_129 (xK_r1 kO96) kO96 hg nA96 eh1 ?_
  refine J_aload_n 0 dX12_sound_130 rfl rfl ?_
  refine J_dup dX12_sound_131 rfl ?_
  refine J_getI (j := 16) xcf12 dX12_sound_132 (xK_rg kO81) kO81 (Or.inl xq1036) (by decide) (by decide) ?_
  refine J_dupx1 dX12_sound_135 rfl rfl ?_
  refine J_iconst dX12_sound_136 (by decide) ?_
  refine J_iadd dX12_sound_137 ?_
  obtain ⟨h2, eh2, hf⟩ := xlet_e hf
  refine J_putI (j := 16) xcf12 dX12_sound_138 (xK_rg kO81) kO81 (Or.inl xq1036) (by decide) (by decide) eh2 ?_
  exact J_ireti dX12_sound_141 rfl (xq_i hf)
theorem j_Md_sound_s68 {l1 : Int} {l3 : Int} {h : xH} {x : ((Int × xH) ⊕ xH)} {Q : xQ}  (hf : f_Md_sound_s68 l1 l3 h = some x) (kb : ∀ (l3' : Int) (h' : xH), x = Sum.inl (l3', h') → J mX12_sound true 0 0 68 xKn [(0, xR 81), (1, xI l1), (3, xI l3')] [] h' Q) (ke : ∀  (h' : xH), x = (Sum.inr h') → J mX12_sound true 0 0 120 xKn [(0, xR 81), (1, xI l1)] [] h' Q) : J mX12_sound true 0 0 68 xKn [(0, xR 81), (1, xI l1), (3, xI l3)] [] h Q := by
  unfold f_Md_sound_s68 at hf
  refine J_iload_n 2 dX12_sound_68 rfl rfl ?_
  refine J_iconst dX12_sound_69 (by decide) ?_
  refine J_ic_ge (tgt := 120) dX12_sound_70 (by decide) (fun hc => ?_) (fun hc => ?_)
  · have hf := xip hc hf
    refine J_aload_n 0 dX12_sound_73 rfl rfl ?_
    refine J_getRl (j := 18) xcf12 dX12_sound_74 kO81 (Or.inl xq1038) (by decide) (by decide) rf_81_18 ?_
    refine J_iconst dX12_sound_77 (by decide) ?_
    refine J_aload_n 0 dX12_sound_78 rfl rfl ?_
    refine J_getI (j := 16) xcf12 dX12_sound_79 (xK_rg kO81) kO81 (Or.inl xq1036) (by decide) (by decide) ?_
    refine J_imul dX12_sound_82 ?_
    refine J_iload_n 2 dX12_sound_83 rfl rfl ?_
    refine J_iadd dX12_sound_84 ?_
    refine J_aload_n 0 dX12_sound_85 rfl rfl ?_
    refine J_getRl (j := 4) xcf12 dX12_sound_86 kO81 (Or.inl xq1024) (by decide) (by decide) rf_81_4 ?_
    refine J_iload_n 2 dX12_sound_89 rfl rfl ?_
    obtain ⟨hg, hf⟩ := xgd_e hf
    refine J_iald dX12_sound_90 (xK_r1 kO84) kO84 hg nA84 ?_
    obtain ⟨hg, hf⟩ := xgd_e hf
    obtain ⟨h1, eh1, hf⟩ := xlet_e hf
    refine J_iast dX12_sound_91 (xK_r1 kO93) kO93 hg nA93 eh1 ?_
    refine J_aload_n 0 dX12_sound_92 rfl rfl ?_
    refine J_getRl (j := 20) xcf12 dX12_sound_93 kO81 (Or.inl xq1040) (by decide) (by decide) rf_81_20 ?_
    refine J_iconst dX12_sound_96 (by decide) ?_
    refine J_aload_n 0 dX12_sound_97 rfl rfl ?_
    refine J_getI (j := 16) xcf12 dX12_sound_98 (xK_rg kO81) kO81 (Or.inl xq1036) (by decide) (by decide) ?_
    refine J_imul dX12_sound_101 ?_
    refine J_iload_n 2 dX12_sound_102 rfl rfl ?_
    refine J_iadd dX12_sound_103 ?_
    refine J_aload_n 0 dX12_sound_104 rfl rfl ?_
    refine J_getRl (j := 4) xcf12 dX12_sound_105 kO81 (Or.inl xq1024) (by decide) (by decide) rf_81_4 ?_
    refine J_bip dX12_sound_108 (by decide) ?_
    refine J_iload_n 2 dX12_sound_110 rfl rfl ?_
    refine J_iadd dX12_sound_111 ?_
    obtain ⟨hg, hf⟩ := xgd_e hf
    refine J_iald dX12_sound_112 (xK_r1 kO84) kO84 hg nA84 ?_
    obtain ⟨hg, hf⟩ := xgd_e hf
    obtain ⟨h2, eh2, hf⟩ := xlet_e hf
    refine J_iast dX12_sound_113 (xK_r1 kO95) kO95 hg nA95 eh2 ?_
    obtain ⟨x3, ex3, hf⟩ := xlet_e hf
    refine J_iinc (ls' := [(3, xI x3), (0, xR 81), (1, xI l1)]) 2 dX12_sound_114 rfl (by decide) ex3 rfl ?_
    refine J_goto (tgt := 68) dX12_sound_117 (by decide) ?_
    refine J_sub [1, 2, 0] rfl ?_
    exact kb _ _ (xinl hf)
  · have hf := xin' hc hf
    refine J_sub [0, 1] rfl ?_
    exact ke _ (xinl hf)
theorem j_Md_sound_68 {l1 : Int} {l3 : Int} {h : xH} {r0 : Int} {h0 : xH}  (hf : f_Md_sound_68 l1 l3 h = some (r0, h0))  : J mX12_sound true 0 0 68 xKn [(0, xR 81), (1, xI l1), (3, xI l3)] [] h (xEq (some r0) h0) := by
  unfold f_Md_sound_68 at hf
  obtain ⟨b0, hb0, hf⟩ := xc1_e hf
  refine xloop_ind (P := fun s : (Int × xH) => J mX12_sound true 0 0 68 xKn [(0, xR 81), (1, xI l1), (3, xI s.1)] [] s.2 (xEq (some r0) h0)) hb0 (fun s x1 hs ib ie => ?_)
  exact j_Md_sound_s68  hs (fun _ _ e => ib _ e) (fun _ e => by have := ie _ e; subst this; exact j_Md_sound_120  hf)
theorem jm_Md_sound {l1 : Int} {h : xH} {r0 : Int} {h0 : xH}  (hf : f_Md_sound l1 h = some (r0, h0)) : J mX12_sound true 0 0 0 xKn (xen 0 [xR 81, xI l1]) [] h (xEq (some r0) h0) := by
  unfold f_Md_sound at hf
  refine J_cong (ls2 := [(0, xR 81), (1, xI l1)]) (st2 := []) rfl rfl ?_
  refine J_aload_n 0 dX12_sound_0 rfl rfl ?_
  refine J_iconst dX12_sound_1 (by decide) ?_
  obtain ⟨r1, h2, hq, hf⟩ := xc2_e hf
  refine J_cVi (Mc := mX12_readsTwo) [xI 3] dX12_sound_2 (fc_Md_readsTwo.fit ⟨xbl rfl, xbl rfl⟩) rfl ⟨Or.inl xq1346, xq1348, xq96⟩ kO81 (ci := 12) rfl rfl (xbl rfl) (xbl rfl) (jm_Md_readsTwo  hq) ?_
  refine J_istore_n (ls' := [(2, xI r1), (0, xR 81), (1, xI l1)]) dX12_sound_5 rfl (by decide) rfl rfl ?_
  refine J_iload_n 0 dX12_sound_6 rfl rfl ?_
  refine J_if_eq (tgt := 21) dX12_sound_7 (by decide) (fun hc => ?_) (fun hc => ?_)
  · have hf := xip hc hf
    refine J_bip dX12_sound_21 (by decide) ?_
    exact J_ireti dX12_sound_23 rfl (xq_i hf)
  · have hf := xin' hc hf
    refine J_iload_n 2 dX12_sound_10 rfl rfl ?_
    refine J_iconst dX12_sound_11 (by decide) ?_
    refine J_sip dX12_sound_12 (by decide) ?_
    obtain ⟨r3, hq, hf⟩ := xc1_e hf
    refine J_cSi (Mc := mX12_in) [xI l1, xI 1, xI 9999] dX12_sound_15 (fc_Md_in.fit ⟨xbl rfl, xbl rfl⟩) rfl ⟨Or.inl xq1283, xq1284⟩ rfl (xbl rfl) (xbl rfl) (jm_Md_in  hq) ?_
    refine J_if_ne (tgt := 24) dX12_sound_18 (by decide) (fun hc => ?_) (fun hc => ?_)
    · have hf := xip hc hf
      refine J_bip dX12_sound_21 (by decide) ?_
      exact J_ireti dX12_sound_23 rfl (xq_i hf)
    · have hf := xin' hc hf
      refine J_aload_n 1 dX12_sound_24 rfl rfl ?_
      refine J_getI (j := 16) xcf12 dX12_sound_25 (xK_rg kO81) kO81 (Or.inl xq1036) (by decide) (by decide) ?_
      refine J_bip dX12_sound_28 (by decide) ?_
      refine J_ic_ne (tgt := 36) dX12_sound_30 (by decide) (fun hc => ?_) (fun hc => ?_)
      · have hf := xip hc hf
        refine J_bip dX12_sound_33 (by decide) ?_
        exact J_ireti dX12_sound_35 rfl (xq_i hf)
      · have hf := xin' hc hf
        refine J_aload_n 1 dX12_sound_36 rfl rfl ?_
        refine J_getRl (j := 17) xcf12 dX12_sound_37 kO81 (Or.inl xq1037) (by decide) (by decide) rf_81_17 ?_
        refine J_aload_n 1 dX12_sound_40 rfl rfl ?_
        refine J_getI (j := 16) xcf12 dX12_sound_41 (xK_rg kO81) kO81 (Or.inl xq1036) (by decide) (by decide) ?_
        refine J_aload_n 1 dX12_sound_44 rfl rfl ?_
        refine J_getRl (j := 3) xcf12 dX12_sound_45 kO81 (Or.inl xq1023) (by decide) (by decide) rf_81_3 ?_
        refine J_iconst dX12_sound_48 (by decide) ?_
        obtain ⟨hg, hf⟩ := xgd_e hf
        refine J_iald dX12_sound_49 (xK_r1 kO83) kO83 hg nA83 ?_
        obtain ⟨hg, hf⟩ := xgd_e hf
        obtain ⟨h4, eh4, hf⟩ := xlet_e hf
        refine J_iast dX12_sound_50 (xK_r1 kO92) kO92 hg nA92 eh4 ?_
        refine J_aload_n 1 dX12_sound_51 rfl rfl ?_
        refine J_getRl (j := 19) xcf12 dX12_sound_52 kO81 (Or.inl xq1039) (by decide) (by decide) rf_81_19 ?_
        refine J_aload_n 1 dX12_sound_55 rfl rfl ?_
        refine J_getI (j := 16) xcf12 dX12_sound_56 (xK_rg kO81) kO81 (Or.inl xq1036) (by decide) (by decide) ?_
        refine J_aload_n 1 dX12_sound_59 rfl rfl ?_
        refine J_getRl (j := 3) xcf12 dX12_sound_60 kO81 (Or.inl xq1023) (by decide) (by decide) rf_81_3 ?_
        refine J_iconst dX12_sound_63 (by decide) ?_
        obtain ⟨hg, hf⟩ := xgd_e hf
        refine J_iald dX12_sound_64 (xK_r1 kO83) kO83 hg nA83 ?_
        obtain ⟨hg, hf⟩ := xgd_e hf
        obtain ⟨h5, eh5, hf⟩ := xlet_e hf
        refine J_iast dX12_sound_65 (xK_r1 kO94) kO94 hg nA94 eh5 ?_
        refine J_iconst dX12_sound_66 (by decide) ?_
        refine J_istore_n (ls' := [(3, xI 0), (2, xI r1), (0, xR 81), (1, xI l1)]) dX12_sound_67 rfl (by decide) rfl rfl ?_
        refine J_sub [2, 3, 0] rfl ?_
        exact j_Md_sound_68  hf
theorem dX12_model_0 : decode cX12_model 0 = .ok (.iload_n 1, 1) := by decide +kernel
theorem dX12_model_1 : decode cX12_model 1 = .ok (.iconst 0, 1) := by decide +kernel
theorem dX12_model_2 : decode cX12_model 2 = .ok (.ldc 245, 2) := by decide +kernel
theorem dX12_model_4 : decode cX12_model 4 = .ok (.invokestatic 215, 3) := by decide +kernel
theorem dX12_model_7 : decode cX12_model 7 = .ok (.ifCond .ne 6, 3) := by decide +kernel
theorem dX12_model_10 : decode cX12_model 10 = .ok (.bipush (-2), 2) := by decide +kernel
theorem dX12_model_12 : decode cX12_model 12 = .ok (.ireturn, 1) := by decide +kernel
theorem dX12_model_13 : decode cX12_model 13 = .ok (.aload_n 0, 1) := by decide +kernel
theorem dX12_model_14 : decode cX12_model 14 = .ok (.getfield 285, 3) := by decide +kernel
theorem dX12_model_17 : decode cX12_model 17 = .ok (.istore_n 2, 1) := by decide +kernel
theorem dX12_model_18 : decode cX12_model 18 = .ok (.aload_n 0, 1) := by decide +kernel
theorem dX12_model_19 : decode cX12_model 19 = .ok (.iload_n 1, 1) := by decide +kernel
theorem dX12_model_20 : decode cX12_model 20 = .ok (.putfield 285, 3) := by decide +kernel
theorem dX12_model_23 : decode cX12_model 23 = .ok (.iload_n 2, 1) := by decide +kernel
theorem dX12_model_24 : decode cX12_model 24 = .ok (.ireturn, 1) := by decide +kernel
theorem jm_Md_model {l1 : Int} {h : xH} {r0 : Int} {h0 : xH}  (hf : f_Md_model l1 h = some (r0, h0)) : J mX12_model true 0 0 0 xKn (xen 0 [xR 81, xI l1]) [] h (xEq (some r0) h0) := by
  unfold f_Md_model at hf
  refine J_cong (ls2 := [(0, xR 81), (1, xI l1)]) (st2 := []) rfl rfl ?_
  refine J_iload_n 1 dX12_model_0 rfl rfl ?_
  refine J_iconst dX12_model_1 (by decide) ?_
  refine J_ldc (v := 100000) dX12_model_2 xq1298 (by decide) ?_
  obtain ⟨r1, hq, hf⟩ := xc1_e hf
  refine J_cSi (Mc := mX12_in) [xI l1, xI 0, xI 100000] dX12_model_4 (fc_Md_in.fit ⟨xbl rfl, xbl rfl⟩) rfl ⟨Or.inl xq1283, xq1284⟩ rfl (xbl rfl) (xbl rfl) (jm_Md_in  hq) ?_
  refine J_if_ne (tgt := 13) dX12_model_7 (by decide) (fun hc => ?_) (fun hc => ?_)
  · have hf := xip hc hf
    refine J_bip dX12_model_10 (by decide) ?_
    exact J_ireti dX12_model_12 rfl (xq_i hf)
  · have hf := xin' hc hf
    refine J_aload_n 0 dX12_model_13 rfl rfl ?_
    refine J_getI (j := 15) xcf12 dX12_model_14 (xK_rg kO81) kO81 (Or.inl xq1035) (by decide) (by decide) ?_
    obtain ⟨x2, ex2, hf⟩ := xlet_e hf
    refine J_istore_n (ls' := [(2, xI x2), (0, xR 81), (1, xI l1)]) dX12_model_17 rfl (by decide) ex2 rfl ?_
    refine J_aload_n 1 dX12_model_18 rfl rfl ?_
    refine J_iload_n 2 dX12_model_19 rfl rfl ?_
    obtain ⟨h3, eh3, hf⟩ := xlet_e hf
    refine J_putI (j := 15) xcf12 dX12_model_20 (xK_rg kO81) kO81 (Or.inl xq1035) (by decide) (by decide) eh3 ?_
    refine J_iload_n 0 dX12_model_23 rfl rfl ?_
    exact J_ireti dX12_model_24 rfl (xq_i hf)
theorem dX12_share_0 : decode cX12_share 0 = .ok (.aload_n 0, 1) := by decide +kernel
theorem dX12_share_1 : decode cX12_share 1 = .ok (.getfield 285, 3) := by decide +kernel
theorem dX12_share_4 : decode cX12_share 4 = .ok (.ifCond .ne 5, 3) := by decide +kernel
theorem dX12_share_7 : decode cX12_share 7 = .ok (.iconst 0, 1) := by decide +kernel
theorem dX12_share_8 : decode cX12_share 8 = .ok (.ireturn, 1) := by decide +kernel
theorem dX12_share_9 : decode cX12_share 9 = .ok (.iconst 0, 1) := by decide +kernel
theorem dX12_share_10 : decode cX12_share 10 = .ok (.istore_n 2, 1) := by decide +kernel
theorem dX12_share_11 : decode cX12_share 11 = .ok (.aload_n 0, 1) := by decide +kernel
theorem dX12_share_12 : decode cX12_share 12 = .ok (.getfield 285, 3) := by decide +kernel
theorem dX12_share_15 : decode cX12_share 15 = .ok (.i2l, 1) := by decide +kernel
theorem dX12_share_16 : decode cX12_share 16 = .ok (.lstore_n 3, 1) := by decide +kernel
theorem dX12_share_17 : decode cX12_share 17 = .ok (.lload_n 3, 1) := by decide +kernel
theorem dX12_share_18 : decode cX12_share 18 = .ok (.ldc2_w 288, 3) := by decide +kernel
theorem dX12_share_21 : decode cX12_share 21 = .ok (.ldiv, 1) := by decide +kernel
theorem dX12_share_22 : decode cX12_share 22 = .ok (.ldc2_w 290, 3) := by decide +kernel
theorem dX12_share_25 : decode cX12_share 25 = .ok (.lcmp, 1) := by decide +kernel
theorem dX12_share_26 : decode cX12_share 26 = .ok (.ifCond .ge 13, 3) := by decide +kernel
theorem dX12_share_29 : decode cX12_share 29 = .ok (.lload_n 3, 1) := by decide +kernel
theorem dX12_share_30 : decode cX12_share 30 = .ok (.iconst 1, 1) := by decide +kernel
theorem dX12_share_31 : decode cX12_share 31 = .ok (.lshl, 1) := by decide +kernel
theorem dX12_share_32 : decode cX12_share 32 = .ok (.lstore_n 3, 1) := by decide +kernel
theorem dX12_share_33 : decode cX12_share 33 = .ok (.iinc 2 1, 3) := by decide +kernel
theorem dX12_share_36 : decode cX12_share 36 = .ok (.goto (-19), 3) := by decide +kernel
theorem dX12_share_39 : decode cX12_share 39 = .ok (.lload_n 3, 1) := by decide +kernel
theorem dX12_share_40 : decode cX12_share 40 = .ok (.ldc2_w 288, 3) := by decide +kernel
theorem dX12_share_43 : decode cX12_share 43 = .ok (.ldiv, 1) := by decide +kernel
theorem dX12_share_44 : decode cX12_share 44 = .ok (.lstore 5, 2) := by decide +kernel
theorem dX12_share_46 : decode cX12_share 46 = .ok (.lload_n 3, 1) := by decide +kernel
theorem dX12_share_47 : decode cX12_share 47 = .ok (.ldc2_w 288, 3) := by decide +kernel
theorem dX12_share_50 : decode cX12_share 50 = .ok (.lrem, 1) := by decide +kernel
theorem dX12_share_51 : decode cX12_share 51 = .ok (.lstore 7, 2) := by decide +kernel
theorem dX12_share_53 : decode cX12_share 53 = .ok (.ldc2_w 292, 3) := by decide +kernel
theorem dX12_share_56 : decode cX12_share 56 = .ok (.lload 7, 2) := by decide +kernel
theorem dX12_share_58 : decode cX12_share 58 = .ok (.lmul, 1) := by decide +kernel
theorem dX12_share_59 : decode cX12_share 59 = .ok (.ldc2_w 288, 3) := by decide +kernel
theorem dX12_share_62 : decode cX12_share 62 = .ok (.lcmp, 1) := by decide +kernel
theorem dX12_share_63 : decode cX12_share 63 = .ok (.ifCond .gt 25, 3) := by decide +kernel
theorem dX12_share_66 : decode cX12_share 66 = .ok (.ldc2_w 292, 3) := by decide +kernel
theorem dX12_share_69 : decode cX12_share 69 = .ok (.lload 7, 2) := by decide +kernel
theorem dX12_share_71 : decode cX12_share 71 = .ok (.lmul, 1) := by decide +kernel
theorem dX12_share_72 : decode cX12_share 72 = .ok (.ldc2_w 288, 3) := by decide +kernel
theorem dX12_share_75 : decode cX12_share 75 = .ok (.lcmp, 1) := by decide +kernel
theorem dX12_share_76 : decode cX12_share 76 = .ok (.ifCond .ne 18, 3) := by decide +kernel
theorem dX12_share_79 : decode cX12_share 79 = .ok (.lload 5, 2) := by decide +kernel
theorem dX12_share_81 : decode cX12_share 81 = .ok (.lconst 1, 1) := by decide +kernel
theorem dX12_share_82 : decode cX12_share 82 = .ok (.land, 1) := by decide +kernel
theorem dX12_share_83 : decode cX12_share 83 = .ok (.lconst 0, 1) := by decide +kernel
theorem dX12_share_84 : decode cX12_share 84 = .ok (.lcmp, 1) := by decide +kernel
theorem dX12_share_85 : decode cX12_share 85 = .ok (.ifCond .eq 9, 3) := by decide +kernel
theorem dX12_share_88 : decode cX12_share 88 = .ok (.lload 5, 2) := by decide +kernel
theorem dX12_share_90 : decode cX12_share 90 = .ok (.lconst 1, 1) := by decide +kernel
theorem dX12_share_91 : decode cX12_share 91 = .ok (.ladd, 1) := by decide +kernel
theorem dX12_share_92 : decode cX12_share 92 = .ok (.lstore 5, 2) := by decide +kernel
theorem dX12_share_94 : decode cX12_share 94 = .ok (.lload 5, 2) := by decide +kernel
theorem dX12_share_96 : decode cX12_share 96 = .ok (.iload_n 1, 1) := by decide +kernel
theorem dX12_share_97 : decode cX12_share 97 = .ok (.i2l, 1) := by decide +kernel
theorem dX12_share_98 : decode cX12_share 98 = .ok (.lmul, 1) := by decide +kernel
theorem dX12_share_99 : decode cX12_share 99 = .ok (.lstore 9, 2) := by decide +kernel
theorem dX12_share_101 : decode cX12_share 101 = .ok (.iconst 0, 1) := by decide +kernel
theorem dX12_share_102 : decode cX12_share 102 = .ok (.istore 11, 2) := by decide +kernel
theorem dX12_share_104 : decode cX12_share 104 = .ok (.lload 9, 2) := by decide +kernel
theorem dX12_share_106 : decode cX12_share 106 = .ok (.iload 11, 2) := by decide +kernel
theorem dX12_share_108 : decode cX12_share 108 = .ok (.lshr, 1) := by decide +kernel
theorem dX12_share_109 : decode cX12_share 109 = .ok (.ldc2_w 294, 3) := by decide +kernel
theorem dX12_share_112 : decode cX12_share 112 = .ok (.lcmp, 1) := by decide +kernel
theorem dX12_share_113 : decode cX12_share 113 = .ok (.ifCond .lt 9, 3) := by decide +kernel
theorem dX12_share_116 : decode cX12_share 116 = .ok (.iinc 11 1, 3) := by decide +kernel
theorem dX12_share_119 : decode cX12_share 119 = .ok (.goto (-15), 3) := by decide +kernel
theorem dX12_share_122 : decode cX12_share 122 = .ok (.iload 11, 2) := by decide +kernel
theorem dX12_share_124 : decode cX12_share 124 = .ok (.ifCond .le 67, 3) := by decide +kernel
theorem dX12_share_127 : decode cX12_share 127 = .ok (.lconst 1, 1) := by decide +kernel
theorem dX12_share_128 : decode cX12_share 128 = .ok (.iload 11, 2) := by decide +kernel
theorem dX12_share_130 : decode cX12_share 130 = .ok (.iconst 1, 1) := by decide +kernel
theorem dX12_share_131 : decode cX12_share 131 = .ok (.isub, 1) := by decide +kernel
theorem dX12_share_132 : decode cX12_share 132 = .ok (.lshl, 1) := by decide +kernel
theorem dX12_share_133 : decode cX12_share 133 = .ok (.lstore 12, 2) := by decide +kernel
theorem dX12_share_135 : decode cX12_share 135 = .ok (.lload 9, 2) := by decide +kernel
theorem dX12_share_137 : decode cX12_share 137 = .ok (.lconst 1, 1) := by decide +kernel
theorem dX12_share_138 : decode cX12_share 138 = .ok (.iload 11, 2) := by decide +kernel
theorem dX12_share_140 : decode cX12_share 140 = .ok (.lshl, 1) := by decide +kernel
theorem dX12_share_141 : decode cX12_share 141 = .ok (.lconst 1, 1) := by decide +kernel
theorem dX12_share_142 : decode cX12_share 142 = .ok (.lsub, 1) := by decide +kernel
theorem dX12_share_143 : decode cX12_share 143 = .ok (.land, 1) := by decide +kernel
theorem dX12_share_144 : decode cX12_share 144 = .ok (.lstore 14, 2) := by decide +kernel
theorem dX12_share_146 : decode cX12_share 146 = .ok (.lload 9, 2) := by decide +kernel
theorem dX12_share_148 : decode cX12_share 148 = .ok (.iload 11, 2) := by decide +kernel
theorem dX12_share_150 : decode cX12_share 150 = .ok (.lshr, 1) := by decide +kernel
theorem dX12_share_151 : decode cX12_share 151 = .ok (.lstore 9, 2) := by decide +kernel
theorem dX12_share_153 : decode cX12_share 153 = .ok (.lload 14, 2) := by decide +kernel
theorem dX12_share_155 : decode cX12_share 155 = .ok (.lload 12, 2) := by decide +kernel
theorem dX12_share_157 : decode cX12_share 157 = .ok (.lcmp, 1) := by decide +kernel
theorem dX12_share_158 : decode cX12_share 158 = .ok (.ifCond .gt 20, 3) := by decide +kernel
theorem dX12_share_161 : decode cX12_share 161 = .ok (.lload 14, 2) := by decide +kernel
theorem dX12_share_163 : decode cX12_share 163 = .ok (.lload 12, 2) := by decide +kernel
theorem dX12_share_165 : decode cX12_share 165 = .ok (.lcmp, 1) := by decide +kernel
theorem dX12_share_166 : decode cX12_share 166 = .ok (.ifCond .ne 18, 3) := by decide +kernel
theorem dX12_share_169 : decode cX12_share 169 = .ok (.lload 9, 2) := by decide +kernel
theorem dX12_share_171 : decode cX12_share 171 = .ok (.lconst 1, 1) := by decide +kernel
theorem dX12_share_172 : decode cX12_share 172 = .ok (.land, 1) := by decide +kernel
theorem dX12_share_173 : decode cX12_share 173 = .ok (.lconst 0, 1) := by decide +kernel
theorem dX12_share_174 : decode cX12_share 174 = .ok (.lcmp, 1) := by decide +kernel
theorem dX12_share_175 : decode cX12_share 175 = .ok (.ifCond .eq 9, 3) := by decide +kernel
theorem dX12_share_178 : decode cX12_share 178 = .ok (.lload 9, 2) := by decide +kernel
theorem dX12_share_180 : decode cX12_share 180 = .ok (.lconst 1, 1) := by decide +kernel
theorem dX12_share_181 : decode cX12_share 181 = .ok (.ladd, 1) := by decide +kernel
theorem dX12_share_182 : decode cX12_share 182 = .ok (.lstore 9, 2) := by decide +kernel
theorem dX12_share_184 : decode cX12_share 184 = .ok (.lload 9, 2) := by decide +kernel
theorem dX12_share_186 : decode cX12_share 186 = .ok (.iload 11, 2) := by decide +kernel
theorem dX12_share_188 : decode cX12_share 188 = .ok (.lshl, 1) := by decide +kernel
theorem dX12_share_189 : decode cX12_share 189 = .ok (.lstore 9, 2) := by decide +kernel
theorem dX12_share_191 : decode cX12_share 191 = .ok (.lload 9, 2) := by decide +kernel
theorem dX12_share_193 : decode cX12_share 193 = .ok (.iload_n 2, 1) := by decide +kernel
theorem dX12_share_194 : decode cX12_share 194 = .ok (.lshr, 1) := by decide +kernel
theorem dX12_share_195 : decode cX12_share 195 = .ok (.l2i, 1) := by decide +kernel
theorem dX12_share_196 : decode cX12_share 196 = .ok (.ireturn, 1) := by decide +kernel
theorem j_Md_share_191 {l2 : Int} {l9 : Int64} {h : xH} {r0 : Int}  (hf : f_Md_share_191 l2 l9 h = some r0)  : J mX12_share true 0 0 191 xKn [(2, xI l2), (9, xL l9)] [] h (xEq (some r0) h) := by
  unfold f_Md_share_191 at hf
  refine J_lload 1 dX12_share_191 rfl ?_
  refine J_iload_n 0 dX12_share_193 rfl rfl ?_
  refine J_lshr dX12_share_194 ?_
  refine J_l2i dX12_share_195 ?_
  exact J_ireti dX12_share_196 rfl (xq_p hf)
theorem j_Md_share_184 {l2 : Int} {l9 : Int64} {l11 : Int} {h : xH} {r0 : Int}  (hf : f_Md_share_184 l2 l9 l11 h = some r0)  : J mX12_share true 0 0 184 xKn [(2, xI l2), (9, xL l9), (11, xI l11)] [] h (xEq (some r0) h) := by
  unfold f_Md_share_184 at hf
  refine J_lload 1 dX12_share_184 rfl ?_
  refine J_iload 2 dX12_share_186 rfl ?_
  refine J_lshl dX12_share_188 ?_
  obtain ⟨x1, ex1, hf⟩ := xlet_e hf
  refine J_lstore (ls' := [(9, xL x1), (2, xI l2), (11, xI l11)]) dX12_share_189 (by decide) ex1 rfl ?_
  refine J_sub [1, 0] rfl ?_
  exact j_Md_share_191  hf
theorem j_Md_share_178 {l2 : Int} {l9 : Int64} {l11 : Int} {h : xH} {r0 : Int}  (hf : f_Md_share_178 l2 l9 l11 h = some r0)  : J mX12_share true 0 0 178 xKn [(2, xI l2), (9, xL l9), (11, xI l11)] [] h (xEq (some r0) h) := by
  unfold f_Md_share_178 at hf
  refine J_lload 1 dX12_share_178 rfl ?_
  refine J_lconst (k0 := 1) (v := 1) dX12_share_180 rfl ?_
  refine J_ladd dX12_share_181 ?_
  obtain ⟨x1, ex1, hf⟩ := xlet_e hf
  refine J_lstore (ls' := [(9, xL x1), (2, xI l2), (11, xI l11)]) dX12_share_182 (by decide) ex1 rfl ?_
  refine J_sub [1, 0, 2] rfl ?_
  exact j_Md_share_184  hf
theorem j_Md_share_122 {l2 : Int} {l9 : Int64} {l11 : Int} {h : xH} {r0 : Int}  (hf : f_Md_share_122 l2 l9 l11 h = some r0)  : J mX12_share true 0 0 122 xKn [(2, xI l2), (9, xL l9), (11, xI l11)] [] h (xEq (some r0) h) := by
  unfold f_Md_share_122 at hf
  refine J_iload 2 dX12_share_122 rfl ?_
  refine J_if_le (tgt := 191) dX12_share_124 (by decide) (fun hc => ?_) (fun hc => ?_)
  · have hf := xip hc hf
    refine J_lconst (k0 := 1) (v := 1) dX12_share_127 rfl ?_
    refine J_iload 2 dX12_share_128 rfl ?_
    refine J_iconst dX12_share_130 (by decide) ?_
    refine J_isub dX12_share_131 ?_
    refine J_lshl dX12_share_132 ?_
    obtain ⟨x1, ex1, hf⟩ := xlet_e hf
    refine J_lstore (ls' := [(12, xL x1), (2, xI l2), (9, xL l9), (11, xI l11)]) dX12_share_133 (by decide) ex1 rfl ?_
    refine J_lload 2 dX12_share_135 rfl ?_
    refine J_lconst (k0 := 1) (v := 1) dX12_share_137 rfl ?_
    refine J_iload 3 dX12_share_138 rfl ?_
    refine J_lshl dX12_share_140 ?_
    refine J_lconst (k0 := 1) (v := 1) dX12_share_141 rfl ?_
    refine J_lsub dX12_share_142 ?_
    refine J_land dX12_share_143 ?_
    obtain ⟨x2, ex2, hf⟩ := xlet_e hf
    refine J_lstore (ls' := [(14, xL x2), (12, xL x1), (2, xI l2), (9, xL l9), (11, xI l11)]) dX12_share_144 (by decide) ex2 rfl ?_
    refine J_lload 3 dX12_share_146 rfl ?_
    refine J_iload 4 dX12_share_148 rfl ?_
    refine J_lshr dX12_share_150 ?_
    obtain ⟨x3, ex3, hf⟩ := xlet_e hf
    refine J_lstore (ls' := [(9, xL x3), (14, xL x2), (12, xL x1), (2, xI l2), (11, xI l11)]) dX12_share_151 (by decide) ex3 rfl ?_
    refine J_lload 1 dX12_share_153 rfl ?_
    refine J_lload 2 dX12_share_155 rfl ?_
    refine J_lcmp dX12_share_157 ?_
    refine J_if_gt (tgt := 178) dX12_share_158 (by decide) (fun hc => ?_) (fun hc => ?_)
    · have hf := xip hc hf
      refine J_sub [3, 0, 4] rfl ?_
      exact j_Md_share_178  hf
    · have hf := xin' hc hf
      refine J_lload 1 dX12_share_161 rfl ?_
      refine J_lload 2 dX12_share_163 rfl ?_
      refine J_lcmp dX12_share_165 ?_
      refine J_if_ne (tgt := 184) dX12_share_166 (by decide) (fun hc => ?_) (fun hc => ?_)
      · have hf := xip hc hf
        refine J_lload 0 dX12_share_169 rfl ?_
        refine J_lconst (k0 := 1) (v := 1) dX12_share_171 rfl ?_
        refine J_land dX12_share_172 ?_
        refine J_lconst (k0 := 0) (v := 0) dX12_share_173 rfl ?_
        refine J_lcmp dX12_share_174 ?_
        refine J_if_eq (tgt := 184) dX12_share_175 (by decide) (fun hc => ?_) (fun hc => ?_)
        · have hf := xip hc hf
          refine J_sub [3, 0, 4] rfl ?_
          exact j_Md_share_184  hf
        · have hf := xin' hc hf
          refine J_sub [3, 0, 4] rfl ?_
          exact j_Md_share_178  hf
      · have hf := xin' hc hf
        refine J_sub [3, 0, 4] rfl ?_
        exact j_Md_share_184  hf
  · have hf := xin' hc hf
    refine J_sub [0, 1] rfl ?_
    exact j_Md_share_191  hf
theorem j_Md_share_s104 {l2 : Int} {l9 : Int64} {l11 : Int} {h : xH} {x : (Int ⊕ Int)} {Q : xQ}  (hf : f_Md_share_s104 l2 l9 l11 h = some x) (kb : ∀ (l11' : Int), x = Sum.inl l11' → J mX12_share true 0 0 104 xKn [(2, xI l2), (9, xL l9), (11, xI l11')] [] h Q) (ke : ∀ (l11' : Int), x = (Sum.inr l11') → J mX12_share true 0 0 122 xKn [(2, xI l2), (9, xL l9), (11, xI l11')] [] h Q) : J mX12_share true 0 0 104 xKn [(2, xI l2), (9, xL l9), (11, xI l11)] [] h Q := by
  unfold f_Md_share_s104 at hf
  refine J_lload 1 dX12_share_104 rfl ?_
  refine J_iload 2 dX12_share_106 rfl ?_
  refine J_lshr dX12_share_108 ?_
  refine J_ldc2 dX12_share_109 xq1443 ?_
  refine J_lcmp dX12_share_112 ?_
  refine J_if_lt (tgt := 122) dX12_share_113 (by decide) (fun hc => ?_) (fun hc => ?_)
  · have hf := xip hc hf
    exact ke _ (xinl hf)
  · have hf := xin' hc hf
    obtain ⟨x1, ex1, hf⟩ := xlet_e hf
    refine J_iinc (ls' := [(11, xI x1), (2, xI l2), (9, xL l9)]) 2 dX12_share_116 rfl (by decide) ex1 rfl ?_
    refine J_goto (tgt := 104) dX12_share_119 (by decide) ?_
    refine J_sub [1, 2, 0] rfl ?_
    exact kb _ (xinl hf)
theorem j_Md_share_104 {l2 : Int} {l9 : Int64} {l11 : Int} {h : xH} {r0 : Int}  (hf : f_Md_share_104 l2 l9 l11 h = some r0)  : J mX12_share true 0 0 104 xKn [(2, xI l2), (9, xL l9), (11, xI l11)] [] h (xEq (some r0) h) := by
  unfold f_Md_share_104 at hf
  obtain ⟨b0, hb0, hf⟩ := xc1_e hf
  refine xloop_ind (P := fun s : Int => J mX12_share true 0 0 104 xKn [(2, xI l2), (9, xL l9), (11, xI s)] [] h (xEq (some r0) h)) hb0 (fun s x1 hs ib ie => ?_)
  exact j_Md_share_s104  hs (fun _ e => ib _ e) (fun _ e => by have := ie _ e; subst this; exact j_Md_share_122  hf)
theorem j_Md_share_94 {l1 : Int} {l2 : Int} {l5 : Int64} {h : xH} {r0 : Int}  (hf : f_Md_share_94 l1 l2 l5 h = some r0)  : J mX12_share true 0 0 94 xKn [(1, xI l1), (2, xI l2), (5, xL l5)] [] h (xEq (some r0) h) := by
  unfold f_Md_share_94 at hf
  refine J_lload 2 dX12_share_94 rfl ?_
  refine J_iload_n 0 dX12_share_96 rfl rfl ?_
  refine J_i2l dX12_share_97 ?_
  refine J_lmul dX12_share_98 ?_
  obtain ⟨x1, ex1, hf⟩ := xlet_e hf
  refine J_lstore (ls' := [(9, xL x1), (1, xI l1), (2, xI l2), (5, xL l5)]) dX12_share_99 (by decide) ex1 rfl ?_
  refine J_iconst dX12_share_101 (by decide) ?_
  refine J_istore (ls' := [(11, xI 0), (9, xL x1), (1, xI l1), (2, xI l2), (5, xL l5)]) dX12_share_102 (by decide) rfl rfl ?_
  refine J_sub [3, 1, 0] rfl ?_
  exact j_Md_share_104  hf
theorem j_Md_share_88 {l1 : Int} {l2 : Int} {l5 : Int64} {h : xH} {r0 : Int}  (hf : f_Md_share_88 l1 l2 l5 h = some r0)  : J mX12_share true 0 0 88 xKn [(1, xI l1), (2, xI l2), (5, xL l5)] [] h (xEq (some r0) h) := by
  unfold f_Md_share_88 at hf
  refine J_lload 2 dX12_share_88 rfl ?_
  refine J_lconst (k0 := 1) (v := 1) dX12_share_90 rfl ?_
  refine J_ladd dX12_share_91 ?_
  obtain ⟨x1, ex1, hf⟩ := xlet_e hf
  refine J_lstore (ls' := [(5, xL x1), (1, xI l1), (2, xI l2)]) dX12_share_92 (by decide) ex1 rfl ?_
  refine J_sub [1, 2, 0] rfl ?_
  exact j_Md_share_94  hf
theorem j_Md_share_39 {l1 : Int} {l2 : Int} {l3 : Int64} {h : xH} {r0 : Int}  (hf : f_Md_share_39 l1 l2 l3 h = some r0)  : J mX12_share true 0 0 39 xKn [(1, xI l1), (2, xI l2), (3, xL l3)] [] h (xEq (some r0) h) := by
  unfold f_Md_share_39 at hf
  refine J_lload_n 2 dX12_share_39 rfl rfl ?_
  refine J_ldc2 dX12_share_40 xq1440 ?_
  refine J_ldiv dX12_share_43 (by decide) ?_
  obtain ⟨x1, ex1, hf⟩ := xlet_e hf
  refine J_lstore (ls' := [(5, xL x1), (1, xI l1), (2, xI l2), (3, xL l3)]) dX12_share_44 (by decide) ex1 rfl ?_
  refine J_lload_n 3 dX12_share_46 rfl rfl ?_
  refine J_ldc2 dX12_share_47 xq1440 ?_
  refine J_lrem dX12_share_50 (by decide) ?_
  obtain ⟨x2, ex2, hf⟩ := xlet_e hf
  refine J_lstore (ls' := [(7, xL x2), (5, xL x1), (1, xI l1), (2, xI l2), (3, xL l3)]) dX12_share_51 (by decide) ex2 rfl ?_
  refine J_ldc2 dX12_share_53 xq1442 ?_
  refine J_lload 0 dX12_share_56 rfl ?_
  refine J_lmul dX12_share_58 ?_
  refine J_ldc2 dX12_share_59 xq1440 ?_
  refine J_lcmp dX12_share_62 ?_
  refine J_if_gt (tgt := 88) dX12_share_63 (by decide) (fun hc => ?_) (fun hc => ?_)
  · have hf := xip hc hf
    refine J_sub [2, 3, 1] rfl ?_
    exact j_Md_share_88  hf
  · have hf := xin' hc hf
    refine J_ldc2 dX12_share_66 xq1442 ?_
    refine J_lload 0 dX12_share_69 rfl ?_
    refine J_lmul dX12_share_71 ?_
    refine J_ldc2 dX12_share_72 xq1440 ?_
    refine J_lcmp dX12_share_75 ?_
    refine J_if_ne (tgt := 94) dX12_share_76 (by decide) (fun hc => ?_) (fun hc => ?_)
    · have hf := xip hc hf
      refine J_lload 1 dX12_share_79 rfl ?_
      refine J_lconst (k0 := 1) (v := 1) dX12_share_81 rfl ?_
      refine J_land dX12_share_82 ?_
      refine J_lconst (k0 := 0) (v := 0) dX12_share_83 rfl ?_
      refine J_lcmp dX12_share_84 ?_
      refine J_if_eq (tgt := 94) dX12_share_85 (by decide) (fun hc => ?_) (fun hc => ?_)
      · have hf := xip hc hf
        refine J_sub [2, 3, 1] rfl ?_
        exact j_Md_share_94  hf
      · have hf := xin' hc hf
        refine J_sub [2, 3, 1] rfl ?_
        exact j_Md_share_88  hf
    · have hf := xin' hc hf
      refine J_sub [2, 3, 1] rfl ?_
      exact j_Md_share_94  hf
theorem j_Md_share_s17 {l1 : Int} {l2 : Int} {l3 : Int64} {h : xH} {x : ((Int × Int64) ⊕ (Int × Int64))} {Q : xQ}  (hf : f_Md_share_s17 l1 l2 l3 h = some x) (kb : ∀ (l2' : Int) (l3' : Int64), x = Sum.inl (l2', l3') → J mX12_share true 0 0 17 xKn [(1, xI l1), (2, xI l2'), (3, xL l3')] [] h Q) (ke : ∀ (l2' : Int) (l3' : Int64), x = (Sum.inr (l2', l3')) → J mX12_share true 0 0 39 xKn [(1, xI l1), (2, xI l2'), (3, xL l3')] [] h Q) : J mX12_share true 0 0 17 xKn [(1, xI l1), (2, xI l2), (3, xL l3)] [] h Q := by
  unfold f_Md_share_s17 at hf
  refine J_lload_n 2 dX12_share_17 rfl rfl ?_
  refine J_ldc2 dX12_share_18 xq1440 ?_
  refine J_ldiv dX12_share_21 (by decide) ?_
  refine J_ldc2 dX12_share_22 xq1441 ?_
  refine J_lcmp dX12_share_25 ?_
  refine J_if_ge (tgt := 39) dX12_share_26 (by decide) (fun hc => ?_) (fun hc => ?_)
  · have hf := xip hc hf
    refine J_lload_n 2 dX12_share_29 rfl rfl ?_
    refine J_iconst dX12_share_30 (by decide) ?_
    refine J_lshl dX12_share_31 ?_
    obtain ⟨x1, ex1, hf⟩ := xlet_e hf
    refine J_lstore_n (ls' := [(3, xL x1), (1, xI l1), (2, xI l2)]) dX12_share_32 rfl (by decide) ex1 rfl ?_
    obtain ⟨x2, ex2, hf⟩ := xlet_e hf
    refine J_iinc (ls' := [(2, xI x2), (3, xL x1), (1, xI l1)]) 2 dX12_share_33 rfl (by decide) ex2 rfl ?_
    refine J_goto (tgt := 17) dX12_share_36 (by decide) ?_
    refine J_sub [2, 0, 1] rfl ?_
    exact kb _ _ (xinl hf)
  · have hf := xin' hc hf
    exact ke _ _ (xinl hf)
theorem j_Md_share_17 {l1 : Int} {l2 : Int} {l3 : Int64} {h : xH} {r0 : Int}  (hf : f_Md_share_17 l1 l2 l3 h = some r0)  : J mX12_share true 0 0 17 xKn [(1, xI l1), (2, xI l2), (3, xL l3)] [] h (xEq (some r0) h) := by
  unfold f_Md_share_17 at hf
  obtain ⟨b0, hb0, hf⟩ := xc1_e hf
  refine xloop_ind (P := fun s : (Int × Int64) => J mX12_share true 0 0 17 xKn [(1, xI l1), (2, xI s.1), (3, xL s.2)] [] h (xEq (some r0) h)) hb0 (fun s x1 hs ib ie => ?_)
  exact j_Md_share_s17  hs (fun _ _ e => ib _ e) (fun _ _ e => by have := ie _ e; subst this; exact j_Md_share_39  hf)
theorem jm_Md_share {l1 : Int} {h : xH} {r0 : Int}  (hf : f_Md_share l1 h = some r0) : J mX12_share true 0 0 0 xKn (xen 0 [xR 81, xI l1]) [] h (xEq (some r0) h) := by
  unfold f_Md_share at hf
  refine J_cong (ls2 := [(0, xR 81), (1, xI l1)]) (st2 := []) rfl rfl ?_
  refine J_aload_n 0 dX12_share_0 rfl rfl ?_
  refine J_getI (j := 15) xcf12 dX12_share_1 (xK_rg kO81) kO81 (Or.inl xq1035) (by decide) (by decide) ?_
  refine J_if_ne (tgt := 9) dX12_share_4 (by decide) (fun hc => ?_) (fun hc => ?_)
  · have hf := xip hc hf
    refine J_iconst dX12_share_7 (by decide) ?_
    exact J_ireti dX12_share_8 rfl (xq_p hf)
  · have hf := xin' hc hf
    refine J_iconst dX12_share_9 (by decide) ?_
    refine J_istore_n (ls' := [(2, xI 0), (0, xR 81), (1, xI l1)]) dX12_share_10 rfl (by decide) rfl rfl ?_
    refine J_aload_n 1 dX12_share_11 rfl rfl ?_
    refine J_getI (j := 15) xcf12 dX12_share_12 (xK_rg kO81) kO81 (Or.inl xq1035) (by decide) (by decide) ?_
    refine J_i2l dX12_share_15 ?_
    obtain ⟨x1, ex1, hf⟩ := xlet_e hf
    refine J_lstore_n (ls' := [(3, xL x1), (2, xI 0), (0, xR 81), (1, xI l1)]) dX12_share_16 rfl (by decide) ex1 rfl ?_
    refine J_sub [3, 1, 0] rfl ?_
    exact j_Md_share_17  hf
theorem dX12_swapPrice_0 : decode cX12_swapPrice 0 = .ok (.aload_n 0, 1) := by decide +kernel
theorem dX12_swapPrice_1 : decode cX12_swapPrice 1 = .ok (.getfield 31, 3) := by decide +kernel
theorem dX12_swapPrice_4 : decode cX12_swapPrice 4 = .ok (.bipush 26, 2) := by decide +kernel
theorem dX12_swapPrice_6 : decode cX12_swapPrice 6 = .ok (.iload_n 1, 1) := by decide +kernel
theorem dX12_swapPrice_7 : decode cX12_swapPrice 7 = .ok (.imul, 1) := by decide +kernel
theorem dX12_swapPrice_8 : decode cX12_swapPrice 8 = .ok (.iload_n 2, 1) := by decide +kernel
theorem dX12_swapPrice_9 : decode cX12_swapPrice 9 = .ok (.iadd, 1) := by decide +kernel
theorem dX12_swapPrice_10 : decode cX12_swapPrice 10 = .ok (.iaload, 1) := by decide +kernel
theorem dX12_swapPrice_11 : decode cX12_swapPrice 11 = .ok (.ifCond .le 17, 3) := by decide +kernel
theorem dX12_swapPrice_14 : decode cX12_swapPrice 14 = .ok (.aload_n 0, 1) := by decide +kernel
theorem dX12_swapPrice_15 : decode cX12_swapPrice 15 = .ok (.getfield 31, 3) := by decide +kernel
theorem dX12_swapPrice_18 : decode cX12_swapPrice 18 = .ok (.bipush 26, 2) := by decide +kernel
theorem dX12_swapPrice_20 : decode cX12_swapPrice 20 = .ok (.iload_n 1, 1) := by decide +kernel
theorem dX12_swapPrice_21 : decode cX12_swapPrice 21 = .ok (.imul, 1) := by decide +kernel
theorem dX12_swapPrice_22 : decode cX12_swapPrice 22 = .ok (.iload_n 2, 1) := by decide +kernel
theorem dX12_swapPrice_23 : decode cX12_swapPrice 23 = .ok (.iadd, 1) := by decide +kernel
theorem dX12_swapPrice_24 : decode cX12_swapPrice 24 = .ok (.iaload, 1) := by decide +kernel
theorem dX12_swapPrice_25 : decode cX12_swapPrice 25 = .ok (.goto 9, 3) := by decide +kernel
theorem dX12_swapPrice_28 : decode cX12_swapPrice 28 = .ok (.aload_n 0, 1) := by decide +kernel
theorem dX12_swapPrice_29 : decode cX12_swapPrice 29 = .ok (.getfield 28, 3) := by decide +kernel
theorem dX12_swapPrice_32 : decode cX12_swapPrice 32 = .ok (.iconst 1, 1) := by decide +kernel
theorem dX12_swapPrice_33 : decode cX12_swapPrice 33 = .ok (.iaload, 1) := by decide +kernel
theorem dX12_swapPrice_34 : decode cX12_swapPrice 34 = .ok (.ireturn, 1) := by decide +kernel
theorem jm_Md_swapPrice {l1 : Int} {l2 : Int} {h : xH} {r0 : Int}  (hf : f_Md_swapPrice l1 l2 h = some r0) : J mX12_swapPrice true 0 0 0 xKn (xen 0 [xR 81, xI l1, xI l2]) [] h (xEq (some r0) h) := by
  unfold f_Md_swapPrice at hf
  refine J_cong (ls2 := [(0, xR 81), (1, xI l1), (2, xI l2)]) (st2 := []) rfl rfl ?_
  refine J_aload_n 0 dX12_swapPrice_0 rfl rfl ?_
  refine J_getRl (j := 10) xcf12 dX12_swapPrice_1 kO81 (Or.inl xq1030) (by decide) (by decide) rf_81_10 ?_
  refine J_bip dX12_swapPrice_4 (by decide) ?_
  refine J_iload_n 1 dX12_swapPrice_6 rfl rfl ?_
  refine J_imul dX12_swapPrice_7 ?_
  refine J_iload_n 2 dX12_swapPrice_8 rfl rfl ?_
  refine J_iadd dX12_swapPrice_9 ?_
  obtain ⟨hg, hf⟩ := xgd_e hf
  refine J_iald dX12_swapPrice_10 (xK_r1 kO89) kO89 hg nA89 ?_
  refine J_if_le (tgt := 28) dX12_swapPrice_11 (by decide) (fun hc => ?_) (fun hc => ?_)
  · have hf := xip hc hf
    refine J_aload_n 0 dX12_swapPrice_14 rfl rfl ?_
    refine J_getRl (j := 10) xcf12 dX12_swapPrice_15 kO81 (Or.inl xq1030) (by decide) (by decide) rf_81_10 ?_
    refine J_bip dX12_swapPrice_18 (by decide) ?_
    refine J_iload_n 1 dX12_swapPrice_20 rfl rfl ?_
    refine J_imul dX12_swapPrice_21 ?_
    refine J_iload_n 2 dX12_swapPrice_22 rfl rfl ?_
    refine J_iadd dX12_swapPrice_23 ?_
    obtain ⟨hg, hf⟩ := xgd_e hf
    refine J_iald dX12_swapPrice_24 (xK_r1 kO89) kO89 hg nA89 ?_
    refine J_goto (tgt := 34) dX12_swapPrice_25 (by decide) ?_
    exact J_ireti dX12_swapPrice_34 rfl (xq_p hf)
  · have hf := xin' hc hf
    refine J_aload_n 0 dX12_swapPrice_28 rfl rfl ?_
    refine J_getRl (j := 9) xcf12 dX12_swapPrice_29 kO81 (Or.inl xq1029) (by decide) (by decide) rf_81_9 ?_
    refine J_iconst dX12_swapPrice_32 (by decide) ?_
    obtain ⟨hg, hf⟩ := xgd_e hf
    refine J_iald dX12_swapPrice_33 (xK_r1 kO88) kO88 hg nA88 ?_
    exact J_ireti dX12_swapPrice_34 rfl (xq_p hf)
theorem dX12_leftPrice_0 : decode cX12_leftPrice 0 = .ok (.aload_n 0, 1) := by decide +kernel
theorem dX12_leftPrice_1 : decode cX12_leftPrice 1 = .ok (.getfield 34, 3) := by decide +kernel
theorem dX12_leftPrice_4 : decode cX12_leftPrice 4 = .ok (.iload_n 1, 1) := by decide +kernel
theorem dX12_leftPrice_5 : decode cX12_leftPrice 5 = .ok (.iaload, 1) := by decide +kernel
theorem dX12_leftPrice_6 : decode cX12_leftPrice 6 = .ok (.ifCond .le 12, 3) := by decide +kernel
theorem dX12_leftPrice_9 : decode cX12_leftPrice 9 = .ok (.aload_n 0, 1) := by decide +kernel
theorem dX12_leftPrice_10 : decode cX12_leftPrice 10 = .ok (.getfield 34, 3) := by decide +kernel
theorem dX12_leftPrice_13 : decode cX12_leftPrice 13 = .ok (.iload_n 1, 1) := by decide +kernel
theorem dX12_leftPrice_14 : decode cX12_leftPrice 14 = .ok (.iaload, 1) := by decide +kernel
theorem dX12_leftPrice_15 : decode cX12_leftPrice 15 = .ok (.goto 9, 3) := by decide +kernel
theorem dX12_leftPrice_18 : decode cX12_leftPrice 18 = .ok (.aload_n 0, 1) := by decide +kernel
theorem dX12_leftPrice_19 : decode cX12_leftPrice 19 = .ok (.getfield 28, 3) := by decide +kernel
theorem dX12_leftPrice_22 : decode cX12_leftPrice 22 = .ok (.iconst 2, 1) := by decide +kernel
theorem dX12_leftPrice_23 : decode cX12_leftPrice 23 = .ok (.iaload, 1) := by decide +kernel
theorem dX12_leftPrice_24 : decode cX12_leftPrice 24 = .ok (.ireturn, 1) := by decide +kernel
theorem jm_Md_leftPrice {l1 : Int} {h : xH} {r0 : Int}  (hf : f_Md_leftPrice l1 h = some r0) : J mX12_leftPrice true 0 0 0 xKn (xen 0 [xR 81, xI l1]) [] h (xEq (some r0) h) := by
  unfold f_Md_leftPrice at hf
  refine J_cong (ls2 := [(0, xR 81), (1, xI l1)]) (st2 := []) rfl rfl ?_
  refine J_aload_n 0 dX12_leftPrice_0 rfl rfl ?_
  refine J_getRl (j := 11) xcf12 dX12_leftPrice_1 kO81 (Or.inl xq1031) (by decide) (by decide) rf_81_11 ?_
  refine J_iload_n 1 dX12_leftPrice_4 rfl rfl ?_
  obtain ⟨hg, hf⟩ := xgd_e hf
  refine J_iald dX12_leftPrice_5 (xK_r1 kO90) kO90 hg nA90 ?_
  refine J_if_le (tgt := 18) dX12_leftPrice_6 (by decide) (fun hc => ?_) (fun hc => ?_)
  · have hf := xip hc hf
    refine J_aload_n 0 dX12_leftPrice_9 rfl rfl ?_
    refine J_getRl (j := 11) xcf12 dX12_leftPrice_10 kO81 (Or.inl xq1031) (by decide) (by decide) rf_81_11 ?_
    refine J_iload_n 1 dX12_leftPrice_13 rfl rfl ?_
    obtain ⟨hg, hf⟩ := xgd_e hf
    refine J_iald dX12_leftPrice_14 (xK_r1 kO90) kO90 hg nA90 ?_
    refine J_goto (tgt := 24) dX12_leftPrice_15 (by decide) ?_
    exact J_ireti dX12_leftPrice_24 rfl (xq_p hf)
  · have hf := xin' hc hf
    refine J_aload_n 0 dX12_leftPrice_18 rfl rfl ?_
    refine J_getRl (j := 9) xcf12 dX12_leftPrice_19 kO81 (Or.inl xq1029) (by decide) (by decide) rf_81_9 ?_
    refine J_iconst dX12_leftPrice_22 (by decide) ?_
    obtain ⟨hg, hf⟩ := xgd_e hf
    refine J_iald dX12_leftPrice_23 (xK_r1 kO88) kO88 hg nA88 ?_
    exact J_ireti dX12_leftPrice_24 rfl (xq_p hf)
theorem dX12_putPrice_0 : decode cX12_putPrice 0 = .ok (.aload_n 0, 1) := by decide +kernel
theorem dX12_putPrice_1 : decode cX12_putPrice 1 = .ok (.getfield 37, 3) := by decide +kernel
theorem dX12_putPrice_4 : decode cX12_putPrice 4 = .ok (.iload_n 1, 1) := by decide +kernel
theorem dX12_putPrice_5 : decode cX12_putPrice 5 = .ok (.iaload, 1) := by decide +kernel
theorem dX12_putPrice_6 : decode cX12_putPrice 6 = .ok (.ifCond .le 12, 3) := by decide +kernel
theorem dX12_putPrice_9 : decode cX12_putPrice 9 = .ok (.aload_n 0, 1) := by decide +kernel
theorem dX12_putPrice_10 : decode cX12_putPrice 10 = .ok (.getfield 37, 3) := by decide +kernel
theorem dX12_putPrice_13 : decode cX12_putPrice 13 = .ok (.iload_n 1, 1) := by decide +kernel
theorem dX12_putPrice_14 : decode cX12_putPrice 14 = .ok (.iaload, 1) := by decide +kernel
theorem dX12_putPrice_15 : decode cX12_putPrice 15 = .ok (.goto 9, 3) := by decide +kernel
theorem dX12_putPrice_18 : decode cX12_putPrice 18 = .ok (.aload_n 0, 1) := by decide +kernel
theorem dX12_putPrice_19 : decode cX12_putPrice 19 = .ok (.getfield 28, 3) := by decide +kernel
theorem dX12_putPrice_22 : decode cX12_putPrice 22 = .ok (.iconst 3, 1) := by decide +kernel
theorem dX12_putPrice_23 : decode cX12_putPrice 23 = .ok (.iaload, 1) := by decide +kernel
theorem dX12_putPrice_24 : decode cX12_putPrice 24 = .ok (.ireturn, 1) := by decide +kernel
theorem jm_Md_putPrice {l1 : Int} {h : xH} {r0 : Int}  (hf : f_Md_putPrice l1 h = some r0) : J mX12_putPrice true 0 0 0 xKn (xen 0 [xR 81, xI l1]) [] h (xEq (some r0) h) := by
  unfold f_Md_putPrice at hf
  refine J_cong (ls2 := [(0, xR 81), (1, xI l1)]) (st2 := []) rfl rfl ?_
  refine J_aload_n 0 dX12_putPrice_0 rfl rfl ?_
  refine J_getRl (j := 12) xcf12 dX12_putPrice_1 kO81 (Or.inl xq1032) (by decide) (by decide) rf_81_12 ?_
  refine J_iload_n 1 dX12_putPrice_4 rfl rfl ?_
  obtain ⟨hg, hf⟩ := xgd_e hf
  refine J_iald dX12_putPrice_5 (xK_r1 kO91) kO91 hg nA91 ?_
  refine J_if_le (tgt := 18) dX12_putPrice_6 (by decide) (fun hc => ?_) (fun hc => ?_)
  · have hf := xip hc hf
    refine J_aload_n 0 dX12_putPrice_9 rfl rfl ?_
    refine J_getRl (j := 12) xcf12 dX12_putPrice_10 kO81 (Or.inl xq1032) (by decide) (by decide) rf_81_12 ?_
    refine J_iload_n 1 dX12_putPrice_13 rfl rfl ?_
    obtain ⟨hg, hf⟩ := xgd_e hf
    refine J_iald dX12_putPrice_14 (xK_r1 kO91) kO91 hg nA91 ?_
    refine J_goto (tgt := 24) dX12_putPrice_15 (by decide) ?_
    exact J_ireti dX12_putPrice_24 rfl (xq_p hf)
  · have hf := xin' hc hf
    refine J_aload_n 0 dX12_putPrice_18 rfl rfl ?_
    refine J_getRl (j := 9) xcf12 dX12_putPrice_19 kO81 (Or.inl xq1029) (by decide) (by decide) rf_81_9 ?_
    refine J_iconst dX12_putPrice_22 (by decide) ?_
    obtain ⟨hg, hf⟩ := xgd_e hf
    refine J_iald dX12_putPrice_23 (xK_r1 kO88) kO88 hg nA88 ?_
    exact J_ireti dX12_putPrice_24 rfl (xq_p hf)
theorem dX12_hasSound_0 : decode cX12_hasSound 0 = .ok (.iload_n 2, 1) := by decide +kernel
theorem dX12_hasSound_1 : decode cX12_hasSound 1 = .ok (.aload_n 0, 1) := by decide +kernel
theorem dX12_hasSound_2 : decode cX12_hasSound 2 = .ok (.getfield 47, 3) := by decide +kernel
theorem dX12_hasSound_5 : decode cX12_hasSound 5 = .ok (.iload_n 1, 1) := by decide +kernel
theorem dX12_hasSound_6 : decode cX12_hasSound 6 = .ok (.iaload, 1) := by decide +kernel
theorem dX12_hasSound_7 : decode cX12_hasSound 7 = .ok (.iadd, 1) := by decide +kernel
theorem dX12_hasSound_8 : decode cX12_hasSound 8 = .ok (.aload_n 0, 1) := by decide +kernel
theorem dX12_hasSound_9 : decode cX12_hasSound 9 = .ok (.getfield 228, 3) := by decide +kernel
theorem dX12_hasSound_12 : decode cX12_hasSound 12 = .ok (.if_icmp .gt 18, 3) := by decide +kernel
theorem dX12_hasSound_15 : decode cX12_hasSound 15 = .ok (.iload_n 3, 1) := by decide +kernel
theorem dX12_hasSound_16 : decode cX12_hasSound 16 = .ok (.aload_n 0, 1) := by decide +kernel
theorem dX12_hasSound_17 : decode cX12_hasSound 17 = .ok (.getfield 53, 3) := by decide +kernel
theorem dX12_hasSound_20 : decode cX12_hasSound 20 = .ok (.iload_n 1, 1) := by decide +kernel
theorem dX12_hasSound_21 : decode cX12_hasSound 21 = .ok (.iaload, 1) := by decide +kernel
theorem dX12_hasSound_22 : decode cX12_hasSound 22 = .ok (.iadd, 1) := by decide +kernel
theorem dX12_hasSound_23 : decode cX12_hasSound 23 = .ok (.aload_n 0, 1) := by decide +kernel
theorem dX12_hasSound_24 : decode cX12_hasSound 24 = .ok (.getfield 231, 3) := by decide +kernel
theorem dX12_hasSound_27 : decode cX12_hasSound 27 = .ok (.if_icmp .le 5, 3) := by decide +kernel
theorem dX12_hasSound_30 : decode cX12_hasSound 30 = .ok (.iconst 0, 1) := by decide +kernel
theorem dX12_hasSound_31 : decode cX12_hasSound 31 = .ok (.ireturn, 1) := by decide +kernel
theorem dX12_hasSound_32 : decode cX12_hasSound 32 = .ok (.iconst 0, 1) := by decide +kernel
theorem dX12_hasSound_33 : decode cX12_hasSound 33 = .ok (.istore 4, 2) := by decide +kernel
theorem dX12_hasSound_35 : decode cX12_hasSound 35 = .ok (.iload 4, 2) := by decide +kernel
theorem dX12_hasSound_37 : decode cX12_hasSound 37 = .ok (.aload_n 0, 1) := by decide +kernel
theorem dX12_hasSound_38 : decode cX12_hasSound 38 = .ok (.getfield 47, 3) := by decide +kernel
theorem dX12_hasSound_41 : decode cX12_hasSound 41 = .ok (.iload_n 1, 1) := by decide +kernel
theorem dX12_hasSound_42 : decode cX12_hasSound 42 = .ok (.iaload, 1) := by decide +kernel
theorem dX12_hasSound_43 : decode cX12_hasSound 43 = .ok (.if_icmp .ge 34, 3) := by decide +kernel
theorem dX12_hasSound_46 : decode cX12_hasSound 46 = .ok (.aload_n 0, 1) := by decide +kernel
theorem dX12_hasSound_47 : decode cX12_hasSound 47 = .ok (.getfield 62, 3) := by decide +kernel
theorem dX12_hasSound_50 : decode cX12_hasSound 50 = .ok (.iload_n 2, 1) := by decide +kernel
theorem dX12_hasSound_51 : decode cX12_hasSound 51 = .ok (.iload 4, 2) := by decide +kernel
theorem dX12_hasSound_53 : decode cX12_hasSound 53 = .ok (.iadd, 1) := by decide +kernel
theorem dX12_hasSound_54 : decode cX12_hasSound 54 = .ok (.iaload, 1) := by decide +kernel
theorem dX12_hasSound_55 : decode cX12_hasSound 55 = .ok (.aload_n 0, 1) := by decide +kernel
theorem dX12_hasSound_56 : decode cX12_hasSound 56 = .ok (.getfield 50, 3) := by decide +kernel
theorem dX12_hasSound_59 : decode cX12_hasSound 59 = .ok (.iconst 3, 1) := by decide +kernel
theorem dX12_hasSound_60 : decode cX12_hasSound 60 = .ok (.iload_n 1, 1) := by decide +kernel
theorem dX12_hasSound_61 : decode cX12_hasSound 61 = .ok (.imul, 1) := by decide +kernel
theorem dX12_hasSound_62 : decode cX12_hasSound 62 = .ok (.iload 4, 2) := by decide +kernel
theorem dX12_hasSound_64 : decode cX12_hasSound 64 = .ok (.iadd, 1) := by decide +kernel
theorem dX12_hasSound_65 : decode cX12_hasSound 65 = .ok (.iaload, 1) := by decide +kernel
theorem dX12_hasSound_66 : decode cX12_hasSound 66 = .ok (.if_icmp .eq 5, 3) := by decide +kernel
theorem dX12_hasSound_69 : decode cX12_hasSound 69 = .ok (.iconst 0, 1) := by decide +kernel
theorem dX12_hasSound_70 : decode cX12_hasSound 70 = .ok (.ireturn, 1) := by decide +kernel
theorem dX12_hasSound_71 : decode cX12_hasSound 71 = .ok (.iinc 4 1, 3) := by decide +kernel
theorem dX12_hasSound_74 : decode cX12_hasSound 74 = .ok (.goto (-39), 3) := by decide +kernel
theorem dX12_hasSound_77 : decode cX12_hasSound 77 = .ok (.iconst 0, 1) := by decide +kernel
theorem dX12_hasSound_78 : decode cX12_hasSound 78 = .ok (.istore 4, 2) := by decide +kernel
theorem dX12_hasSound_80 : decode cX12_hasSound 80 = .ok (.iload 4, 2) := by decide +kernel
theorem dX12_hasSound_82 : decode cX12_hasSound 82 = .ok (.aload_n 0, 1) := by decide +kernel
theorem dX12_hasSound_83 : decode cX12_hasSound 83 = .ok (.getfield 53, 3) := by decide +kernel
theorem dX12_hasSound_86 : decode cX12_hasSound 86 = .ok (.iload_n 1, 1) := by decide +kernel
theorem dX12_hasSound_87 : decode cX12_hasSound 87 = .ok (.iaload, 1) := by decide +kernel
theorem dX12_hasSound_88 : decode cX12_hasSound 88 = .ok (.if_icmp .ge 34, 3) := by decide +kernel
theorem dX12_hasSound_91 : decode cX12_hasSound 91 = .ok (.aload_n 0, 1) := by decide +kernel
theorem dX12_hasSound_92 : decode cX12_hasSound 92 = .ok (.getfield 65, 3) := by decide +kernel
theorem dX12_hasSound_95 : decode cX12_hasSound 95 = .ok (.iload_n 3, 1) := by decide +kernel
theorem dX12_hasSound_96 : decode cX12_hasSound 96 = .ok (.iload 4, 2) := by decide +kernel
theorem dX12_hasSound_98 : decode cX12_hasSound 98 = .ok (.iadd, 1) := by decide +kernel
theorem dX12_hasSound_99 : decode cX12_hasSound 99 = .ok (.iaload, 1) := by decide +kernel
theorem dX12_hasSound_100 : decode cX12_hasSound 100 = .ok (.aload_n 0, 1) := by decide +kernel
theorem dX12_hasSound_101 : decode cX12_hasSound 101 = .ok (.getfield 56, 3) := by decide +kernel
theorem dX12_hasSound_104 : decode cX12_hasSound 104 = .ok (.iconst 3, 1) := by decide +kernel
theorem dX12_hasSound_105 : decode cX12_hasSound 105 = .ok (.iload_n 1, 1) := by decide +kernel
theorem dX12_hasSound_106 : decode cX12_hasSound 106 = .ok (.imul, 1) := by decide +kernel
theorem dX12_hasSound_107 : decode cX12_hasSound 107 = .ok (.iload 4, 2) := by decide +kernel
theorem dX12_hasSound_109 : decode cX12_hasSound 109 = .ok (.iadd, 1) := by decide +kernel
theorem dX12_hasSound_110 : decode cX12_hasSound 110 = .ok (.iaload, 1) := by decide +kernel
theorem dX12_hasSound_111 : decode cX12_hasSound 111 = .ok (.if_icmp .eq 5, 3) := by decide +kernel
theorem dX12_hasSound_114 : decode cX12_hasSound 114 = .ok (.iconst 0, 1) := by decide +kernel
theorem dX12_hasSound_115 : decode cX12_hasSound 115 = .ok (.ireturn, 1) := by decide +kernel
theorem dX12_hasSound_116 : decode cX12_hasSound 116 = .ok (.iinc 4 1, 3) := by decide +kernel
theorem dX12_hasSound_119 : decode cX12_hasSound 119 = .ok (.goto (-39), 3) := by decide +kernel
theorem dX12_hasSound_122 : decode cX12_hasSound 122 = .ok (.iconst 1, 1) := by decide +kernel
theorem dX12_hasSound_123 : decode cX12_hasSound 123 = .ok (.ireturn, 1) := by decide +kernel
theorem j_Md_hasSound_122  {h : xH} {r0 : Int}  (hf : f_Md_hasSound_122 h = some r0)  : J mX12_hasSound true 0 0 122 xKn [] [] h (xEq (some r0) h) := by
  unfold f_Md_hasSound_122 at hf
  refine J_iconst dX12_hasSound_122 (by decide) ?_
  exact J_iretz dX12_hasSound_123 rfl (by decide) (xq_p hf)
theorem j_Md_hasSound_s80 {l1 : Int} {l3 : Int} {l4 : Int} {h : xH} {x : (Int ⊕ (Unit ⊕ Int))} {Q : xQ}  (hf : f_Md_hasSound_s80 l1 l3 l4 h = some x) (kb : ∀ (l4' : Int), x = Sum.inl l4' → J mX12_hasSound true 0 0 80 xKn [(0, xR 81), (1, xI l1), (3, xI l3), (4, xI l4')] [] h Q) (ke : x = (Sum.inr (Sum.inl ())) → J mX12_hasSound true 0 0 122 xKn [] [] h Q) (kr : ∀ v : Int, x = (Sum.inr (Sum.inr v)) → Q (some v) xKn h) : J mX12_hasSound true 0 0 80 xKn [(0, xR 81), (1, xI l1), (3, xI l3), (4, xI l4)] [] h Q := by
  unfold f_Md_hasSound_s80 at hf
  refine J_iload 3 dX12_hasSound_80 rfl ?_
  refine J_aload_n 0 dX12_hasSound_82 rfl rfl ?_
  refine J_getRl (j := 19) xcf12 dX12_hasSound_83 kO81 (Or.inl xq1039) (by decide) (by decide) rf_81_19 ?_
  refine J_iload_n 1 dX12_hasSound_86 rfl rfl ?_
  obtain ⟨hg, hf⟩ := xgd_e hf
  refine J_iald dX12_hasSound_87 (xK_r1 kO94) kO94 hg nA94 ?_
  refine J_ic_ge (tgt := 122) dX12_hasSound_88 (by decide) (fun hc => ?_) (fun hc => ?_)
  · have hf := xip hc hf
    refine J_aload_n 0 dX12_hasSound_91 rfl rfl ?_
    refine J_getRl (j := 25) xcf12 dX12_hasSound_92 kO81 (Or.inl xq1045) (by decide) (by decide) rf_81_25 ?_
    refine J_iload_n 2 dX12_hasSound_95 rfl rfl ?_
    refine J_iload 3 dX12_hasSound_96 rfl ?_
    refine J_iadd dX12_hasSound_98 ?_
    obtain ⟨hg, hf⟩ := xgd_e hf
    refine J_iald dX12_hasSound_99 (xK_r1 kO98) kO98 hg nA98 ?_
    refine J_aload_n 0 dX12_hasSound_100 rfl rfl ?_
    refine J_getRl (j := 20) xcf12 dX12_hasSound_101 kO81 (Or.inl xq1040) (by decide) (by decide) rf_81_20 ?_
    refine J_iconst dX12_hasSound_104 (by decide) ?_
    refine J_iload_n 1 dX12_hasSound_105 rfl rfl ?_
    refine J_imul dX12_hasSound_106 ?_
    refine J_iload 3 dX12_hasSound_107 rfl ?_
    refine J_iadd dX12_hasSound_109 ?_
    obtain ⟨hg, hf⟩ := xgd_e hf
    refine J_iald dX12_hasSound_110 (xK_r1 kO95) kO95 hg nA95 ?_
    refine J_ic_eq (tgt := 116) dX12_hasSound_111 (by decide) (fun hc => ?_) (fun hc => ?_)
    · have hf := xip hc hf
      obtain ⟨x1, ex1, hf⟩ := xlet_e hf
      refine J_iinc (ls' := [(4, xI x1), (0, xR 81), (1, xI l1), (3, xI l3)]) 3 dX12_hasSound_116 rfl (by decide) ex1 rfl ?_
      refine J_goto (tgt := 80) dX12_hasSound_119 (by decide) ?_
      refine J_sub [1, 2, 3, 0] rfl ?_
      exact kb _ (xinl hf)
    · have hf := xin' hc hf
      refine J_iconst dX12_hasSound_114 (by decide) ?_
      exact J_iretz dX12_hasSound_115 rfl (by decide) (kr _ (xinl hf))
  · have hf := xin' hc hf
    refine J_sub [] rfl ?_
    exact ke  (xinl hf)
theorem j_Md_hasSound_80 {l1 : Int} {l3 : Int} {l4 : Int} {h : xH} {r0 : Int}  (hf : f_Md_hasSound_80 l1 l3 l4 h = some r0)  : J mX12_hasSound true 0 0 80 xKn [(0, xR 81), (1, xI l1), (3, xI l3), (4, xI l4)] [] h (xEq (some r0) h) := by
  unfold f_Md_hasSound_80 at hf
  obtain ⟨b0, hb0, hf⟩ := xc1_e hf
  refine xloop_ind (P := fun s : Int => J mX12_hasSound true 0 0 80 xKn [(0, xR 81), (1, xI l1), (3, xI l3), (4, xI s)] [] h (xEq (some r0) h)) hb0 (fun s x1 hs ib ie => ?_)
  exact j_Md_hasSound_s80  hs (fun _ e => ib _ e) (fun  e => by have := ie _ e; subst this; exact j_Md_hasSound_122  hf) (fun _ e => by have := ie _ e; subst this; exact xq_p hf)
theorem j_Md_hasSound_77 {l1 : Int} {l3 : Int} {h : xH} {r0 : Int}  (hf : f_Md_hasSound_77 l1 l3 h = some r0)  : J mX12_hasSound true 0 0 77 xKn [(0, xR 81), (1, xI l1), (3, xI l3)] [] h (xEq (some r0) h) := by
  unfold f_Md_hasSound_77 at hf
  refine J_iconst dX12_hasSound_77 (by decide) ?_
  refine J_istore (ls' := [(4, xI 0), (0, xR 81), (1, xI l1), (3, xI l3)]) dX12_hasSound_78 (by decide) rfl rfl ?_
  refine J_sub [1, 2, 3, 0] rfl ?_
  exact j_Md_hasSound_80  hf
theorem j_Md_hasSound_s35 {l1 : Int} {l2 : Int} {l3 : Int} {l4 : Int} {h : xH} {x : (Int ⊕ (Unit ⊕ Int))} {Q : xQ}  (hf : f_Md_hasSound_s35 l1 l2 l3 l4 h = some x) (kb : ∀ (l4' : Int), x = Sum.inl l4' → J mX12_hasSound true 0 0 35 xKn [(0, xR 81), (1, xI l1), (2, xI l2), (3, xI l3), (4, xI l4')] [] h Q) (ke : x = (Sum.inr (Sum.inl ())) → J mX12_hasSound true 0 0 77 xKn [(0, xR 81), (1, xI l1), (3, xI l3)] [] h Q) (kr : ∀ v : Int, x = (Sum.inr (Sum.inr v)) → Q (some v) xKn h) : J mX12_hasSound true 0 0 35 xKn [(0, xR 81), (1, xI l1), (2, xI l2), (3, xI l3), (4, xI l4)] [] h Q := by
  unfold f_Md_hasSound_s35 at hf
  refine J_iload 4 dX12_hasSound_35 rfl ?_
  refine J_aload_n 0 dX12_hasSound_37 rfl rfl ?_
  refine J_getRl (j := 17) xcf12 dX12_hasSound_38 kO81 (Or.inl xq1037) (by decide) (by decide) rf_81_17 ?_
  refine J_iload_n 1 dX12_hasSound_41 rfl rfl ?_
  obtain ⟨hg, hf⟩ := xgd_e hf
  refine J_iald dX12_hasSound_42 (xK_r1 kO92) kO92 hg nA92 ?_
  refine J_ic_ge (tgt := 77) dX12_hasSound_43 (by decide) (fun hc => ?_) (fun hc => ?_)
  · have hf := xip hc hf
    refine J_aload_n 0 dX12_hasSound_46 rfl rfl ?_
    refine J_getRl (j := 24) xcf12 dX12_hasSound_47 kO81 (Or.inl xq1044) (by decide) (by decide) rf_81_24 ?_
    refine J_iload_n 2 dX12_hasSound_50 rfl rfl ?_
    refine J_iload 4 dX12_hasSound_51 rfl ?_
    refine J_iadd dX12_hasSound_53 ?_
    obtain ⟨hg, hf⟩ := xgd_e hf
    refine J_iald dX12_hasSound_54 (xK_r1 kO97) kO97 hg nA97 ?_
    refine J_aload_n 0 dX12_hasSound_55 rfl rfl ?_
    refine J_getRl (j := 18) xcf12 dX12_hasSound_56 kO81 (Or.inl xq1038) (by decide) (by decide) rf_81_18 ?_
    refine J_iconst dX12_hasSound_59 (by decide) ?_
    refine J_iload_n 1 dX12_hasSound_60 rfl rfl ?_
    refine J_imul dX12_hasSound_61 ?_
    refine J_iload 4 dX12_hasSound_62 rfl ?_
    refine J_iadd dX12_hasSound_64 ?_
    obtain ⟨hg, hf⟩ := xgd_e hf
    refine J_iald dX12_hasSound_65 (xK_r1 kO93) kO93 hg nA93 ?_
    refine J_ic_eq (tgt := 71) dX12_hasSound_66 (by decide) (fun hc => ?_) (fun hc => ?_)
    · have hf := xip hc hf
      obtain ⟨x1, ex1, hf⟩ := xlet_e hf
      refine J_iinc (ls' := [(4, xI x1), (0, xR 81), (1, xI l1), (2, xI l2), (3, xI l3)]) 4 dX12_hasSound_71 rfl (by decide) ex1 rfl ?_
      refine J_goto (tgt := 35) dX12_hasSound_74 (by decide) ?_
      refine J_sub [1, 2, 3, 4, 0] rfl ?_
      exact kb _ (xinl hf)
    · have hf := xin' hc hf
      refine J_iconst dX12_hasSound_69 (by decide) ?_
      exact J_iretz dX12_hasSound_70 rfl (by decide) (kr _ (xinl hf))
  · have hf := xin' hc hf
    refine J_sub [0, 1, 3] rfl ?_
    exact ke  (xinl hf)
theorem j_Md_hasSound_35 {l1 : Int} {l2 : Int} {l3 : Int} {l4 : Int} {h : xH} {r0 : Int}  (hf : f_Md_hasSound_35 l1 l2 l3 l4 h = some r0)  : J mX12_hasSound true 0 0 35 xKn [(0, xR 81), (1, xI l1), (2, xI l2), (3, xI l3), (4, xI l4)] [] h (xEq (some r0) h) := by
  unfold f_Md_hasSound_35 at hf
  obtain ⟨b0, hb0, hf⟩ := xc1_e hf
  refine xloop_ind (P := fun s : Int => J mX12_hasSound true 0 0 35 xKn [(0, xR 81), (1, xI l1), (2, xI l2), (3, xI l3), (4, xI s)] [] h (xEq (some r0) h)) hb0 (fun s x1 hs ib ie => ?_)
  exact j_Md_hasSound_s35  hs (fun _ e => ib _ e) (fun  e => by have := ie _ e; subst this; exact j_Md_hasSound_77  hf) (fun _ e => by have := ie _ e; subst this; exact xq_p hf)
theorem jm_Md_hasSound {l1 : Int} {l2 : Int} {l3 : Int} {h : xH} {r0 : Int}  (hf : f_Md_hasSound l1 l2 l3 h = some r0) : J mX12_hasSound true 0 0 0 xKn (xen 0 [xR 81, xI l1, xI l2, xI l3]) [] h (xEq (some r0) h) := by
  unfold f_Md_hasSound at hf
  refine J_cong (ls2 := [(0, xR 81), (1, xI l1), (2, xI l2), (3, xI l3)]) (st2 := []) rfl rfl ?_
  refine J_iload_n 2 dX12_hasSound_0 rfl rfl ?_
  refine J_aload_n 0 dX12_hasSound_1 rfl rfl ?_
  refine J_getRl (j := 17) xcf12 dX12_hasSound_2 kO81 (Or.inl xq1037) (by decide) (by decide) rf_81_17 ?_
  refine J_iload_n 1 dX12_hasSound_5 rfl rfl ?_
  obtain ⟨hg, hf⟩ := xgd_e hf
  refine J_iald dX12_hasSound_6 (xK_r1 kO92) kO92 hg nA92 ?_
  refine J_iadd dX12_hasSound_7 ?_
  refine J_aload_n 0 dX12_hasSound_8 rfl rfl ?_
  refine J_getI (j := 22) xcf12 dX12_hasSound_9 (xK_rg kO81) kO81 (Or.inl xq1042) (by decide) (by decide) ?_
  refine J_ic_gt (tgt := 30) dX12_hasSound_12 (by decide) (fun hc => ?_) (fun hc => ?_)
  · have hf := xip hc hf
    refine J_iconst dX12_hasSound_30 (by decide) ?_
    exact J_iretz dX12_hasSound_31 rfl (by decide) (xq_p hf)
  · have hf := xin' hc hf
    refine J_iload_n 3 dX12_hasSound_15 rfl rfl ?_
    refine J_aload_n 0 dX12_hasSound_16 rfl rfl ?_
    refine J_getRl (j := 19) xcf12 dX12_hasSound_17 kO81 (Or.inl xq1039) (by decide) (by decide) rf_81_19 ?_
    refine J_iload_n 1 dX12_hasSound_20 rfl rfl ?_
    obtain ⟨hg, hf⟩ := xgd_e hf
    refine J_iald dX12_hasSound_21 (xK_r1 kO94) kO94 hg nA94 ?_
    refine J_iadd dX12_hasSound_22 ?_
    refine J_aload_n 0 dX12_hasSound_23 rfl rfl ?_
    refine J_getI (j := 23) xcf12 dX12_hasSound_24 (xK_rg kO81) kO81 (Or.inl xq1043) (by decide) (by decide) ?_
    refine J_ic_le (tgt := 32) dX12_hasSound_27 (by decide) (fun hc => ?_) (fun hc => ?_)
    · have hf := xip hc hf
      refine J_iconst dX12_hasSound_30 (by decide) ?_
      exact J_iretz dX12_hasSound_31 rfl (by decide) (xq_p hf)
    · have hf := xin' hc hf
      refine J_iconst dX12_hasSound_32 (by decide) ?_
      refine J_istore (ls' := [(4, xI 0), (0, xR 81), (1, xI l1), (2, xI l2), (3, xI l3)]) dX12_hasSound_33 (by decide) rfl rfl ?_
      refine J_sub [1, 2, 3, 4, 0] rfl ?_
      exact j_Md_hasSound_35  hf
