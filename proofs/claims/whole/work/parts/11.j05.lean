/-! the machine follows the functions -/
theorem dX2_choose_0 : decode cX2_choose 0 = .ok (.aload_n 0, 1) := by decide +kernel
theorem dX2_choose_1 : decode cX2_choose 1 = .ok (.getfield 39, 3) := by decide +kernel
theorem dX2_choose_4 : decode cX2_choose 4 = .ok (.iconst 1, 1) := by decide +kernel
theorem dX2_choose_5 : decode cX2_choose 5 = .ok (.isub, 1) := by decide +kernel
theorem dX2_choose_6 : decode cX2_choose 6 = .ok (.istore_n 1, 1) := by decide +kernel
theorem dX2_choose_7 : decode cX2_choose 7 = .ok (.iload_n 1, 1) := by decide +kernel
theorem dX2_choose_8 : decode cX2_choose 8 = .ok (.ifCond .lt 34, 3) := by decide +kernel
theorem dX2_choose_11 : decode cX2_choose 11 = .ok (.aload_n 0, 1) := by decide +kernel
theorem dX2_choose_12 : decode cX2_choose 12 = .ok (.iload_n 1, 1) := by decide +kernel
theorem dX2_choose_13 : decode cX2_choose 13 = .ok (.invokevirtual 55, 3) := by decide +kernel
theorem dX2_choose_16 : decode cX2_choose 16 = .ok (.istore_n 2, 1) := by decide +kernel
theorem dX2_choose_17 : decode cX2_choose 17 = .ok (.aload_n 0, 1) := by decide +kernel
theorem dX2_choose_18 : decode cX2_choose 18 = .ok (.getfield 24, 3) := by decide +kernel
theorem dX2_choose_21 : decode cX2_choose 21 = .ok (.iload_n 1, 1) := by decide +kernel
theorem dX2_choose_22 : decode cX2_choose 22 = .ok (.iload_n 2, 1) := by decide +kernel
theorem dX2_choose_23 : decode cX2_choose 23 = .ok (.iastore, 1) := by decide +kernel
theorem dX2_choose_24 : decode cX2_choose 24 = .ok (.aload_n 0, 1) := by decide +kernel
theorem dX2_choose_25 : decode cX2_choose 25 = .ok (.getfield 21, 3) := by decide +kernel
theorem dX2_choose_28 : decode cX2_choose 28 = .ok (.iload_n 1, 1) := by decide +kernel
theorem dX2_choose_29 : decode cX2_choose 29 = .ok (.aload_n 0, 1) := by decide +kernel
theorem dX2_choose_30 : decode cX2_choose 30 = .ok (.iload_n 2, 1) := by decide +kernel
theorem dX2_choose_31 : decode cX2_choose 31 = .ok (.iload_n 1, 1) := by decide +kernel
theorem dX2_choose_32 : decode cX2_choose 32 = .ok (.invokevirtual 59, 3) := by decide +kernel
theorem dX2_choose_35 : decode cX2_choose 35 = .ok (.iastore, 1) := by decide +kernel
theorem dX2_choose_36 : decode cX2_choose 36 = .ok (.iinc 1 (-1), 3) := by decide +kernel
theorem dX2_choose_39 : decode cX2_choose 39 = .ok (.goto (-32), 3) := by decide +kernel
theorem dX2_choose_42 : decode cX2_choose 42 = .ok (.iconst 0, 1) := by decide +kernel
theorem dX2_choose_43 : decode cX2_choose 43 = .ok (.istore_n 1, 1) := by decide +kernel
theorem dX2_choose_44 : decode cX2_choose 44 = .ok (.aload_n 0, 1) := by decide +kernel
theorem dX2_choose_45 : decode cX2_choose 45 = .ok (.getfield 43, 3) := by decide +kernel
theorem dX2_choose_48 : decode cX2_choose 48 = .ok (.bipush 12, 2) := by decide +kernel
theorem dX2_choose_50 : decode cX2_choose 50 = .ok (.if_icmp .ge 46, 3) := by decide +kernel
theorem dX2_choose_53 : decode cX2_choose 53 = .ok (.iload_n 1, 1) := by decide +kernel
theorem dX2_choose_54 : decode cX2_choose 54 = .ok (.aload_n 0, 1) := by decide +kernel
theorem dX2_choose_55 : decode cX2_choose 55 = .ok (.getfield 39, 3) := by decide +kernel
theorem dX2_choose_58 : decode cX2_choose 58 = .ok (.if_icmp .ge 38, 3) := by decide +kernel
theorem dX2_choose_61 : decode cX2_choose 61 = .ok (.aload_n 0, 1) := by decide +kernel
theorem dX2_choose_62 : decode cX2_choose 62 = .ok (.getfield 27, 3) := by decide +kernel
theorem dX2_choose_65 : decode cX2_choose 65 = .ok (.aload_n 0, 1) := by decide +kernel
theorem dX2_choose_66 : decode cX2_choose 66 = .ok (.getfield 43, 3) := by decide +kernel
theorem dX2_choose_69 : decode cX2_choose 69 = .ok (.iload_n 1, 1) := by decide +kernel
theorem dX2_choose_70 : decode cX2_choose 70 = .ok (.iastore, 1) := by decide +kernel
theorem dX2_choose_71 : decode cX2_choose 71 = .ok (.aload_n 0, 1) := by decide +kernel
theorem dX2_choose_72 : decode cX2_choose 72 = .ok (.dup, 1) := by decide +kernel
theorem dX2_choose_73 : decode cX2_choose 73 = .ok (.getfield 43, 3) := by decide +kernel
theorem dX2_choose_76 : decode cX2_choose 76 = .ok (.iconst 1, 1) := by decide +kernel
theorem dX2_choose_77 : decode cX2_choose 77 = .ok (.iadd, 1) := by decide +kernel
theorem dX2_choose_78 : decode cX2_choose 78 = .ok (.putfield 43, 3) := by decide +kernel
theorem dX2_choose_81 : decode cX2_choose 81 = .ok (.iload_n 1, 1) := by decide +kernel
theorem dX2_choose_82 : decode cX2_choose 82 = .ok (.aload_n 0, 1) := by decide +kernel
theorem dX2_choose_83 : decode cX2_choose 83 = .ok (.getfield 24, 3) := by decide +kernel
theorem dX2_choose_86 : decode cX2_choose 86 = .ok (.iload_n 1, 1) := by decide +kernel
theorem dX2_choose_87 : decode cX2_choose 87 = .ok (.iaload, 1) := by decide +kernel
theorem dX2_choose_88 : decode cX2_choose 88 = .ok (.invokestatic 62, 3) := by decide +kernel
theorem dX2_choose_91 : decode cX2_choose 91 = .ok (.iadd, 1) := by decide +kernel
theorem dX2_choose_92 : decode cX2_choose 92 = .ok (.istore_n 1, 1) := by decide +kernel
theorem dX2_choose_93 : decode cX2_choose 93 = .ok (.goto (-49), 3) := by decide +kernel
theorem dX2_choose_96 : decode cX2_choose 96 = .ok (.aload_n 0, 1) := by decide +kernel
theorem dX2_choose_97 : decode cX2_choose 97 = .ok (.getfield 43, 3) := by decide +kernel
theorem dX2_choose_100 : decode cX2_choose 100 = .ok (.ireturn, 1) := by decide +kernel
theorem j_Mend_choose_96  {h : xH} {r0 : Int} {h0 : xH}  (hf : f_Mend_choose_96 h = some (r0, h0))  : J mX2_choose true 0 0 96 xKn [(0, xR 70)] [] h (xEq (some r0) h0) := by
  unfold f_Mend_choose_96 at hf
  refine J_aload_n 0 dX2_choose_96 rfl rfl ?_
  refine J_getI (j := 7) xcf2 dX2_choose_97 (xK_rg kO70) kO70 (Or.inl xq397) (by decide) (by decide) ?_
  exact J_ireti dX2_choose_100 rfl (xq_i hf)
theorem j_Mend_choose_s44 {l1 : Int} {h : xH} {x : ((Int × xH) ⊕ xH)} {Q : xQ}  (hf : f_Mend_choose_s44 l1 h = some x) (kb : ∀ (l1' : Int) (h' : xH), x = Sum.inl (l1', h') → J mX2_choose true 0 0 44 xKn [(0, xR 70), (1, xI l1')] [] h' Q) (ke : ∀  (h' : xH), x = (Sum.inr h') → J mX2_choose true 0 0 96 xKn [(0, xR 70)] [] h' Q) : J mX2_choose true 0 0 44 xKn [(0, xR 70), (1, xI l1)] [] h Q := by
  unfold f_Mend_choose_s44 at hf
  refine J_aload_n 0 dX2_choose_44 rfl rfl ?_
  refine J_getI (j := 7) xcf2 dX2_choose_45 (xK_rg kO70) kO70 (Or.inl xq397) (by decide) (by decide) ?_
  refine J_bip dX2_choose_48 (by decide) ?_
  refine J_ic_ge (tgt := 96) dX2_choose_50 (by decide) (fun hc => ?_) (fun hc => ?_)
  · have hf := xip hc hf
    refine J_iload_n 1 dX2_choose_53 rfl rfl ?_
    refine J_aload_n 0 dX2_choose_54 rfl rfl ?_
    refine J_getI (j := 6) xcf2 dX2_choose_55 (xK_rg kO70) kO70 (Or.inl xq396) (by decide) (by decide) ?_
    refine J_ic_ge (tgt := 96) dX2_choose_58 (by decide) (fun hc => ?_) (fun hc => ?_)
    · have hf := xip hc hf
      refine J_aload_n 0 dX2_choose_61 rfl rfl ?_
      refine J_getRl (j := 5) xcf2 dX2_choose_62 kO70 (Or.inl xq395) (by decide) (by decide) rf_70_5 ?_
      refine J_aload_n 0 dX2_choose_65 rfl rfl ?_
      refine J_getI (j := 7) xcf2 dX2_choose_66 (xK_rg kO70) kO70 (Or.inl xq397) (by decide) (by decide) ?_
      refine J_iload_n 1 dX2_choose_69 rfl rfl ?_
      obtain ⟨hg, hf⟩ := xgd_e hf
      obtain ⟨h1, eh1, hf⟩ := xlet_e hf
      refine J_iast dX2_choose_70 (xK_r1 kO76) kO76 hg nA76 eh1 ?_
      refine J_aload_n 0 dX2_choose_71 rfl rfl ?_
      refine J_dup dX2_choose_72 rfl ?_
      refine J_getI (j := 7) xcf2 dX2_choose_73 (xK_rg kO70) kO70 (Or.inl xq397) (by decide) (by decide) ?_
      refine J_iconst dX2_choose_76 (by decide) ?_
      refine J_iadd dX2_choose_77 ?_
      obtain ⟨h2, eh2, hf⟩ := xlet_e hf
      refine J_putI (j := 7) xcf2 dX2_choose_78 (xK_rg kO70) kO70 (Or.inl xq397) (by decide) (by decide) eh2 ?_
      refine J_iload_n 1 dX2_choose_81 rfl rfl ?_
      refine J_aload_n 0 dX2_choose_82 rfl rfl ?_
      refine J_getRl (j := 4) xcf2 dX2_choose_83 kO70 (Or.inl xq394) (by decide) (by decide) rf_70_4 ?_
      refine J_iload_n 1 dX2_choose_86 rfl rfl ?_
      obtain ⟨hg, hf⟩ := xgd_e hf
      refine J_iald dX2_choose_87 (xK_r1 kO75) kO75 hg nA75 ?_
      obtain ⟨r3, hq, hf⟩ := xc1_e hf
      refine J_cSi (Mc := mX2_taken) [xI (h2 75 l1)] dX2_choose_88 (fc_Mend_taken.fit ⟨xbl rfl, xbl rfl⟩) rfl ⟨Or.inl xq931, xq932⟩ rfl (xbl rfl) (xbl rfl) (jm_Mend_taken  hq) ?_
      refine J_iadd dX2_choose_91 ?_
      obtain ⟨x4, ex4, hf⟩ := xlet_e hf
      refine J_istore_n (ls' := [(1, xI x4), (0, xR 70)]) dX2_choose_92 rfl (by decide) ex4 rfl ?_
      refine J_goto (tgt := 44) dX2_choose_93 (by decide) ?_
      refine J_sub [1, 0] rfl ?_
      exact kb _ _ (xinl hf)
    · have hf := xin' hc hf
      refine J_sub [0] rfl ?_
      exact ke _ (xinl hf)
  · have hf := xin' hc hf
    refine J_sub [0] rfl ?_
    exact ke _ (xinl hf)
theorem j_Mend_choose_44 {l1 : Int} {h : xH} {r0 : Int} {h0 : xH}  (hf : f_Mend_choose_44 l1 h = some (r0, h0))  : J mX2_choose true 0 0 44 xKn [(0, xR 70), (1, xI l1)] [] h (xEq (some r0) h0) := by
  unfold f_Mend_choose_44 at hf
  obtain ⟨b0, hb0, hf⟩ := xc1_e hf
  refine xloop_ind (P := fun s : (Int × xH) => J mX2_choose true 0 0 44 xKn [(0, xR 70), (1, xI s.1)] [] s.2 (xEq (some r0) h0)) hb0 (fun s x1 hs ib ie => ?_)
  exact j_Mend_choose_s44  hs (fun _ _ e => ib _ e) (fun _ e => by have := ie _ e; subst this; exact j_Mend_choose_96  hf)
theorem j_Mend_choose_42  {h : xH} {r0 : Int} {h0 : xH}  (hf : f_Mend_choose_42 h = some (r0, h0))  : J mX2_choose true 0 0 42 xKn [(0, xR 70)] [] h (xEq (some r0) h0) := by
  unfold f_Mend_choose_42 at hf
  refine J_iconst dX2_choose_42 (by decide) ?_
  refine J_istore_n (ls' := [(1, xI 0), (0, xR 70)]) dX2_choose_43 rfl (by decide) rfl rfl ?_
  refine J_sub [1, 0] rfl ?_
  exact j_Mend_choose_44  hf
theorem j_Mend_choose_s7 {l1 : Int} {h : xH} {x : ((Int × xH) ⊕ xH)} {Q : xQ}  (hf : f_Mend_choose_s7 l1 h = some x) (kb : ∀ (l1' : Int) (h' : xH), x = Sum.inl (l1', h') → J mX2_choose true 0 0 7 xKn [(0, xR 70), (1, xI l1')] [] h' Q) (ke : ∀  (h' : xH), x = (Sum.inr h') → J mX2_choose true 0 0 42 xKn [(0, xR 70)] [] h' Q) : J mX2_choose true 0 0 7 xKn [(0, xR 70), (1, xI l1)] [] h Q := by
  unfold f_Mend_choose_s7 at hf
  refine J_iload_n 1 dX2_choose_7 rfl rfl ?_
  refine J_if_lt (tgt := 42) dX2_choose_8 (by decide) (fun hc => ?_) (fun hc => ?_)
  · have hf := xip hc hf
    refine J_sub [0] rfl ?_
    exact ke _ (xinl hf)
  · have hf := xin' hc hf
    refine J_aload_n 0 dX2_choose_11 rfl rfl ?_
    refine J_iload_n 1 dX2_choose_12 rfl rfl ?_
    obtain ⟨r1, hq, hf⟩ := xc1_e hf
    refine J_cVi (Mc := mX2_bestKind) [xI l1] dX2_choose_13 (fc_Mend_bestKind.fit ⟨xbl rfl, xbl rfl⟩) rfl ⟨Or.inl xq922, xq924, xq72⟩ kO70 (ci := 2) rfl rfl (xbl rfl) (xbl rfl) (jm_Mend_bestKind  hq) ?_
    refine J_istore_n (ls' := [(2, xI r1), (0, xR 70), (1, xI l1)]) dX2_choose_16 rfl (by decide) rfl rfl ?_
    refine J_aload_n 1 dX2_choose_17 rfl rfl ?_
    refine J_getRl (j := 4) xcf2 dX2_choose_18 kO70 (Or.inl xq394) (by decide) (by decide) rf_70_4 ?_
    refine J_iload_n 2 dX2_choose_21 rfl rfl ?_
    refine J_iload_n 0 dX2_choose_22 rfl rfl ?_
    obtain ⟨hg, hf⟩ := xgd_e hf
    obtain ⟨h2, eh2, hf⟩ := xlet_e hf
    refine J_iast dX2_choose_23 (xK_r1 kO75) kO75 hg nA75 eh2 ?_
    refine J_aload_n 1 dX2_choose_24 rfl rfl ?_
    refine J_getRl (j := 3) xcf2 dX2_choose_25 kO70 (Or.inl xq393) (by decide) (by decide) rf_70_3 ?_
    refine J_iload_n 2 dX2_choose_28 rfl rfl ?_
    refine J_aload_n 1 dX2_choose_29 rfl rfl ?_
    refine J_iload_n 0 dX2_choose_30 rfl rfl ?_
    refine J_iload_n 2 dX2_choose_31 rfl rfl ?_
    obtain ⟨r3, hq, hf⟩ := xc1_e hf
    refine J_cVi (Mc := mX2_sumBy) [xI r1, xI l1] dX2_choose_32 (fc_Mend_sumBy.fit ⟨xbl rfl, xbl rfl⟩) rfl ⟨Or.inl xq927, xq929, xq73⟩ kO70 (ci := 2) rfl rfl (xbl rfl) (xbl rfl) (jm_Mend_sumBy  hq) ?_
    obtain ⟨hg, hf⟩ := xgd_e hf
    obtain ⟨h4, eh4, hf⟩ := xlet_e hf
    refine J_iast dX2_choose_35 (xK_r1 kO74) kO74 hg nA74 eh4 ?_
    obtain ⟨x5, ex5, hf⟩ := xlet_e hf
    refine J_iinc (ls' := [(1, xI x5), (2, xI r1), (0, xR 70)]) 2 dX2_choose_36 rfl (by decide) ex5 rfl ?_
    refine J_goto (tgt := 7) dX2_choose_39 (by decide) ?_
    refine J_sub [2, 0] rfl ?_
    exact kb _ _ (xinl hf)
theorem j_Mend_choose_7 {l1 : Int} {h : xH} {r0 : Int} {h0 : xH}  (hf : f_Mend_choose_7 l1 h = some (r0, h0))  : J mX2_choose true 0 0 7 xKn [(0, xR 70), (1, xI l1)] [] h (xEq (some r0) h0) := by
  unfold f_Mend_choose_7 at hf
  obtain ⟨b0, hb0, hf⟩ := xc1_e hf
  refine xloop_ind (P := fun s : (Int × xH) => J mX2_choose true 0 0 7 xKn [(0, xR 70), (1, xI s.1)] [] s.2 (xEq (some r0) h0)) hb0 (fun s x1 hs ib ie => ?_)
  exact j_Mend_choose_s7  hs (fun _ _ e => ib _ e) (fun _ e => by have := ie _ e; subst this; exact j_Mend_choose_42  hf)
theorem jm_Mend_choose  {h : xH} {r0 : Int} {h0 : xH}  (hf : f_Mend_choose h = some (r0, h0)) : J mX2_choose true 0 0 0 xKn (xen 0 [xR 70]) [] h (xEq (some r0) h0) := by
  unfold f_Mend_choose at hf
  refine J_cong (ls2 := [(0, xR 70)]) (st2 := []) rfl rfl ?_
  refine J_aload_n 0 dX2_choose_0 rfl rfl ?_
  refine J_getI (j := 6) xcf2 dX2_choose_1 (xK_rg kO70) kO70 (Or.inl xq396) (by decide) (by decide) ?_
  refine J_iconst dX2_choose_4 (by decide) ?_
  refine J_isub dX2_choose_5 ?_
  obtain ⟨x1, ex1, hf⟩ := xlet_e hf
  refine J_istore_n (ls' := [(1, xI x1), (0, xR 70)]) dX2_choose_6 rfl (by decide) ex1 rfl ?_
  refine J_sub [1, 0] rfl ?_
  exact j_Mend_choose_7  hf
theorem dX11_mend_0 : decode cX11_mend 0 = .ok (.aload_n 0, 1) := by decide +kernel
theorem dX11_mend_1 : decode cX11_mend 1 = .ok (.getfield 12, 3) := by decide +kernel
theorem dX11_mend_4 : decode cX11_mend 4 = .ok (.aload_n 0, 1) := by decide +kernel
theorem dX11_mend_5 : decode cX11_mend 5 = .ok (.getfield 45, 3) := by decide +kernel
theorem dX11_mend_8 : decode cX11_mend 8 = .ok (.aload_n 0, 1) := by decide +kernel
theorem dX11_mend_9 : decode cX11_mend 9 = .ok (.getfield 37, 3) := by decide +kernel
theorem dX11_mend_12 : decode cX11_mend 12 = .ok (.invokevirtual 240, 3) := by decide +kernel
theorem dX11_mend_15 : decode cX11_mend 15 = .ok (.istore_n 2, 1) := by decide +kernel
theorem dX11_mend_16 : decode cX11_mend 16 = .ok (.iload_n 2, 1) := by decide +kernel
theorem dX11_mend_17 : decode cX11_mend 17 = .ok (.ifCond .eq 10, 3) := by decide +kernel
theorem dX11_mend_20 : decode cX11_mend 20 = .ok (.iload_n 1, 1) := by decide +kernel
theorem dX11_mend_21 : decode cX11_mend 21 = .ok (.invokestatic 196, 3) := by decide +kernel
theorem dX11_mend_24 : decode cX11_mend 24 = .ok (.ifCond .eq 6, 3) := by decide +kernel
theorem dX11_mend_27 : decode cX11_mend 27 = .ok (.bipush (-2), 2) := by decide +kernel
theorem dX11_mend_29 : decode cX11_mend 29 = .ok (.ireturn, 1) := by decide +kernel
theorem dX11_mend_30 : decode cX11_mend 30 = .ok (.aload_n 0, 1) := by decide +kernel
theorem dX11_mend_31 : decode cX11_mend 31 = .ok (.getfield 98, 3) := by decide +kernel
theorem dX11_mend_34 : decode cX11_mend 34 = .ok (.aload_n 0, 1) := by decide +kernel
theorem dX11_mend_35 : decode cX11_mend 35 = .ok (.getfield 45, 3) := by decide +kernel
theorem dX11_mend_38 : decode cX11_mend 38 = .ok (.getfield 132, 3) := by decide +kernel
theorem dX11_mend_41 : decode cX11_mend 41 = .ok (.invokevirtual 244, 3) := by decide +kernel
theorem dX11_mend_44 : decode cX11_mend 44 = .ok (.iconst 0, 1) := by decide +kernel
theorem dX11_mend_45 : decode cX11_mend 45 = .ok (.istore_n 3, 1) := by decide +kernel
theorem dX11_mend_46 : decode cX11_mend 46 = .ok (.iload_n 3, 1) := by decide +kernel
theorem dX11_mend_47 : decode cX11_mend 47 = .ok (.aload_n 0, 1) := by decide +kernel
theorem dX11_mend_48 : decode cX11_mend 48 = .ok (.getfield 45, 3) := by decide +kernel
theorem dX11_mend_51 : decode cX11_mend 51 = .ok (.getfield 132, 3) := by decide +kernel
theorem dX11_mend_54 : decode cX11_mend 54 = .ok (.if_icmp .ge 53, 3) := by decide +kernel
theorem dX11_mend_57 : decode cX11_mend 57 = .ok (.aload_n 0, 1) := by decide +kernel
theorem dX11_mend_58 : decode cX11_mend 58 = .ok (.getfield 45, 3) := by decide +kernel
theorem dX11_mend_61 : decode cX11_mend 61 = .ok (.iload_n 3, 1) := by decide +kernel
theorem dX11_mend_62 : decode cX11_mend 62 = .ok (.aload_n 0, 1) := by decide +kernel
theorem dX11_mend_63 : decode cX11_mend 63 = .ok (.getfield 37, 3) := by decide +kernel
theorem dX11_mend_66 : decode cX11_mend 66 = .ok (.invokevirtual 247, 3) := by decide +kernel
theorem dX11_mend_69 : decode cX11_mend 69 = .ok (.aload_n 0, 1) := by decide +kernel
theorem dX11_mend_70 : decode cX11_mend 70 = .ok (.getfield 19, 3) := by decide +kernel
theorem dX11_mend_73 : decode cX11_mend 73 = .ok (.aload_n 0, 1) := by decide +kernel
theorem dX11_mend_74 : decode cX11_mend 74 = .ok (.getfield 37, 3) := by decide +kernel
theorem dX11_mend_77 : decode cX11_mend 77 = .ok (.invokevirtual 126, 3) := by decide +kernel
theorem dX11_mend_80 : decode cX11_mend 80 = .ok (.istore 4, 2) := by decide +kernel
theorem dX11_mend_82 : decode cX11_mend 82 = .ok (.iload 4, 2) := by decide +kernel
theorem dX11_mend_84 : decode cX11_mend 84 = .ok (.iconst (-1), 1) := by decide +kernel
theorem dX11_mend_85 : decode cX11_mend 85 = .ok (.if_icmp .eq 16, 3) := by decide +kernel
theorem dX11_mend_88 : decode cX11_mend 88 = .ok (.aload_n 0, 1) := by decide +kernel
theorem dX11_mend_89 : decode cX11_mend 89 = .ok (.getfield 98, 3) := by decide +kernel
theorem dX11_mend_92 : decode cX11_mend 92 = .ok (.iconst 0, 1) := by decide +kernel
theorem dX11_mend_93 : decode cX11_mend 93 = .ok (.iload_n 3, 1) := by decide +kernel
theorem dX11_mend_94 : decode cX11_mend 94 = .ok (.iconst 0, 1) := by decide +kernel
theorem dX11_mend_95 : decode cX11_mend 95 = .ok (.iload 4, 2) := by decide +kernel
theorem dX11_mend_97 : decode cX11_mend 97 = .ok (.iconst (-1), 1) := by decide +kernel
theorem dX11_mend_98 : decode cX11_mend 98 = .ok (.invokevirtual 251, 3) := by decide +kernel
theorem dX11_mend_101 : decode cX11_mend 101 = .ok (.iinc 3 1, 3) := by decide +kernel
theorem dX11_mend_104 : decode cX11_mend 104 = .ok (.goto (-58), 3) := by decide +kernel
theorem dX11_mend_107 : decode cX11_mend 107 = .ok (.iconst 0, 1) := by decide +kernel
theorem dX11_mend_108 : decode cX11_mend 108 = .ok (.istore_n 3, 1) := by decide +kernel
theorem dX11_mend_109 : decode cX11_mend 109 = .ok (.iload_n 3, 1) := by decide +kernel
theorem dX11_mend_110 : decode cX11_mend 110 = .ok (.aload_n 0, 1) := by decide +kernel
theorem dX11_mend_111 : decode cX11_mend 111 = .ok (.getfield 45, 3) := by decide +kernel
theorem dX11_mend_114 : decode cX11_mend 114 = .ok (.getfield 132, 3) := by decide +kernel
theorem dX11_mend_117 : decode cX11_mend 117 = .ok (.if_icmp .ge 76, 3) := by decide +kernel
theorem dX11_mend_120 : decode cX11_mend 120 = .ok (.aload_n 0, 1) := by decide +kernel
theorem dX11_mend_121 : decode cX11_mend 121 = .ok (.iload_n 3, 1) := by decide +kernel
theorem dX11_mend_122 : decode cX11_mend 122 = .ok (.invokevirtual 255, 3) := by decide +kernel
theorem dX11_mend_125 : decode cX11_mend 125 = .ok (.aload_n 0, 1) := by decide +kernel
theorem dX11_mend_126 : decode cX11_mend 126 = .ok (.getfield 98, 3) := by decide +kernel
theorem dX11_mend_129 : decode cX11_mend 129 = .ok (.iconst 0, 1) := by decide +kernel
theorem dX11_mend_130 : decode cX11_mend 130 = .ok (.iload_n 3, 1) := by decide +kernel
theorem dX11_mend_131 : decode cX11_mend 131 = .ok (.invokevirtual 258, 3) := by decide +kernel
theorem dX11_mend_134 : decode cX11_mend 134 = .ok (.ifCond .ne 53, 3) := by decide +kernel
theorem dX11_mend_137 : decode cX11_mend 137 = .ok (.aload_n 0, 1) := by decide +kernel
theorem dX11_mend_138 : decode cX11_mend 138 = .ok (.iload_n 3, 1) := by decide +kernel
theorem dX11_mend_139 : decode cX11_mend 139 = .ok (.invokevirtual 262, 3) := by decide +kernel
theorem dX11_mend_142 : decode cX11_mend 142 = .ok (.aload_n 0, 1) := by decide +kernel
theorem dX11_mend_143 : decode cX11_mend 143 = .ok (.getfield 98, 3) := by decide +kernel
theorem dX11_mend_146 : decode cX11_mend 146 = .ok (.iconst 4, 1) := by decide +kernel
theorem dX11_mend_147 : decode cX11_mend 147 = .ok (.iload_n 3, 1) := by decide +kernel
theorem dX11_mend_148 : decode cX11_mend 148 = .ok (.iload_n 1, 1) := by decide +kernel
theorem dX11_mend_149 : decode cX11_mend 149 = .ok (.iconst 1, 1) := by decide +kernel
theorem dX11_mend_150 : decode cX11_mend 150 = .ok (.iadd, 1) := by decide +kernel
theorem dX11_mend_151 : decode cX11_mend 151 = .ok (.iconst (-1), 1) := by decide +kernel
theorem dX11_mend_152 : decode cX11_mend 152 = .ok (.iconst (-1), 1) := by decide +kernel
theorem dX11_mend_153 : decode cX11_mend 153 = .ok (.invokevirtual 251, 3) := by decide +kernel
theorem dX11_mend_156 : decode cX11_mend 156 = .ok (.aload_n 0, 1) := by decide +kernel
theorem dX11_mend_157 : decode cX11_mend 157 = .ok (.getfield 45, 3) := by decide +kernel
theorem dX11_mend_160 : decode cX11_mend 160 = .ok (.iload_n 3, 1) := by decide +kernel
theorem dX11_mend_161 : decode cX11_mend 161 = .ok (.aload_n 0, 1) := by decide +kernel
theorem dX11_mend_162 : decode cX11_mend 162 = .ok (.getfield 37, 3) := by decide +kernel
theorem dX11_mend_165 : decode cX11_mend 165 = .ok (.invokevirtual 247, 3) := by decide +kernel
theorem dX11_mend_168 : decode cX11_mend 168 = .ok (.aload_n 0, 1) := by decide +kernel
theorem dX11_mend_169 : decode cX11_mend 169 = .ok (.getfield 79, 3) := by decide +kernel
theorem dX11_mend_172 : decode cX11_mend 172 = .ok (.aload_n 0, 1) := by decide +kernel
theorem dX11_mend_173 : decode cX11_mend 173 = .ok (.getfield 37, 3) := by decide +kernel
theorem dX11_mend_176 : decode cX11_mend 176 = .ok (.iload_n 1, 1) := by decide +kernel
theorem dX11_mend_177 : decode cX11_mend 177 = .ok (.iconst 0, 1) := by decide +kernel
theorem dX11_mend_178 : decode cX11_mend 178 = .ok (.invokevirtual 200, 3) := by decide +kernel
theorem dX11_mend_181 : decode cX11_mend 181 = .ok (.aload_n 0, 1) := by decide +kernel
theorem dX11_mend_182 : decode cX11_mend 182 = .ok (.iload_n 3, 1) := by decide +kernel
theorem dX11_mend_183 : decode cX11_mend 183 = .ok (.iload_n 1, 1) := by decide +kernel
theorem dX11_mend_184 : decode cX11_mend 184 = .ok (.invokevirtual 265, 3) := by decide +kernel
theorem dX11_mend_187 : decode cX11_mend 187 = .ok (.iinc 3 1, 3) := by decide +kernel
theorem dX11_mend_190 : decode cX11_mend 190 = .ok (.goto (-81), 3) := by decide +kernel
theorem dX11_mend_193 : decode cX11_mend 193 = .ok (.aload_n 0, 1) := by decide +kernel
theorem dX11_mend_194 : decode cX11_mend 194 = .ok (.getfield 98, 3) := by decide +kernel
theorem dX11_mend_197 : decode cX11_mend 197 = .ok (.invokevirtual 269, 3) := by decide +kernel
theorem dX11_mend_200 : decode cX11_mend 200 = .ok (.ireturn, 1) := by decide +kernel
theorem j_WM_mend_193  {h : xH} {r0 : Int} {h0 : xH}  (hf : f_WM_mend_193 h = some (r0, h0))  : J mX11_mend true 0 0 193 xKn [(0, xR 1)] [] h (xEq (some r0) h0) := by
  unfold f_WM_mend_193 at hf
  refine J_aload_n 0 dX11_mend_193 rfl rfl ?_
  refine J_getRl (j := 15) xcf11 dX11_mend_194 kO1 (Or.inl xq450) (by decide) (by decide) rf_1_15 ?_
  obtain ⟨r1, h2, hq, hf⟩ := xc2_e hf
  refine J_cVi (Mc := mX2_choose) [] dX11_mend_197 (fc_Mend_choose.fit ⟨xbl rfl, xbl rfl⟩) rfl ⟨Or.inr ⟨_, xq918⟩, xq920, xq71⟩ kO70 (ci := 2) rfl rfl (xbl rfl) (xbl rfl) (jm_Mend_choose  hq) ?_
  exact J_ireti dX11_mend_200 rfl (xq_i hf)
theorem j_WM_mend_187 {l1 : Int} {l3 : Int} {h : xH} {x : ((Int × xH) ⊕ xH)} {Q : xQ}  (hf : f_WM_mend_187 l1 l3 h = some x) (kb : ∀ (l3' : Int) (h' : xH), x = Sum.inl (l3', h') → J mX11_mend true 0 0 109 xKn [(0, xR 1), (1, xI l1), (3, xI l3')] [] h' Q) (ke : ∀  (h' : xH), x = (Sum.inr h') → J mX11_mend true 0 0 193 xKn [(0, xR 1)] [] h' Q) : J mX11_mend true 0 0 187 xKn [(0, xR 1), (1, xI l1), (3, xI l3)] [] h Q := by
  unfold f_WM_mend_187 at hf
  obtain ⟨x1, ex1, hf⟩ := xlet_e hf
  refine J_iinc (ls' := [(3, xI x1), (0, xR 1), (1, xI l1)]) 2 dX11_mend_187 rfl (by decide) ex1 rfl ?_
  refine J_goto (tgt := 109) dX11_mend_190 (by decide) ?_
  refine J_sub [1, 2, 0] rfl ?_
  exact kb _ _ (xinl hf)
theorem j_WM_mend_s109 {l1 : Int} {l3 : Int} {h : xH} {x : ((Int × xH) ⊕ xH)} {Q : xQ}  (hf : f_WM_mend_s109 l1 l3 h = some x) (kb : ∀ (l3' : Int) (h' : xH), x = Sum.inl (l3', h') → J mX11_mend true 0 0 109 xKn [(0, xR 1), (1, xI l1), (3, xI l3')] [] h' Q) (ke : ∀  (h' : xH), x = (Sum.inr h') → J mX11_mend true 0 0 193 xKn [(0, xR 1)] [] h' Q) : J mX11_mend true 0 0 109 xKn [(0, xR 1), (1, xI l1), (3, xI l3)] [] h Q := by
  unfold f_WM_mend_s109 at hf
  refine J_iload_n 2 dX11_mend_109 rfl rfl ?_
  refine J_aload_n 0 dX11_mend_110 rfl rfl ?_
  refine J_getRl (j := 5) xcf11 dX11_mend_111 kO1 (Or.inl xq440) (by decide) (by decide) rf_1_5 ?_
  refine J_getI (j := 2) xcf5 dX11_mend_114 (xK_rg kO25) kO25 (Or.inr ⟨_, xq185⟩) (by decide) (by decide) ?_
  refine J_ic_ge (tgt := 193) dX11_mend_117 (by decide) (fun hc => ?_) (fun hc => ?_)
  · have hf := xip hc hf
    refine J_aload_n 0 dX11_mend_120 rfl rfl ?_
    refine J_iload_n 2 dX11_mend_121 rfl rfl ?_
    obtain ⟨h1, hq, hf⟩ := xc1_e hf
    refine J_cVv (Mc := mX11_offerSplit) [xI l3] dX11_mend_122 (fc_WM_offerSplit.fit ⟨xbl rfl, xbl rfl⟩) rfl ⟨Or.inl xq896, xq898, xq66⟩ kO1 (ci := 11) rfl rfl (xbl rfl) (xbl rfl) (jm_WM_offerSplit  hq) ?_
    refine J_aload_n 0 dX11_mend_125 rfl rfl ?_
    refine J_getRl (j := 15) xcf11 dX11_mend_126 kO1 (Or.inl xq450) (by decide) (by decide) rf_1_15 ?_
    refine J_iconst dX11_mend_129 (by decide) ?_
    refine J_iload_n 2 dX11_mend_130 rfl rfl ?_
    obtain ⟨r2, hq, hf⟩ := xc1_e hf
    refine J_cVi (Mc := mX2_offers) [xI 0, xI l3] dX11_mend_131 (fc_Mend_offers.fit ⟨xbl rfl, xbl rfl⟩) rfl ⟨Or.inr ⟨_, xq900⟩, xq902, xq67⟩ kO70 (ci := 2) rfl rfl (xbl rfl) (xbl rfl) (jm_Mend_offers  hq) ?_
    refine J_if_ne (tgt := 187) dX11_mend_134 (by decide) (fun hc => ?_) (fun hc => ?_)
    · have hf := xip hc hf
      refine J_aload_n 0 dX11_mend_137 rfl rfl ?_
      refine J_iload_n 2 dX11_mend_138 rfl rfl ?_
      obtain ⟨h3, hq, hf⟩ := xc1_e hf
      refine J_cVv (Mc := mX11_offerJoin) [xI l3] dX11_mend_139 (fc_WM_offerJoin.fit ⟨xbl rfl, xbl rfl⟩) rfl ⟨Or.inl xq909, xq911, xq69⟩ kO1 (ci := 11) rfl rfl (xbl rfl) (xbl rfl) (jm_WM_offerJoin  hq) ?_
      refine J_aload_n 0 dX11_mend_142 rfl rfl ?_
      refine J_getRl (j := 15) xcf11 dX11_mend_143 kO1 (Or.inl xq450) (by decide) (by decide) rf_1_15 ?_
      refine J_iconst dX11_mend_146 (by decide) ?_
      refine J_iload_n 2 dX11_mend_147 rfl rfl ?_
      refine J_iload_n 1 dX11_mend_148 rfl rfl ?_
      refine J_iconst dX11_mend_149 (by decide) ?_
      refine J_iadd dX11_mend_150 ?_
      refine J_iconst dX11_mend_151 (by decide) ?_
      refine J_iconst dX11_mend_152 (by decide) ?_
      obtain ⟨h4, hq, hf⟩ := xc1_e hf
      refine J_cVv (Mc := mX2_offer) [xI 4, xI l3, xI (w32 (l1 + 1)), xI (-1), xI (-1)] dX11_mend_153 (fc_Mend_offer.fit ⟨xbl rfl, xbl rfl⟩) rfl ⟨Or.inr ⟨_, xq888⟩, xq890, xq64⟩ kO70 (ci := 2) rfl rfl (xbl rfl) (xbl rfl) (jm_Mend_offer  hq) ?_
      refine J_aload_n 0 dX11_mend_156 rfl rfl ?_
      refine J_getRl (j := 5) xcf11 dX11_mend_157 kO1 (Or.inl xq440) (by decide) (by decide) rf_1_5 ?_
      refine J_iload_n 2 dX11_mend_160 rfl rfl ?_
      refine J_aload_n 0 dX11_mend_161 rfl rfl ?_
      refine J_getRl (j := 4) xcf11 dX11_mend_162 kO1 (Or.inl xq439) (by decide) (by decide) rf_1_4 ?_
      obtain ⟨h5, hq, hf⟩ := xc1_e hf
      refine J_cVv (Mc := mX5_copyTo) [xI l3, xR 23] dX11_mend_165 (fc_Rows_copyTo.fit ⟨xbl rfl, xbl rfl⟩) rfl ⟨Or.inr ⟨_, xq854⟩, xq733, xq40⟩ kO25 (ci := 5) rfl rfl (xbl rfl) (xbl rfl) (jm_Rows_copyTo kO25 kO23 hq) ?_
      refine J_aload_n 0 dX11_mend_168 rfl rfl ?_
      refine J_getRl (j := 12) xcf11 dX11_mend_169 kO1 (Or.inl xq447) (by decide) (by decide) rf_1_12 ?_
      refine J_aload_n 0 dX11_mend_172 rfl rfl ?_
      refine J_getRl (j := 4) xcf11 dX11_mend_173 kO1 (Or.inl xq439) (by decide) (by decide) rf_1_4 ?_
      refine J_iload_n 1 dX11_mend_176 rfl rfl ?_
      refine J_iconst dX11_mend_177 (by decide) ?_
      obtain ⟨h6, hq, hf⟩ := xc1_e hf
      refine J_cVv (Mc := mX9_go) [xR 23, xI l1, xI 0] dX11_mend_178 (fc_Walk_go.fit ⟨xbl rfl, xbl rfl⟩) rfl ⟨Or.inr ⟨_, xq721⟩, xq723, xq38⟩ kO48 (ci := 9) rfl rfl (xbl rfl) (xbl rfl) (jm_Walk_go kO23 hq) ?_
      refine J_aload_n 0 dX11_mend_181 rfl rfl ?_
      refine J_iload_n 2 dX11_mend_182 rfl rfl ?_
      refine J_iload_n 1 dX11_mend_183 rfl rfl ?_
      obtain ⟨h7, hq, hf⟩ := xc1_e hf
      refine J_cVv (Mc := mX11_offerMended) [xI l3, xI l1] dX11_mend_184 (fc_WM_offerMended.fit ⟨xbl rfl, xbl rfl⟩) rfl ⟨Or.inl xq914, xq916, xq70⟩ kO1 (ci := 11) rfl rfl (xbl rfl) (xbl rfl) (jm_WM_offerMended  hq) ?_
      exact j_WM_mend_187  hf kb ke
    · have hf := xin' hc hf
      exact j_WM_mend_187  hf kb ke
  · have hf := xin' hc hf
    refine J_sub [0] rfl ?_
    exact ke _ (xinl hf)
theorem j_WM_mend_109 {l1 : Int} {l3 : Int} {h : xH} {r0 : Int} {h0 : xH}  (hf : f_WM_mend_109 l1 l3 h = some (r0, h0))  : J mX11_mend true 0 0 109 xKn [(0, xR 1), (1, xI l1), (3, xI l3)] [] h (xEq (some r0) h0) := by
  unfold f_WM_mend_109 at hf
  obtain ⟨b0, hb0, hf⟩ := xc1_e hf
  refine xloop_ind (P := fun s : (Int × xH) => J mX11_mend true 0 0 109 xKn [(0, xR 1), (1, xI l1), (3, xI s.1)] [] s.2 (xEq (some r0) h0)) hb0 (fun s x1 hs ib ie => ?_)
  exact j_WM_mend_s109  hs (fun _ _ e => ib _ e) (fun _ e => by have := ie _ e; subst this; exact j_WM_mend_193  hf)
theorem j_WM_mend_107 {l1 : Int} {h : xH} {r0 : Int} {h0 : xH}  (hf : f_WM_mend_107 l1 h = some (r0, h0))  : J mX11_mend true 0 0 107 xKn [(0, xR 1), (1, xI l1)] [] h (xEq (some r0) h0) := by
  unfold f_WM_mend_107 at hf
  refine J_iconst dX11_mend_107 (by decide) ?_
  refine J_istore_n (ls' := [(3, xI 0), (0, xR 1), (1, xI l1)]) dX11_mend_108 rfl (by decide) rfl rfl ?_
  refine J_sub [1, 2, 0] rfl ?_
  exact j_WM_mend_109  hf
theorem j_WM_mend_101 {l1 : Int} {l3 : Int} {h : xH} {x : ((Int × xH) ⊕ xH)} {Q : xQ}  (hf : f_WM_mend_101 l1 l3 h = some x) (kb : ∀ (l3' : Int) (h' : xH), x = Sum.inl (l3', h') → J mX11_mend true 0 0 46 xKn [(0, xR 1), (1, xI l1), (3, xI l3')] [] h' Q) (ke : ∀  (h' : xH), x = (Sum.inr h') → J mX11_mend true 0 0 107 xKn [(0, xR 1), (1, xI l1)] [] h' Q) : J mX11_mend true 0 0 101 xKn [(0, xR 1), (1, xI l1), (3, xI l3)] [] h Q := by
  unfold f_WM_mend_101 at hf
  obtain ⟨x1, ex1, hf⟩ := xlet_e hf
  refine J_iinc (ls' := [(3, xI x1), (0, xR 1), (1, xI l1)]) 2 dX11_mend_101 rfl (by decide) ex1 rfl ?_
  refine J_goto (tgt := 46) dX11_mend_104 (by decide) ?_
  refine J_sub [1, 2, 0] rfl ?_
  exact kb _ _ (xinl hf)
theorem j_WM_mend_s46 {l1 : Int} {l3 : Int} {h : xH} {x : ((Int × xH) ⊕ xH)} {Q : xQ}  (hf : f_WM_mend_s46 l1 l3 h = some x) (kb : ∀ (l3' : Int) (h' : xH), x = Sum.inl (l3', h') → J mX11_mend true 0 0 46 xKn [(0, xR 1), (1, xI l1), (3, xI l3')] [] h' Q) (ke : ∀  (h' : xH), x = (Sum.inr h') → J mX11_mend true 0 0 107 xKn [(0, xR 1), (1, xI l1)] [] h' Q) : J mX11_mend true 0 0 46 xKn [(0, xR 1), (1, xI l1), (3, xI l3)] [] h Q := by
  unfold f_WM_mend_s46 at hf
  refine J_iload_n 2 dX11_mend_46 rfl rfl ?_
  refine J_aload_n 0 dX11_mend_47 rfl rfl ?_
  refine J_getRl (j := 5) xcf11 dX11_mend_48 kO1 (Or.inl xq440) (by decide) (by decide) rf_1_5 ?_
  refine J_getI (j := 2) xcf5 dX11_mend_51 (xK_rg kO25) kO25 (Or.inr ⟨_, xq185⟩) (by decide) (by decide) ?_
  refine J_ic_ge (tgt := 107) dX11_mend_54 (by decide) (fun hc => ?_) (fun hc => ?_)
  · have hf := xip hc hf
    refine J_aload_n 0 dX11_mend_57 rfl rfl ?_
    refine J_getRl (j := 5) xcf11 dX11_mend_58 kO1 (Or.inl xq440) (by decide) (by decide) rf_1_5 ?_
    refine J_iload_n 2 dX11_mend_61 rfl rfl ?_
    refine J_aload_n 0 dX11_mend_62 rfl rfl ?_
    refine J_getRl (j := 4) xcf11 dX11_mend_63 kO1 (Or.inl xq439) (by decide) (by decide) rf_1_4 ?_
    obtain ⟨h1, hq, hf⟩ := xc1_e hf
    refine J_cVv (Mc := mX5_copyTo) [xI l3, xR 23] dX11_mend_66 (fc_Rows_copyTo.fit ⟨xbl rfl, xbl rfl⟩) rfl ⟨Or.inr ⟨_, xq854⟩, xq733, xq40⟩ kO25 (ci := 5) rfl rfl (xbl rfl) (xbl rfl) (jm_Rows_copyTo kO25 kO23 hq) ?_
    refine J_aload_n 0 dX11_mend_69 rfl rfl ?_
    refine J_getRl (j := 1) xcf11 dX11_mend_70 kO1 (Or.inl xq436) (by decide) (by decide) rf_1_1 ?_
    refine J_aload_n 0 dX11_mend_73 rfl rfl ?_
    refine J_getRl (j := 4) xcf11 dX11_mend_74 kO1 (Or.inl xq439) (by decide) (by decide) rf_1_4 ?_
    obtain ⟨r2, hq, hf⟩ := xc1_e hf
    refine J_cVi (Mc := mX1_numberOf) [xR 23] dX11_mend_77 (fc_Lex_numberOf.fit ⟨xbl rfl, xbl rfl⟩) rfl ⟨Or.inr ⟨_, xq573⟩, xq522, xq6⟩ kO4 (ci := 1) rfl rfl (xbl rfl) (xbl rfl) (jm_Lex_numberOf kO23 hq) ?_
    refine J_istore (ls' := [(4, xI r2), (0, xR 1), (1, xI l1), (3, xI l3)]) dX11_mend_80 (by decide) rfl rfl ?_
    refine J_iload 0 dX11_mend_82 rfl ?_
    refine J_iconst dX11_mend_84 (by decide) ?_
    refine J_ic_eq (tgt := 101) dX11_mend_85 (by decide) (fun hc => ?_) (fun hc => ?_)
    · have hf := xip hc hf
      refine J_sub [1, 2, 3] rfl ?_
      exact j_WM_mend_101  hf kb ke
    · have hf := xin' hc hf
      refine J_aload_n 1 dX11_mend_88 rfl rfl ?_
      refine J_getRl (j := 15) xcf11 dX11_mend_89 kO1 (Or.inl xq450) (by decide) (by decide) rf_1_15 ?_
      refine J_iconst dX11_mend_92 (by decide) ?_
      refine J_iload_n 3 dX11_mend_93 rfl rfl ?_
      refine J_iconst dX11_mend_94 (by decide) ?_
      refine J_iload 0 dX11_mend_95 rfl ?_
      refine J_iconst dX11_mend_97 (by decide) ?_
      obtain ⟨h3, hq, hf⟩ := xc1_e hf
      refine J_cVv (Mc := mX2_offer) [xI 0, xI l3, xI 0, xI r2, xI (-1)] dX11_mend_98 (fc_Mend_offer.fit ⟨xbl rfl, xbl rfl⟩) rfl ⟨Or.inr ⟨_, xq888⟩, xq890, xq64⟩ kO70 (ci := 2) rfl rfl (xbl rfl) (xbl rfl) (jm_Mend_offer  hq) ?_
      refine J_sub [1, 2, 3] rfl ?_
      exact j_WM_mend_101  hf kb ke
  · have hf := xin' hc hf
    refine J_sub [0, 1] rfl ?_
    exact ke _ (xinl hf)
theorem j_WM_mend_46 {l1 : Int} {l3 : Int} {h : xH} {r0 : Int} {h0 : xH}  (hf : f_WM_mend_46 l1 l3 h = some (r0, h0))  : J mX11_mend true 0 0 46 xKn [(0, xR 1), (1, xI l1), (3, xI l3)] [] h (xEq (some r0) h0) := by
  unfold f_WM_mend_46 at hf
  obtain ⟨b0, hb0, hf⟩ := xc1_e hf
  refine xloop_ind (P := fun s : (Int × xH) => J mX11_mend true 0 0 46 xKn [(0, xR 1), (1, xI l1), (3, xI s.1)] [] s.2 (xEq (some r0) h0)) hb0 (fun s x1 hs ib ie => ?_)
  exact j_WM_mend_s46  hs (fun _ _ e => ib _ e) (fun _ e => by have := ie _ e; subst this; exact j_WM_mend_107  hf)
theorem jm_WM_mend {l1 : Int} {h : xH} {r0 : Int} {h0 : xH}  (hf : f_WM_mend l1 h = some (r0, h0)) : J mX11_mend true 0 0 0 xKn (xen 0 [xR 1, xI l1]) [] h (xEq (some r0) h0) := by
  unfold f_WM_mend at hf
  refine J_cong (ls2 := [(0, xR 1), (1, xI l1)]) (st2 := []) rfl rfl ?_
  refine J_aload_n 0 dX11_mend_0 rfl rfl ?_
  refine J_getRl (j := 0) xcf11 dX11_mend_1 kO1 (Or.inl xq435) (by decide) (by decide) rf_1_0 ?_
  refine J_aload_n 0 dX11_mend_4 rfl rfl ?_
  refine J_getRl (j := 5) xcf11 dX11_mend_5 kO1 (Or.inl xq440) (by decide) (by decide) rf_1_5 ?_
  refine J_aload_n 0 dX11_mend_8 rfl rfl ?_
  refine J_getRl (j := 4) xcf11 dX11_mend_9 kO1 (Or.inl xq439) (by decide) (by decide) rf_1_4 ?_
  obtain ⟨r1, h2, hq, hf⟩ := xc2_e hf
  refine J_cVi (Mc := mX7_takeText) [xR 25, xR 23] dX11_mend_12 (fc_Tape_takeText.fit ⟨xbl rfl, xbl rfl⟩) rfl ⟨Or.inr ⟨_, xq872⟩, xq874, xq61⟩ kO2 (ci := 7) rfl rfl (xbl rfl) (xbl rfl) (jm_Tape_takeText kO25 kO23 hq) ?_
  refine J_istore_n (ls' := [(2, xI r1), (0, xR 1), (1, xI l1)]) dX11_mend_15 rfl (by decide) rfl rfl ?_
  refine J_iload_n 0 dX11_mend_16 rfl rfl ?_
  refine J_if_eq (tgt := 27) dX11_mend_17 (by decide) (fun hc => ?_) (fun hc => ?_)
  · have hf := xip hc hf
    refine J_bip dX11_mend_27 (by decide) ?_
    exact J_ireti dX11_mend_29 rfl (xq_i hf)
  · have hf := xin' hc hf
    refine J_iload_n 2 dX11_mend_20 rfl rfl ?_
    obtain ⟨r3, hq, hf⟩ := xc1_e hf
    refine J_cSi (Mc := mX11_isNoBound) [xI l1] dX11_mend_21 (fc_WM_isNoBound.fit ⟨xbl rfl, xbl rfl⟩) rfl ⟨Or.inl xq717, xq718⟩ rfl (xbl rfl) (xbl rfl) (jm_WM_isNoBound  hq) ?_
    refine J_if_eq (tgt := 30) dX11_mend_24 (by decide) (fun hc => ?_) (fun hc => ?_)
    · have hf := xip hc hf
      refine J_aload_n 1 dX11_mend_30 rfl rfl ?_
      refine J_getRl (j := 15) xcf11 dX11_mend_31 kO1 (Or.inl xq450) (by decide) (by decide) rf_1_15 ?_
      refine J_aload_n 1 dX11_mend_34 rfl rfl ?_
      refine J_getRl (j := 5) xcf11 dX11_mend_35 kO1 (Or.inl xq440) (by decide) (by decide) rf_1_5 ?_
      refine J_getI (j := 2) xcf5 dX11_mend_38 (xK_rg kO25) kO25 (Or.inr ⟨_, xq185⟩) (by decide) (by decide) ?_
      obtain ⟨h4, hq, hf⟩ := xc1_e hf
      refine J_cVv (Mc := mX2_clear) [xI (h2 25 2)] dX11_mend_41 (fc_Mend_clear.fit ⟨xbl rfl, xbl rfl⟩) rfl ⟨Or.inr ⟨_, xq881⟩, xq883, xq63⟩ kO70 (ci := 2) rfl rfl (xbl rfl) (xbl rfl) (jm_Mend_clear  hq) ?_
      refine J_iconst dX11_mend_44 (by decide) ?_
      refine J_istore_n (ls' := [(3, xI 0), (2, xI r1), (0, xR 1), (1, xI l1)]) dX11_mend_45 rfl (by decide) rfl rfl ?_
      refine J_sub [2, 3, 0] rfl ?_
      exact j_WM_mend_46  hf
    · have hf := xin' hc hf
      refine J_bip dX11_mend_27 (by decide) ?_
      exact J_ireti dX11_mend_29 rfl (xq_i hf)
theorem dX2_tell_0 : decode cX2_tell 0 = .ok (.iload_n 1, 1) := by decide +kernel
theorem dX2_tell_1 : decode cX2_tell 1 = .ok (.iconst (-1), 1) := by decide +kernel
theorem dX2_tell_2 : decode cX2_tell 2 = .ok (.if_icmp .ne 19, 3) := by decide +kernel
theorem dX2_tell_5 : decode cX2_tell 5 = .ok (.iload_n 2, 1) := by decide +kernel
theorem dX2_tell_6 : decode cX2_tell 6 = .ok (.iconst 1, 1) := by decide +kernel
theorem dX2_tell_7 : decode cX2_tell 7 = .ok (.if_icmp .ne 12, 3) := by decide +kernel
theorem dX2_tell_10 : decode cX2_tell 10 = .ok (.aload_n 0, 1) := by decide +kernel
theorem dX2_tell_11 : decode cX2_tell 11 = .ok (.getfield 21, 3) := by decide +kernel
theorem dX2_tell_14 : decode cX2_tell 14 = .ok (.iconst 0, 1) := by decide +kernel
theorem dX2_tell_15 : decode cX2_tell 15 = .ok (.iaload, 1) := by decide +kernel
theorem dX2_tell_16 : decode cX2_tell 16 = .ok (.goto 4, 3) := by decide +kernel
theorem dX2_tell_19 : decode cX2_tell 19 = .ok (.iconst (-1), 1) := by decide +kernel
theorem dX2_tell_20 : decode cX2_tell 20 = .ok (.ireturn, 1) := by decide +kernel
theorem dX2_tell_21 : decode cX2_tell 21 = .ok (.iload_n 1, 1) := by decide +kernel
theorem dX2_tell_22 : decode cX2_tell 22 = .ok (.ifCond .lt 29, 3) := by decide +kernel
theorem dX2_tell_25 : decode cX2_tell 25 = .ok (.iload_n 1, 1) := by decide +kernel
theorem dX2_tell_26 : decode cX2_tell 26 = .ok (.aload_n 0, 1) := by decide +kernel
theorem dX2_tell_27 : decode cX2_tell 27 = .ok (.getfield 43, 3) := by decide +kernel
theorem dX2_tell_30 : decode cX2_tell 30 = .ok (.if_icmp .ge 21, 3) := by decide +kernel
theorem dX2_tell_33 : decode cX2_tell 33 = .ok (.iload_n 1, 1) := by decide +kernel
theorem dX2_tell_34 : decode cX2_tell 34 = .ok (.aload_n 0, 1) := by decide +kernel
theorem dX2_tell_35 : decode cX2_tell 35 = .ok (.getfield 27, 3) := by decide +kernel
theorem dX2_tell_38 : decode cX2_tell 38 = .ok (.arraylength, 1) := by decide +kernel
theorem dX2_tell_39 : decode cX2_tell 39 = .ok (.if_icmp .ge 12, 3) := by decide +kernel
theorem dX2_tell_42 : decode cX2_tell 42 = .ok (.aload_n 0, 1) := by decide +kernel
theorem dX2_tell_43 : decode cX2_tell 43 = .ok (.getfield 27, 3) := by decide +kernel
theorem dX2_tell_46 : decode cX2_tell 46 = .ok (.iload_n 1, 1) := by decide +kernel
theorem dX2_tell_47 : decode cX2_tell 47 = .ok (.iaload, 1) := by decide +kernel
theorem dX2_tell_48 : decode cX2_tell 48 = .ok (.goto 4, 3) := by decide +kernel
theorem dX2_tell_51 : decode cX2_tell 51 = .ok (.iconst (-1), 1) := by decide +kernel
theorem dX2_tell_52 : decode cX2_tell 52 = .ok (.istore_n 3, 1) := by decide +kernel
theorem dX2_tell_53 : decode cX2_tell 53 = .ok (.iload_n 3, 1) := by decide +kernel
theorem dX2_tell_54 : decode cX2_tell 54 = .ok (.ifCond .lt 21, 3) := by decide +kernel
theorem dX2_tell_57 : decode cX2_tell 57 = .ok (.iload_n 3, 1) := by decide +kernel
theorem dX2_tell_58 : decode cX2_tell 58 = .ok (.aload_n 0, 1) := by decide +kernel
theorem dX2_tell_59 : decode cX2_tell 59 = .ok (.getfield 24, 3) := by decide +kernel
theorem dX2_tell_62 : decode cX2_tell 62 = .ok (.arraylength, 1) := by decide +kernel
theorem dX2_tell_63 : decode cX2_tell 63 = .ok (.if_icmp .ge 12, 3) := by decide +kernel
theorem dX2_tell_66 : decode cX2_tell 66 = .ok (.aload_n 0, 1) := by decide +kernel
theorem dX2_tell_67 : decode cX2_tell 67 = .ok (.getfield 24, 3) := by decide +kernel
theorem dX2_tell_70 : decode cX2_tell 70 = .ok (.iload_n 3, 1) := by decide +kernel
theorem dX2_tell_71 : decode cX2_tell 71 = .ok (.iaload, 1) := by decide +kernel
theorem dX2_tell_72 : decode cX2_tell 72 = .ok (.goto 4, 3) := by decide +kernel
theorem dX2_tell_75 : decode cX2_tell 75 = .ok (.iconst (-1), 1) := by decide +kernel
theorem dX2_tell_76 : decode cX2_tell 76 = .ok (.istore 4, 2) := by decide +kernel
theorem dX2_tell_78 : decode cX2_tell 78 = .ok (.aload_n 0, 1) := by decide +kernel
theorem dX2_tell_79 : decode cX2_tell 79 = .ok (.iload 4, 2) := by decide +kernel
theorem dX2_tell_81 : decode cX2_tell 81 = .ok (.iload_n 3, 1) := by decide +kernel
theorem dX2_tell_82 : decode cX2_tell 82 = .ok (.invokevirtual 52, 3) := by decide +kernel
theorem dX2_tell_85 : decode cX2_tell 85 = .ok (.istore 5, 2) := by decide +kernel
theorem dX2_tell_87 : decode cX2_tell 87 = .ok (.iload 5, 2) := by decide +kernel
theorem dX2_tell_89 : decode cX2_tell 89 = .ok (.iconst (-1), 1) := by decide +kernel
theorem dX2_tell_90 : decode cX2_tell 90 = .ok (.if_icmp .ne 5, 3) := by decide +kernel
theorem dX2_tell_93 : decode cX2_tell 93 = .ok (.iconst (-1), 1) := by decide +kernel
theorem dX2_tell_94 : decode cX2_tell 94 = .ok (.ireturn, 1) := by decide +kernel
theorem dX2_tell_95 : decode cX2_tell 95 = .ok (.iload_n 2, 1) := by decide +kernel
theorem dX2_tell_96 : decode cX2_tell 96 = .ok (.tableswitch 59 0 3 #[32, 35, 43, 51], 32) := by decide +kernel
theorem dX2_tell_128 : decode cX2_tell 128 = .ok (.iload 4, 2) := by decide +kernel
theorem dX2_tell_130 : decode cX2_tell 130 = .ok (.ireturn, 1) := by decide +kernel
theorem dX2_tell_131 : decode cX2_tell 131 = .ok (.aload_n 0, 1) := by decide +kernel
theorem dX2_tell_132 : decode cX2_tell 132 = .ok (.getfield 9, 3) := by decide +kernel
theorem dX2_tell_135 : decode cX2_tell 135 = .ok (.iload 5, 2) := by decide +kernel
theorem dX2_tell_137 : decode cX2_tell 137 = .ok (.iaload, 1) := by decide +kernel
theorem dX2_tell_138 : decode cX2_tell 138 = .ok (.ireturn, 1) := by decide +kernel
theorem dX2_tell_139 : decode cX2_tell 139 = .ok (.aload_n 0, 1) := by decide +kernel
theorem dX2_tell_140 : decode cX2_tell 140 = .ok (.getfield 15, 3) := by decide +kernel
theorem dX2_tell_143 : decode cX2_tell 143 = .ok (.iload 5, 2) := by decide +kernel
theorem dX2_tell_145 : decode cX2_tell 145 = .ok (.iaload, 1) := by decide +kernel
theorem dX2_tell_146 : decode cX2_tell 146 = .ok (.ireturn, 1) := by decide +kernel
theorem dX2_tell_147 : decode cX2_tell 147 = .ok (.aload_n 0, 1) := by decide +kernel
theorem dX2_tell_148 : decode cX2_tell 148 = .ok (.getfield 18, 3) := by decide +kernel
theorem dX2_tell_151 : decode cX2_tell 151 = .ok (.iload 5, 2) := by decide +kernel
theorem dX2_tell_153 : decode cX2_tell 153 = .ok (.iaload, 1) := by decide +kernel
theorem dX2_tell_154 : decode cX2_tell 154 = .ok (.ireturn, 1) := by decide +kernel
theorem dX2_tell_155 : decode cX2_tell 155 = .ok (.iload 4, 2) := by decide +kernel
theorem dX2_tell_157 : decode cX2_tell 157 = .ok (.invokestatic 62, 3) := by decide +kernel
theorem dX2_tell_160 : decode cX2_tell 160 = .ok (.ireturn, 1) := by decide +kernel
theorem j_Mend_tell_76 {l2 : Int} {l3 : Int} {s0 : Int} {h : xH} {r0 : Int}  (hf : f_Mend_tell_76 l2 l3 s0 h = some r0)  : J mX2_tell true 0 0 76 xKn [(0, xR 70), (2, xI l2), (3, xI l3)] [xI s0] h (xEq (some r0) h) := by
  unfold f_Mend_tell_76 at hf
  refine J_istore (ls' := [(4, xI s0), (0, xR 70), (2, xI l2), (3, xI l3)]) dX2_tell_76 (by decide) rfl rfl ?_
  refine J_aload_n 1 dX2_tell_78 rfl rfl ?_
  refine J_iload 0 dX2_tell_79 rfl ?_
  refine J_iload_n 3 dX2_tell_81 rfl rfl ?_
  obtain ⟨r1, hq, hf⟩ := xc1_e hf
  refine J_cVi (Mc := mX2_cellOf) [xI s0, xI l3] dX2_tell_82 (fc_Mend_cellOf.fit ⟨xbl rfl, xbl rfl⟩) rfl ⟨Or.inl xq892, xq894, xq65⟩ kO70 (ci := 2) rfl rfl (xbl rfl) (xbl rfl) (jm_Mend_cellOf  hq) ?_
  refine J_istore (ls' := [(5, xI r1), (4, xI s0), (0, xR 70), (2, xI l2), (3, xI l3)]) dX2_tell_85 (by decide) rfl rfl ?_
  refine J_iload 0 dX2_tell_87 rfl ?_
  refine J_iconst dX2_tell_89 (by decide) ?_
  refine J_ic_ne (tgt := 95) dX2_tell_90 (by decide) (fun hc => ?_) (fun hc => ?_)
  · have hf := xip hc hf
    refine J_iconst dX2_tell_93 (by decide) ?_
    exact J_ireti dX2_tell_94 rfl (xq_p hf)
  · have hf := xin' hc hf
    refine J_iload_n 3 dX2_tell_95 rfl rfl ?_
    refine J_by (c := l2 = 0) (fun hc0 => ?_) (fun hc0 => ?_)
    · have hf := xip hc0 hf
      refine J_tswIn (tgt := 128) dX2_tell_96 0 hc0 (by decide) (by decide) rfl (by decide) ?_
      refine J_iload 1 dX2_tell_128 rfl ?_
      exact J_ireti dX2_tell_130 rfl (xq_p hf)
    · have hf := xin' hc0 hf
      refine J_by (c := l2 = 1) (fun hc1 => ?_) (fun hc1 => ?_)
      · have hf := xip hc1 hf
        refine J_tswIn (tgt := 131) dX2_tell_96 1 hc1 (by decide) (by decide) rfl (by decide) ?_
        refine J_aload_n 2 dX2_tell_131 rfl rfl ?_
        refine J_getRl (j := 0) xcf2 dX2_tell_132 kO70 (Or.inl xq390) (by decide) (by decide) rf_70_0 ?_
        refine J_iload 0 dX2_tell_135 rfl ?_
        obtain ⟨hg, hf⟩ := xgd_e hf
        refine J_iald dX2_tell_137 (xK_r1 kO71) kO71 hg nA71 ?_
        exact J_ireti dX2_tell_138 rfl (xq_p hf)
      · have hf := xin' hc1 hf
        refine J_by (c := l2 = 2) (fun hc2 => ?_) (fun hc2 => ?_)
        · have hf := xip hc2 hf
          refine J_tswIn (tgt := 139) dX2_tell_96 2 hc2 (by decide) (by decide) rfl (by decide) ?_
          refine J_aload_n 2 dX2_tell_139 rfl rfl ?_
          refine J_getRl (j := 1) xcf2 dX2_tell_140 kO70 (Or.inl xq391) (by decide) (by decide) rf_70_1 ?_
          refine J_iload 0 dX2_tell_143 rfl ?_
          obtain ⟨hg, hf⟩ := xgd_e hf
          refine J_iald dX2_tell_145 (xK_r1 kO72) kO72 hg nA72 ?_
          exact J_ireti dX2_tell_146 rfl (xq_p hf)
        · have hf := xin' hc2 hf
          refine J_by (c := l2 = 3) (fun hc3 => ?_) (fun hc3 => ?_)
          · have hf := xip hc3 hf
            refine J_tswIn (tgt := 147) dX2_tell_96 3 hc3 (by decide) (by decide) rfl (by decide) ?_
            refine J_aload_n 2 dX2_tell_147 rfl rfl ?_
            refine J_getRl (j := 2) xcf2 dX2_tell_148 kO70 (Or.inl xq392) (by decide) (by decide) rf_70_2 ?_
            refine J_iload 0 dX2_tell_151 rfl ?_
            obtain ⟨hg, hf⟩ := xgd_e hf
            refine J_iald dX2_tell_153 (xK_r1 kO73) kO73 hg nA73 ?_
            exact J_ireti dX2_tell_154 rfl (xq_p hf)
          · have hf := xin' hc3 hf
            refine J_tswOut (tgt := 155) dX2_tell_96 (by omega) (by decide) ?_
            refine J_iload 1 dX2_tell_155 rfl ?_
            obtain ⟨r2, hq, hf⟩ := xc1_e hf
            refine J_cSi (Mc := mX2_taken) [xI s0] dX2_tell_157 (fc_Mend_taken.fit ⟨xbl rfl, xbl rfl⟩) rfl ⟨Or.inl xq931, xq932⟩ rfl (xbl rfl) (xbl rfl) (jm_Mend_taken  hq) ?_
            exact J_ireti dX2_tell_160 rfl (xq_p hf)
theorem j_Mend_tell_75 {l2 : Int} {l3 : Int} {h : xH} {r0 : Int}  (hf : f_Mend_tell_75 l2 l3 h = some r0)  : J mX2_tell true 0 0 75 xKn [(0, xR 70), (2, xI l2), (3, xI l3)] [] h (xEq (some r0) h) := by
  unfold f_Mend_tell_75 at hf
  refine J_iconst dX2_tell_75 (by decide) ?_
  exact j_Mend_tell_76  hf
theorem j_Mend_tell_52 {l2 : Int} {s0 : Int} {h : xH} {r0 : Int}  (hf : f_Mend_tell_52 l2 s0 h = some r0)  : J mX2_tell true 0 0 52 xKn [(0, xR 70), (2, xI l2)] [xI s0] h (xEq (some r0) h) := by
  unfold f_Mend_tell_52 at hf
  refine J_istore_n (ls' := [(3, xI s0), (0, xR 70), (2, xI l2)]) dX2_tell_52 rfl (by decide) rfl rfl ?_
  refine J_iload_n 0 dX2_tell_53 rfl rfl ?_
  refine J_if_lt (tgt := 75) dX2_tell_54 (by decide) (fun hc => ?_) (fun hc => ?_)
  · have hf := xip hc hf
    refine J_sub [1, 2, 0] rfl ?_
    exact j_Mend_tell_75  hf
  · have hf := xin' hc hf
    refine J_iload_n 0 dX2_tell_57 rfl rfl ?_
    refine J_aload_n 1 dX2_tell_58 rfl rfl ?_
    refine J_getRl (j := 4) xcf2 dX2_tell_59 kO70 (Or.inl xq394) (by decide) (by decide) rf_70_4 ?_
    refine J_alen dX2_tell_62 (xK_r1 kO75) (Or.inl kO75) (by decide) nA75 ?_
    refine J_ic_ge (tgt := 75) dX2_tell_63 (by decide) (fun hc => ?_) (fun hc => ?_)
    · have hf := xip hc hf
      refine J_aload_n 1 dX2_tell_66 rfl rfl ?_
      refine J_getRl (j := 4) xcf2 dX2_tell_67 kO70 (Or.inl xq394) (by decide) (by decide) rf_70_4 ?_
      refine J_iload_n 0 dX2_tell_70 rfl rfl ?_
      obtain ⟨hg, hf⟩ := xgd_e hf
      refine J_iald dX2_tell_71 (xK_r1 kO75) kO75 hg nA75 ?_
      refine J_goto (tgt := 76) dX2_tell_72 (by decide) ?_
      refine J_sub [1, 2, 0] rfl ?_
      exact j_Mend_tell_76  hf
    · have hf := xin' hc hf
      refine J_sub [1, 2, 0] rfl ?_
      exact j_Mend_tell_75  hf
theorem j_Mend_tell_51 {l2 : Int} {h : xH} {r0 : Int}  (hf : f_Mend_tell_51 l2 h = some r0)  : J mX2_tell true 0 0 51 xKn [(0, xR 70), (2, xI l2)] [] h (xEq (some r0) h) := by
  unfold f_Mend_tell_51 at hf
  refine J_iconst dX2_tell_51 (by decide) ?_
  exact j_Mend_tell_52  hf
theorem jm_Mend_tell {l1 : Int} {l2 : Int} {h : xH} {r0 : Int}  (hf : f_Mend_tell l1 l2 h = some r0) : J mX2_tell true 0 0 0 xKn (xen 0 [xR 70, xI l1, xI l2]) [] h (xEq (some r0) h) := by
  unfold f_Mend_tell at hf
  refine J_cong (ls2 := [(0, xR 70), (1, xI l1), (2, xI l2)]) (st2 := []) rfl rfl ?_
  refine J_iload_n 1 dX2_tell_0 rfl rfl ?_
  refine J_iconst dX2_tell_1 (by decide) ?_
  refine J_ic_ne (tgt := 21) dX2_tell_2 (by decide) (fun hc => ?_) (fun hc => ?_)
  · have hf := xip hc hf
    refine J_iload_n 2 dX2_tell_5 rfl rfl ?_
    refine J_iconst dX2_tell_6 (by decide) ?_
    refine J_ic_ne (tgt := 19) dX2_tell_7 (by decide) (fun hc => ?_) (fun hc => ?_)
    · have hf := xip hc hf
      refine J_aload_n 0 dX2_tell_10 rfl rfl ?_
      refine J_getRl (j := 3) xcf2 dX2_tell_11 kO70 (Or.inl xq393) (by decide) (by decide) rf_70_3 ?_
      refine J_iconst dX2_tell_14 (by decide) ?_
      obtain ⟨hg, hf⟩ := xgd_e hf
      refine J_iald dX2_tell_15 (xK_r1 kO74) kO74 hg nA74 ?_
      refine J_goto (tgt := 20) dX2_tell_16 (by decide) ?_
      exact J_ireti dX2_tell_20 rfl (xq_p hf)
    · have hf := xin' hc hf
      refine J_iconst dX2_tell_19 (by decide) ?_
      exact J_ireti dX2_tell_20 rfl (xq_p hf)
  · have hf := xin' hc hf
    refine J_iload_n 1 dX2_tell_21 rfl rfl ?_
    refine J_if_lt (tgt := 51) dX2_tell_22 (by decide) (fun hc => ?_) (fun hc => ?_)
    · have hf := xip hc hf
      refine J_sub [0, 2] rfl ?_
      exact j_Mend_tell_51  hf
    · have hf := xin' hc hf
      refine J_iload_n 1 dX2_tell_25 rfl rfl ?_
      refine J_aload_n 0 dX2_tell_26 rfl rfl ?_
      refine J_getI (j := 7) xcf2 dX2_tell_27 (xK_rg kO70) kO70 (Or.inl xq397) (by decide) (by decide) ?_
      refine J_ic_ge (tgt := 51) dX2_tell_30 (by decide) (fun hc => ?_) (fun hc => ?_)
      · have hf := xip hc hf
        refine J_iload_n 1 dX2_tell_33 rfl rfl ?_
        refine J_aload_n 0 dX2_tell_34 rfl rfl ?_
        refine J_getRl (j := 5) xcf2 dX2_tell_35 kO70 (Or.inl xq395) (by decide) (by decide) rf_70_5 ?_
        refine J_alen dX2_tell_38 (xK_r1 kO76) (Or.inl kO76) (by decide) nA76 ?_
        refine J_ic_ge (tgt := 51) dX2_tell_39 (by decide) (fun hc => ?_) (fun hc => ?_)
        · have hf := xip hc hf
          refine J_aload_n 0 dX2_tell_42 rfl rfl ?_
          refine J_getRl (j := 5) xcf2 dX2_tell_43 kO70 (Or.inl xq395) (by decide) (by decide) rf_70_5 ?_
          refine J_iload_n 1 dX2_tell_46 rfl rfl ?_
          obtain ⟨hg, hf⟩ := xgd_e hf
          refine J_iald dX2_tell_47 (xK_r1 kO76) kO76 hg nA76 ?_
          refine J_goto (tgt := 52) dX2_tell_48 (by decide) ?_
          refine J_sub [0, 2] rfl ?_
          exact j_Mend_tell_52  hf
        · have hf := xin' hc hf
          refine J_sub [0, 2] rfl ?_
          exact j_Mend_tell_51  hf
      · have hf := xin' hc hf
        refine J_sub [0, 2] rfl ?_
        exact j_Mend_tell_51  hf
theorem dX11_part_0 : decode cX11_part 0 = .ok (.iload_n 2, 1) := by decide +kernel
theorem dX11_part_1 : decode cX11_part 1 = .ok (.ifCond .lt 8, 3) := by decide +kernel
theorem dX11_part_4 : decode cX11_part 4 = .ok (.iload_n 2, 1) := by decide +kernel
theorem dX11_part_5 : decode cX11_part 5 = .ok (.iconst 4, 1) := by decide +kernel
theorem dX11_part_6 : decode cX11_part 6 = .ok (.if_icmp .le 8, 3) := by decide +kernel
theorem dX11_part_9 : decode cX11_part 9 = .ok (.bipush (-2), 2) := by decide +kernel
theorem dX11_part_11 : decode cX11_part 11 = .ok (.goto 12, 3) := by decide +kernel
theorem dX11_part_14 : decode cX11_part 14 = .ok (.aload_n 0, 1) := by decide +kernel
theorem dX11_part_15 : decode cX11_part 15 = .ok (.getfield 98, 3) := by decide +kernel
theorem dX11_part_18 : decode cX11_part 18 = .ok (.iload_n 1, 1) := by decide +kernel
theorem dX11_part_19 : decode cX11_part 19 = .ok (.iload_n 2, 1) := by decide +kernel
theorem dX11_part_20 : decode cX11_part 20 = .ok (.invokevirtual 272, 3) := by decide +kernel
theorem dX11_part_23 : decode cX11_part 23 = .ok (.ireturn, 1) := by decide +kernel
theorem j_WM_part_9  {h : xH} {r0 : Int}  (hf : f_WM_part_9 h = some r0)  : J mX11_part true 0 0 9 xKn [] [] h (xEq (some r0) h) := by
  unfold f_WM_part_9 at hf
  refine J_bip dX11_part_9 (by decide) ?_
  refine J_goto (tgt := 23) dX11_part_11 (by decide) ?_
  exact J_ireti dX11_part_23 rfl (xq_p hf)
theorem jm_WM_part {l1 : Int} {l2 : Int} {h : xH} {r0 : Int}  (hf : f_WM_part l1 l2 h = some r0) : J mX11_part true 0 0 0 xKn (xen 0 [xR 1, xI l1, xI l2]) [] h (xEq (some r0) h) := by
  unfold f_WM_part at hf
  refine J_cong (ls2 := [(0, xR 1), (1, xI l1), (2, xI l2)]) (st2 := []) rfl rfl ?_
  refine J_iload_n 2 dX11_part_0 rfl rfl ?_
  refine J_if_lt (tgt := 9) dX11_part_1 (by decide) (fun hc => ?_) (fun hc => ?_)
  · have hf := xip hc hf
    refine J_sub [] rfl ?_
    exact j_WM_part_9  hf
  · have hf := xin' hc hf
    refine J_iload_n 2 dX11_part_4 rfl rfl ?_
    refine J_iconst dX11_part_5 (by decide) ?_
    refine J_ic_le (tgt := 14) dX11_part_6 (by decide) (fun hc => ?_) (fun hc => ?_)
    · have hf := xip hc hf
      refine J_sub [] rfl ?_
      exact j_WM_part_9  hf
    · have hf := xin' hc hf
      refine J_aload_n 0 dX11_part_14 rfl rfl ?_
      refine J_getRl (j := 15) xcf11 dX11_part_15 kO1 (Or.inl xq450) (by decide) (by decide) rf_1_15 ?_
      refine J_iload_n 1 dX11_part_18 rfl rfl ?_
      refine J_iload_n 2 dX11_part_19 rfl rfl ?_
      obtain ⟨r1, hq, hf⟩ := xc1_e hf
      refine J_cVi (Mc := mX2_tell) [xI l1, xI l2] dX11_part_20 (fc_Mend_tell.fit ⟨xbl rfl, xbl rfl⟩) rfl ⟨Or.inr ⟨_, xq938⟩, xq940, xq74⟩ kO70 (ci := 2) rfl rfl (xbl rfl) (xbl rfl) (jm_Mend_tell  hq) ?_
      exact J_ireti dX11_part_23 rfl (xq_p hf)
theorem dX11_isThing_0 : decode cX11_isThing 0 = .ok (.iload_n 1, 1) := by decide +kernel
theorem dX11_isThing_1 : decode cX11_isThing 1 = .ok (.tableswitch 85 0 4 #[35, 37, 61, 35, 37], 35) := by decide +kernel
theorem dX11_isThing_36 : decode cX11_isThing 36 = .ok (.iconst 1, 1) := by decide +kernel
theorem dX11_isThing_37 : decode cX11_isThing 37 = .ok (.ireturn, 1) := by decide +kernel
theorem dX11_isThing_38 : decode cX11_isThing 38 = .ok (.iload_n 2, 1) := by decide +kernel
theorem dX11_isThing_39 : decode cX11_isThing 39 = .ok (.ifCond .lt 21, 3) := by decide +kernel
theorem dX11_isThing_42 : decode cX11_isThing 42 = .ok (.iload_n 2, 1) := by decide +kernel
theorem dX11_isThing_43 : decode cX11_isThing 43 = .ok (.aload_n 0, 1) := by decide +kernel
theorem dX11_isThing_44 : decode cX11_isThing 44 = .ok (.getfield 19, 3) := by decide +kernel
theorem dX11_isThing_47 : decode cX11_isThing 47 = .ok (.getfield 129, 3) := by decide +kernel
theorem dX11_isThing_50 : decode cX11_isThing 50 = .ok (.getfield 132, 3) := by decide +kernel
theorem dX11_isThing_53 : decode cX11_isThing 53 = .ok (.if_icmp .ge 7, 3) := by decide +kernel
theorem dX11_isThing_56 : decode cX11_isThing 56 = .ok (.iconst 1, 1) := by decide +kernel
theorem dX11_isThing_57 : decode cX11_isThing 57 = .ok (.goto 4, 3) := by decide +kernel
theorem dX11_isThing_60 : decode cX11_isThing 60 = .ok (.iconst 0, 1) := by decide +kernel
theorem dX11_isThing_61 : decode cX11_isThing 61 = .ok (.ireturn, 1) := by decide +kernel
theorem dX11_isThing_62 : decode cX11_isThing 62 = .ok (.iload_n 2, 1) := by decide +kernel
theorem dX11_isThing_63 : decode cX11_isThing 63 = .ok (.ifCond .lt 21, 3) := by decide +kernel
theorem dX11_isThing_66 : decode cX11_isThing 66 = .ok (.iload_n 2, 1) := by decide +kernel
theorem dX11_isThing_67 : decode cX11_isThing 67 = .ok (.aload_n 0, 1) := by decide +kernel
theorem dX11_isThing_68 : decode cX11_isThing 68 = .ok (.getfield 79, 3) := by decide +kernel
theorem dX11_isThing_71 : decode cX11_isThing 71 = .ok (.getfield 155, 3) := by decide +kernel
theorem dX11_isThing_74 : decode cX11_isThing 74 = .ok (.getfield 159, 3) := by decide +kernel
theorem dX11_isThing_77 : decode cX11_isThing 77 = .ok (.if_icmp .ge 7, 3) := by decide +kernel
theorem dX11_isThing_80 : decode cX11_isThing 80 = .ok (.iconst 1, 1) := by decide +kernel
theorem dX11_isThing_81 : decode cX11_isThing 81 = .ok (.goto 4, 3) := by decide +kernel
theorem dX11_isThing_84 : decode cX11_isThing 84 = .ok (.iconst 0, 1) := by decide +kernel
theorem dX11_isThing_85 : decode cX11_isThing 85 = .ok (.ireturn, 1) := by decide +kernel
theorem dX11_isThing_86 : decode cX11_isThing 86 = .ok (.iconst 0, 1) := by decide +kernel
theorem dX11_isThing_87 : decode cX11_isThing 87 = .ok (.ireturn, 1) := by decide +kernel
theorem j_WM_isThing_38 {l2 : Int} {h : xH} {r0 : Int}  (hf : f_WM_isThing_38 l2 h = some r0)  : J mX11_isThing true 0 0 38 xKn [(0, xR 1), (2, xI l2)] [] h (xEq (some r0) h) := by
  unfold f_WM_isThing_38 at hf
  refine J_iload_n 1 dX11_isThing_38 rfl rfl ?_
  refine J_if_lt (tgt := 60) dX11_isThing_39 (by decide) (fun hc => ?_) (fun hc => ?_)
  · have hf := xip hc hf
    refine J_iconst dX11_isThing_60 (by decide) ?_
    exact J_iretz dX11_isThing_61 rfl (by decide) (xq_p hf)
  · have hf := xin' hc hf
    refine J_iload_n 1 dX11_isThing_42 rfl rfl ?_
    refine J_aload_n 0 dX11_isThing_43 rfl rfl ?_
    refine J_getRl (j := 1) xcf11 dX11_isThing_44 kO1 (Or.inl xq436) (by decide) (by decide) rf_1_1 ?_
    refine J_getRl (j := 0) xcf1 dX11_isThing_47 kO4 (Or.inr ⟨_, xq197⟩) (by decide) (by decide) rf_4_0 ?_
    refine J_getI (j := 2) xcf5 dX11_isThing_50 (xK_rg kO5) kO5 (Or.inr ⟨_, xq185⟩) (by decide) (by decide) ?_
    refine J_ic_ge (tgt := 60) dX11_isThing_53 (by decide) (fun hc => ?_) (fun hc => ?_)
    · have hf := xip hc hf
      refine J_iconst dX11_isThing_56 (by decide) ?_
      refine J_goto (tgt := 61) dX11_isThing_57 (by decide) ?_
      exact J_iretz dX11_isThing_61 rfl (by decide) (xq_p hf)
    · have hf := xin' hc hf
      refine J_iconst dX11_isThing_60 (by decide) ?_
      exact J_iretz dX11_isThing_61 rfl (by decide) (xq_p hf)
theorem jm_WM_isThing {l1 : Int} {l2 : Int} {h : xH} {r0 : Int}  (hf : f_WM_isThing l1 l2 h = some r0) : J mX11_isThing true 0 0 0 xKn (xen 0 [xR 1, xI l1, xI l2]) [] h (xEq (some r0) h) := by
  unfold f_WM_isThing at hf
  refine J_cong (ls2 := [(0, xR 1), (1, xI l1), (2, xI l2)]) (st2 := []) rfl rfl ?_
  refine J_iload_n 1 dX11_isThing_0 rfl rfl ?_
  refine J_by (c := l1 = 0) (fun hc0 => ?_) (fun hc0 => ?_)
  · have hf := xip hc0 hf
    refine J_tswIn (tgt := 36) dX11_isThing_1 0 hc0 (by decide) (by decide) rfl (by decide) ?_
    refine J_iconst dX11_isThing_36 (by decide) ?_
    exact J_iretz dX11_isThing_37 rfl (by decide) (xq_p hf)
  · have hf := xin' hc0 hf
    refine J_by (c := l1 = 1) (fun hc1 => ?_) (fun hc1 => ?_)
    · have hf := xip hc1 hf
      refine J_tswIn (tgt := 38) dX11_isThing_1 1 hc1 (by decide) (by decide) rfl (by decide) ?_
      refine J_sub [0, 2] rfl ?_
      exact j_WM_isThing_38  hf
    · have hf := xin' hc1 hf
      refine J_by (c := l1 = 2) (fun hc2 => ?_) (fun hc2 => ?_)
      · have hf := xip hc2 hf
        refine J_tswIn (tgt := 62) dX11_isThing_1 2 hc2 (by decide) (by decide) rfl (by decide) ?_
        refine J_iload_n 2 dX11_isThing_62 rfl rfl ?_
        refine J_if_lt (tgt := 84) dX11_isThing_63 (by decide) (fun hc => ?_) (fun hc => ?_)
        · have hf := xip hc hf
          refine J_iconst dX11_isThing_84 (by decide) ?_
          exact J_iretz dX11_isThing_85 rfl (by decide) (xq_p hf)
        · have hf := xin' hc hf
          refine J_iload_n 2 dX11_isThing_66 rfl rfl ?_
          refine J_aload_n 0 dX11_isThing_67 rfl rfl ?_
          refine J_getRl (j := 12) xcf11 dX11_isThing_68 kO1 (Or.inl xq447) (by decide) (by decide) rf_1_12 ?_
          refine J_getRl (j := 2) xcf9 dX11_isThing_71 kO48 (Or.inr ⟨_, xq333⟩) (by decide) (by decide) rf_48_2 ?_
          refine J_getI (j := 5) xcf3 dX11_isThing_74 (xK_rg kO49) kO49 (Or.inr ⟨_, xq305⟩) (by decide) (by decide) ?_
          refine J_ic_ge (tgt := 84) dX11_isThing_77 (by decide) (fun hc => ?_) (fun hc => ?_)
          · have hf := xip hc hf
            refine J_iconst dX11_isThing_80 (by decide) ?_
            refine J_goto (tgt := 85) dX11_isThing_81 (by decide) ?_
            exact J_iretz dX11_isThing_85 rfl (by decide) (xq_p hf)
          · have hf := xin' hc hf
            refine J_iconst dX11_isThing_84 (by decide) ?_
            exact J_iretz dX11_isThing_85 rfl (by decide) (xq_p hf)
      · have hf := xin' hc2 hf
        refine J_by (c := l1 = 3) (fun hc3 => ?_) (fun hc3 => ?_)
        · have hf := xip hc3 hf
          refine J_tswIn (tgt := 36) dX11_isThing_1 3 hc3 (by decide) (by decide) rfl (by decide) ?_
          refine J_iconst dX11_isThing_36 (by decide) ?_
          exact J_iretz dX11_isThing_37 rfl (by decide) (xq_p hf)
        · have hf := xin' hc3 hf
          refine J_by (c := l1 = 4) (fun hc4 => ?_) (fun hc4 => ?_)
          · have hf := xip hc4 hf
            refine J_tswIn (tgt := 38) dX11_isThing_1 4 hc4 (by decide) (by decide) rfl (by decide) ?_
            refine J_sub [0, 2] rfl ?_
            exact j_WM_isThing_38  hf
          · have hf := xin' hc4 hf
            refine J_tswOut (tgt := 86) dX11_isThing_1 (by omega) (by decide) ?_
            refine J_iconst dX11_isThing_86 (by decide) ?_
            exact J_iretz dX11_isThing_87 rfl (by decide) (xq_p hf)
theorem dX8_refuse_0 : decode cX8_refuse 0 = .ok (.aload_n 0, 1) := by decide +kernel
theorem dX8_refuse_1 : decode cX8_refuse 1 = .ok (.iload_n 1, 1) := by decide +kernel
theorem dX8_refuse_2 : decode cX8_refuse 2 = .ok (.putfield 21, 3) := by decide +kernel
theorem dX8_refuse_5 : decode cX8_refuse 5 = .ok (.iconst (-1), 1) := by decide +kernel
theorem dX8_refuse_6 : decode cX8_refuse 6 = .ok (.ireturn, 1) := by decide +kernel
theorem jm_Trays_refuse {l1 : Int} {h : xH} {r0 : Int} {h0 : xH}  (hf : f_Trays_refuse l1 h = some (r0, h0)) : J mX8_refuse true 0 0 0 xKn (xen 0 [xR 77, xI l1]) [] h (xEq (some r0) h0) := by
  unfold f_Trays_refuse at hf
  refine J_cong (ls2 := [(0, xR 77), (1, xI l1)]) (st2 := []) rfl rfl ?_
  refine J_aload_n 0 dX8_refuse_0 rfl rfl ?_
  refine J_iload_n 1 dX8_refuse_1 rfl rfl ?_
  obtain ⟨h1, eh1, hf⟩ := xlet_e hf
  refine J_putI (j := 3) xcf8 dX8_refuse_2 (xK_rg kO77) kO77 (Or.inl xq424) (by decide) (by decide) eh1 ?_
  refine J_iconst dX8_refuse_5 (by decide) ?_
  exact J_ireti dX8_refuse_6 rfl (xq_i hf)
theorem dX8_clear_0 : decode cX8_clear 0 = .ok (.iload_n 1, 1) := by decide +kernel
theorem dX8_clear_1 : decode cX8_clear 1 = .ok (.ifCond .lt 23, 3) := by decide +kernel
theorem dX8_clear_4 : decode cX8_clear 4 = .ok (.iload_n 1, 1) := by decide +kernel
theorem dX8_clear_5 : decode cX8_clear 5 = .ok (.bipush 8, 2) := by decide +kernel
theorem dX8_clear_7 : decode cX8_clear 7 = .ok (.if_icmp .ge 17, 3) := by decide +kernel
theorem dX8_clear_10 : decode cX8_clear 10 = .ok (.aload_n 0, 1) := by decide +kernel
theorem dX8_clear_11 : decode cX8_clear 11 = .ok (.getfield 9, 3) := by decide +kernel
theorem dX8_clear_14 : decode cX8_clear 14 = .ok (.iload_n 1, 1) := by decide +kernel
theorem dX8_clear_15 : decode cX8_clear 15 = .ok (.iload_n 2, 1) := by decide +kernel
theorem dX8_clear_16 : decode cX8_clear 16 = .ok (.iastore, 1) := by decide +kernel
theorem dX8_clear_17 : decode cX8_clear 17 = .ok (.aload_n 0, 1) := by decide +kernel
theorem dX8_clear_18 : decode cX8_clear 18 = .ok (.getfield 15, 3) := by decide +kernel
theorem dX8_clear_21 : decode cX8_clear 21 = .ok (.iload_n 1, 1) := by decide +kernel
theorem dX8_clear_22 : decode cX8_clear 22 = .ok (.iconst 0, 1) := by decide +kernel
theorem dX8_clear_23 : decode cX8_clear 23 = .ok (.iastore, 1) := by decide +kernel
theorem dX8_clear_24 : decode cX8_clear 24 = .ok (.return_, 1) := by decide +kernel
theorem jm_Trays_clear {l1 : Int} {l2 : Int} {h : xH} {h0 : xH}  (hf : f_Trays_clear l1 l2 h = some h0) : J mX8_clear true 0 0 0 xKn (xen 0 [xR 77, xI l1, xI l2]) [] h (xEq none h0) := by
  unfold f_Trays_clear at hf
  refine J_cong (ls2 := [(0, xR 77), (1, xI l1), (2, xI l2)]) (st2 := []) rfl rfl ?_
  refine J_iload_n 1 dX8_clear_0 rfl rfl ?_
  refine J_if_lt (tgt := 24) dX8_clear_1 (by decide) (fun hc => ?_) (fun hc => ?_)
  · have hf := xip hc hf
    exact J_rt dX8_clear_24 rfl (xq_v hf)
  · have hf := xin' hc hf
    refine J_iload_n 1 dX8_clear_4 rfl rfl ?_
    refine J_bip dX8_clear_5 (by decide) ?_
    refine J_ic_ge (tgt := 24) dX8_clear_7 (by decide) (fun hc => ?_) (fun hc => ?_)
    · have hf := xip hc hf
      refine J_aload_n 0 dX8_clear_10 rfl rfl ?_
      refine J_getRl (j := 0) xcf8 dX8_clear_11 kO77 (Or.inl xq421) (by decide) (by decide) rf_77_0 ?_
      refine J_iload_n 1 dX8_clear_14 rfl rfl ?_
      refine J_iload_n 2 dX8_clear_15 rfl rfl ?_
      obtain ⟨hg, hf⟩ := xgd_e hf
      obtain ⟨h1, eh1, hf⟩ := xlet_e hf
      refine J_iast dX8_clear_16 (xK_r1 kO78) kO78 hg nA78 eh1 ?_
      refine J_aload_n 0 dX8_clear_17 rfl rfl ?_
      refine J_getRl (j := 1) xcf8 dX8_clear_18 kO77 (Or.inl xq422) (by decide) (by decide) rf_77_1 ?_
      refine J_iload_n 1 dX8_clear_21 rfl rfl ?_
      refine J_iconst dX8_clear_22 (by decide) ?_
      obtain ⟨hg, hf⟩ := xgd_e hf
      obtain ⟨h2, eh2, hf⟩ := xlet_e hf
      refine J_iast dX8_clear_23 (xK_r1 kO79) kO79 hg nA79 eh2 ?_
      exact J_rt dX8_clear_24 rfl (xq_v hf)
    · have hf := xin' hc hf
      exact J_rt dX8_clear_24 rfl (xq_v hf)
theorem dX8_lay_0 : decode cX8_lay 0 = .ok (.iload_n 1, 1) := by decide +kernel
theorem dX8_lay_1 : decode cX8_lay 1 = .ok (.ifCond .lt 56, 3) := by decide +kernel
theorem dX8_lay_4 : decode cX8_lay 4 = .ok (.iload_n 1, 1) := by decide +kernel
theorem dX8_lay_5 : decode cX8_lay 5 = .ok (.bipush 8, 2) := by decide +kernel
theorem dX8_lay_7 : decode cX8_lay 7 = .ok (.if_icmp .ge 50, 3) := by decide +kernel
theorem dX8_lay_10 : decode cX8_lay 10 = .ok (.aload_n 0, 1) := by decide +kernel
theorem dX8_lay_11 : decode cX8_lay 11 = .ok (.getfield 15, 3) := by decide +kernel
theorem dX8_lay_14 : decode cX8_lay 14 = .ok (.iload_n 1, 1) := by decide +kernel
theorem dX8_lay_15 : decode cX8_lay 15 = .ok (.iaload, 1) := by decide +kernel
theorem dX8_lay_16 : decode cX8_lay 16 = .ok (.ifCond .lt 41, 3) := by decide +kernel
theorem dX8_lay_19 : decode cX8_lay 19 = .ok (.aload_n 0, 1) := by decide +kernel
theorem dX8_lay_20 : decode cX8_lay 20 = .ok (.getfield 15, 3) := by decide +kernel
theorem dX8_lay_23 : decode cX8_lay 23 = .ok (.iload_n 1, 1) := by decide +kernel
theorem dX8_lay_24 : decode cX8_lay 24 = .ok (.iaload, 1) := by decide +kernel
theorem dX8_lay_25 : decode cX8_lay 25 = .ok (.bipush 26, 2) := by decide +kernel
theorem dX8_lay_27 : decode cX8_lay 27 = .ok (.if_icmp .ge 30, 3) := by decide +kernel
theorem dX8_lay_30 : decode cX8_lay 30 = .ok (.aload_n 0, 1) := by decide +kernel
theorem dX8_lay_31 : decode cX8_lay 31 = .ok (.getfield 18, 3) := by decide +kernel
theorem dX8_lay_34 : decode cX8_lay 34 = .ok (.iload_n 1, 1) := by decide +kernel
theorem dX8_lay_35 : decode cX8_lay 35 = .ok (.bipush 26, 2) := by decide +kernel
theorem dX8_lay_37 : decode cX8_lay 37 = .ok (.imul, 1) := by decide +kernel
theorem dX8_lay_38 : decode cX8_lay 38 = .ok (.aload_n 0, 1) := by decide +kernel
theorem dX8_lay_39 : decode cX8_lay 39 = .ok (.getfield 15, 3) := by decide +kernel
theorem dX8_lay_42 : decode cX8_lay 42 = .ok (.iload_n 1, 1) := by decide +kernel
theorem dX8_lay_43 : decode cX8_lay 43 = .ok (.iaload, 1) := by decide +kernel
theorem dX8_lay_44 : decode cX8_lay 44 = .ok (.iadd, 1) := by decide +kernel
theorem dX8_lay_45 : decode cX8_lay 45 = .ok (.iload_n 2, 1) := by decide +kernel
theorem dX8_lay_46 : decode cX8_lay 46 = .ok (.iastore, 1) := by decide +kernel
theorem dX8_lay_47 : decode cX8_lay 47 = .ok (.aload_n 0, 1) := by decide +kernel
theorem dX8_lay_48 : decode cX8_lay 48 = .ok (.getfield 15, 3) := by decide +kernel
theorem dX8_lay_51 : decode cX8_lay 51 = .ok (.iload_n 1, 1) := by decide +kernel
theorem dX8_lay_52 : decode cX8_lay 52 = .ok (.dup2, 1) := by decide +kernel
theorem dX8_lay_53 : decode cX8_lay 53 = .ok (.iaload, 1) := by decide +kernel
theorem dX8_lay_54 : decode cX8_lay 54 = .ok (.iconst 1, 1) := by decide +kernel
theorem dX8_lay_55 : decode cX8_lay 55 = .ok (.iadd, 1) := by decide +kernel
theorem dX8_lay_56 : decode cX8_lay 56 = .ok (.iastore, 1) := by decide +kernel
theorem dX8_lay_57 : decode cX8_lay 57 = .ok (.return_, 1) := by decide +kernel
theorem jm_Trays_lay {l1 : Int} {l2 : Int} {h : xH} {h0 : xH}  (hf : f_Trays_lay l1 l2 h = some h0) : J mX8_lay true 0 0 0 xKn (xen 0 [xR 77, xI l1, xI l2]) [] h (xEq none h0) := by
  unfold f_Trays_lay at hf
  refine J_cong (ls2 := [(0, xR 77), (1, xI l1), (2, xI l2)]) (st2 := []) rfl rfl ?_
  refine J_iload_n 1 dX8_lay_0 rfl rfl ?_
  refine J_if_lt (tgt := 57) dX8_lay_1 (by decide) (fun hc => ?_) (fun hc => ?_)
  · have hf := xip hc hf
    exact J_rt dX8_lay_57 rfl (xq_v hf)
  · have hf := xin' hc hf
    refine J_iload_n 1 dX8_lay_4 rfl rfl ?_
    refine J_bip dX8_lay_5 (by decide) ?_
    refine J_ic_ge (tgt := 57) dX8_lay_7 (by decide) (fun hc => ?_) (fun hc => ?_)
    · have hf := xip hc hf
      refine J_aload_n 0 dX8_lay_10 rfl rfl ?_
      refine J_getRl (j := 1) xcf8 dX8_lay_11 kO77 (Or.inl xq422) (by decide) (by decide) rf_77_1 ?_
      refine J_iload_n 1 dX8_lay_14 rfl rfl ?_
      obtain ⟨hg, hf⟩ := xgd_e hf
      refine J_iald dX8_lay_15 (xK_r1 kO79) kO79 hg nA79 ?_
      refine J_if_lt (tgt := 57) dX8_lay_16 (by decide) (fun hc => ?_) (fun hc => ?_)
      · have hf := xip hc hf
        exact J_rt dX8_lay_57 rfl (xq_v hf)
      · have hf := xin' hc hf
        refine J_aload_n 0 dX8_lay_19 rfl rfl ?_
        refine J_getRl (j := 1) xcf8 dX8_lay_20 kO77 (Or.inl xq422) (by decide) (by decide) rf_77_1 ?_
        refine J_iload_n 1 dX8_lay_23 rfl rfl ?_
        obtain ⟨hg, hf⟩ := xgd_e hf
        refine J_iald dX8_lay_24 (xK_r1 kO79) kO79 hg nA79 ?_
        refine J_bip dX8_lay_25 (by decide) ?_
        refine J_ic_ge (tgt := 57) dX8_lay_27 (by decide) (fun hc => ?_) (fun hc => ?_)
        · have hf := xip hc hf
          refine J_aload_n 0 dX8_lay_30 rfl rfl ?_
          refine J_getRl (j := 2) xcf8 dX8_lay_31 kO77 (Or.inl xq423) (by decide) (by decide) rf_77_2 ?_
          refine J_iload_n 1 dX8_lay_34 rfl rfl ?_
          refine J_bip dX8_lay_35 (by decide) ?_
          refine J_imul dX8_lay_37 ?_
          refine J_aload_n 0 dX8_lay_38 rfl rfl ?_
          refine J_getRl (j := 1) xcf8 dX8_lay_39 kO77 (Or.inl xq422) (by decide) (by decide) rf_77_1 ?_
          refine J_iload_n 1 dX8_lay_42 rfl rfl ?_
          obtain ⟨hg, hf⟩ := xgd_e hf
          refine J_iald dX8_lay_43 (xK_r1 kO79) kO79 hg nA79 ?_
          refine J_iadd dX8_lay_44 ?_
          refine J_iload_n 2 dX8_lay_45 rfl rfl ?_
          obtain ⟨hg, hf⟩ := xgd_e hf
          obtain ⟨h1, eh1, hf⟩ := xlet_e hf
          refine J_iast dX8_lay_46 (xK_r1 kO80) kO80 hg nA80 eh1 ?_
          refine J_aload_n 0 dX8_lay_47 rfl rfl ?_
          refine J_getRl (j := 1) xcf8 dX8_lay_48 kO77 (Or.inl xq422) (by decide) (by decide) rf_77_1 ?_
          refine J_iload_n 1 dX8_lay_51 rfl rfl ?_
          refine J_dup2 dX8_lay_52 rfl rfl ?_
          obtain ⟨hg, hf⟩ := xgd_e hf
          refine J_iald dX8_lay_53 (xK_r1 kO79) kO79 hg nA79 ?_
          refine J_iconst dX8_lay_54 (by decide) ?_
          refine J_iadd dX8_lay_55 ?_
          obtain ⟨hg, hf⟩ := xgd_e hf
          obtain ⟨h2, eh2, hf⟩ := xlet_e hf
          refine J_iast dX8_lay_56 (xK_r1 kO79) kO79 hg nA79 eh2 ?_
          exact J_rt dX8_lay_57 rfl (xq_v hf)
        · have hf := xin' hc hf
          exact J_rt dX8_lay_57 rfl (xq_v hf)
    · have hf := xin' hc hf
      exact J_rt dX8_lay_57 rfl (xq_v hf)
theorem dX11_layLetters_0 : decode cX11_layLetters 0 = .ok (.iconst 0, 1) := by decide +kernel
theorem dX11_layLetters_1 : decode cX11_layLetters 1 = .ok (.istore_n 3, 1) := by decide +kernel
theorem dX11_layLetters_2 : decode cX11_layLetters 2 = .ok (.iload_n 3, 1) := by decide +kernel
theorem dX11_layLetters_3 : decode cX11_layLetters 3 = .ok (.aload_n 0, 1) := by decide +kernel
theorem dX11_layLetters_4 : decode cX11_layLetters 4 = .ok (.getfield 19, 3) := by decide +kernel
theorem dX11_layLetters_7 : decode cX11_layLetters 7 = .ok (.getfield 129, 3) := by decide +kernel
theorem dX11_layLetters_10 : decode cX11_layLetters 10 = .ok (.iload_n 2, 1) := by decide +kernel
theorem dX11_layLetters_11 : decode cX11_layLetters 11 = .ok (.invokevirtual 140, 3) := by decide +kernel
theorem dX11_layLetters_14 : decode cX11_layLetters 14 = .ok (.if_icmp .ge 29, 3) := by decide +kernel
theorem dX11_layLetters_17 : decode cX11_layLetters 17 = .ok (.aload_n 0, 1) := by decide +kernel
theorem dX11_layLetters_18 : decode cX11_layLetters 18 = .ok (.getfield 105, 3) := by decide +kernel
theorem dX11_layLetters_21 : decode cX11_layLetters 21 = .ok (.iload_n 1, 1) := by decide +kernel
theorem dX11_layLetters_22 : decode cX11_layLetters 22 = .ok (.aload_n 0, 1) := by decide +kernel
theorem dX11_layLetters_23 : decode cX11_layLetters 23 = .ok (.getfield 19, 3) := by decide +kernel
theorem dX11_layLetters_26 : decode cX11_layLetters 26 = .ok (.getfield 129, 3) := by decide +kernel
theorem dX11_layLetters_29 : decode cX11_layLetters 29 = .ok (.iload_n 2, 1) := by decide +kernel
theorem dX11_layLetters_30 : decode cX11_layLetters 30 = .ok (.iload_n 3, 1) := by decide +kernel
theorem dX11_layLetters_31 : decode cX11_layLetters 31 = .ok (.invokevirtual 143, 3) := by decide +kernel
theorem dX11_layLetters_34 : decode cX11_layLetters 34 = .ok (.invokevirtual 317, 3) := by decide +kernel
theorem dX11_layLetters_37 : decode cX11_layLetters 37 = .ok (.iinc 3 1, 3) := by decide +kernel
theorem dX11_layLetters_40 : decode cX11_layLetters 40 = .ok (.goto (-38), 3) := by decide +kernel
theorem dX11_layLetters_43 : decode cX11_layLetters 43 = .ok (.return_, 1) := by decide +kernel
theorem j_WM_layLetters_43  {h : xH} {h0 : xH}  (hf : f_WM_layLetters_43 h = some h0)  : J mX11_layLetters true 0 0 43 xKn [] [] h (xEq none h0) := by
  unfold f_WM_layLetters_43 at hf
  exact J_rt dX11_layLetters_43 rfl (xq_v hf)
theorem j_WM_layLetters_s2 {l1 : Int} {l2 : Int} {l3 : Int} {h : xH} {x : ((Int × xH) ⊕ xH)} {Q : xQ}  (hf : f_WM_layLetters_s2 l1 l2 l3 h = some x) (kb : ∀ (l3' : Int) (h' : xH), x = Sum.inl (l3', h') → J mX11_layLetters true 0 0 2 xKn [(0, xR 1), (1, xI l1), (2, xI l2), (3, xI l3')] [] h' Q) (ke : ∀  (h' : xH), x = (Sum.inr h') → J mX11_layLetters true 0 0 43 xKn [] [] h' Q) : J mX11_layLetters true 0 0 2 xKn [(0, xR 1), (1, xI l1), (2, xI l2), (3, xI l3)] [] h Q := by
  unfold f_WM_layLetters_s2 at hf
  refine J_iload_n 3 dX11_layLetters_2 rfl rfl ?_
  refine J_aload_n 0 dX11_layLetters_3 rfl rfl ?_
  refine J_getRl (j := 1) xcf11 dX11_layLetters_4 kO1 (Or.inl xq436) (by decide) (by decide) rf_1_1 ?_
  refine J_getRl (j := 0) xcf1 dX11_layLetters_7 kO4 (Or.inr ⟨_, xq197⟩) (by decide) (by decide) rf_4_0 ?_
  refine J_iload_n 2 dX11_layLetters_10 rfl rfl ?_
  obtain ⟨r1, hq, hf⟩ := xc1_e hf
  refine J_cVi (Mc := mX5_sizeOf) [xI l2] dX11_layLetters_11 (fc_Rows_sizeOf.fit ⟨xbl rfl, xbl rfl⟩) rfl ⟨Or.inr ⟨_, xq582⟩, xq584, xq16⟩ kO5 (ci := 5) rfl rfl (xbl rfl) (xbl rfl) (jm_Rows_sizeOf kO5 hq) ?_
  refine J_ic_ge (tgt := 43) dX11_layLetters_14 (by decide) (fun hc => ?_) (fun hc => ?_)
  · have hf := xip hc hf
    refine J_aload_n 0 dX11_layLetters_17 rfl rfl ?_
    refine J_getRl (j := 16) xcf11 dX11_layLetters_18 kO1 (Or.inl xq451) (by decide) (by decide) rf_1_16 ?_
    refine J_iload_n 1 dX11_layLetters_21 rfl rfl ?_
    refine J_aload_n 0 dX11_layLetters_22 rfl rfl ?_
    refine J_getRl (j := 1) xcf11 dX11_layLetters_23 kO1 (Or.inl xq436) (by decide) (by decide) rf_1_1 ?_
    refine J_getRl (j := 0) xcf1 dX11_layLetters_26 kO4 (Or.inr ⟨_, xq197⟩) (by decide) (by decide) rf_4_0 ?_
    refine J_iload_n 2 dX11_layLetters_29 rfl rfl ?_
    refine J_iload_n 3 dX11_layLetters_30 rfl rfl ?_
    obtain ⟨r2, hq, hf⟩ := xc1_e hf
    refine J_cVi (Mc := mX5_at) [xI l2, xI l3] dX11_layLetters_31 (fc_Rows_at.fit ⟨xbl rfl, xbl rfl⟩) rfl ⟨Or.inr ⟨_, xq586⟩, xq534, xq9⟩ kO5 (ci := 5) rfl rfl (xbl rfl) (xbl rfl) (jm_Rows_at kO5 hq) ?_
    obtain ⟨h3, hq, hf⟩ := xc1_e hf
    refine J_cVv (Mc := mX8_lay) [xI l1, xI r2] dX11_layLetters_34 (fc_Trays_lay.fit ⟨xbl rfl, xbl rfl⟩) rfl ⟨Or.inr ⟨_, xq962⟩, xq964, xq79⟩ kO77 (ci := 8) rfl rfl (xbl rfl) (xbl rfl) (jm_Trays_lay  hq) ?_
    obtain ⟨x4, ex4, hf⟩ := xlet_e hf
    refine J_iinc (ls' := [(3, xI x4), (0, xR 1), (1, xI l1), (2, xI l2)]) 3 dX11_layLetters_37 rfl (by decide) ex4 rfl ?_
    refine J_goto (tgt := 2) dX11_layLetters_40 (by decide) ?_
    refine J_sub [1, 2, 3, 0] rfl ?_
    exact kb _ _ (xinl hf)
  · have hf := xin' hc hf
    refine J_sub [] rfl ?_
    exact ke _ (xinl hf)
theorem j_WM_layLetters_2 {l1 : Int} {l2 : Int} {l3 : Int} {h : xH} {h0 : xH}  (hf : f_WM_layLetters_2 l1 l2 l3 h = some h0)  : J mX11_layLetters true 0 0 2 xKn [(0, xR 1), (1, xI l1), (2, xI l2), (3, xI l3)] [] h (xEq none h0) := by
  unfold f_WM_layLetters_2 at hf
  obtain ⟨b0, hb0, hf⟩ := xc1_e hf
  refine xloop_ind (P := fun s : (Int × xH) => J mX11_layLetters true 0 0 2 xKn [(0, xR 1), (1, xI l1), (2, xI l2), (3, xI s.1)] [] s.2 (xEq none h0)) hb0 (fun s x1 hs ib ie => ?_)
  exact j_WM_layLetters_s2  hs (fun _ _ e => ib _ e) (fun _ e => by have := ie _ e; subst this; exact j_WM_layLetters_43  hf)
theorem jm_WM_layLetters {l1 : Int} {l2 : Int} {h : xH} {h0 : xH}  (hf : f_WM_layLetters l1 l2 h = some h0) : J mX11_layLetters true 0 0 0 xKn (xen 0 [xR 1, xI l1, xI l2]) [] h (xEq none h0) := by
  unfold f_WM_layLetters at hf
  refine J_cong (ls2 := [(0, xR 1), (1, xI l1), (2, xI l2)]) (st2 := []) rfl rfl ?_
  refine J_iconst dX11_layLetters_0 (by decide) ?_
  refine J_istore_n (ls' := [(3, xI 0), (0, xR 1), (1, xI l1), (2, xI l2)]) dX11_layLetters_1 rfl (by decide) rfl rfl ?_
  refine J_sub [1, 2, 3, 0] rfl ?_
  exact j_WM_layLetters_2  hf
theorem dX11_layState_0 : decode cX11_layState 0 = .ok (.iconst 0, 1) := by decide +kernel
theorem dX11_layState_1 : decode cX11_layState 1 = .ok (.istore_n 3, 1) := by decide +kernel
theorem dX11_layState_2 : decode cX11_layState 2 = .ok (.iload_n 3, 1) := by decide +kernel
theorem dX11_layState_3 : decode cX11_layState 3 = .ok (.aload_n 0, 1) := by decide +kernel
theorem dX11_layState_4 : decode cX11_layState 4 = .ok (.getfield 79, 3) := by decide +kernel
theorem dX11_layState_7 : decode cX11_layState 7 = .ok (.getfield 155, 3) := by decide +kernel
theorem dX11_layState_10 : decode cX11_layState 10 = .ok (.getfield 320, 3) := by decide +kernel
theorem dX11_layState_13 : decode cX11_layState 13 = .ok (.if_icmp .ge 29, 3) := by decide +kernel
theorem dX11_layState_16 : decode cX11_layState 16 = .ok (.aload_n 0, 1) := by decide +kernel
theorem dX11_layState_17 : decode cX11_layState 17 = .ok (.getfield 105, 3) := by decide +kernel
theorem dX11_layState_20 : decode cX11_layState 20 = .ok (.iload_n 1, 1) := by decide +kernel
theorem dX11_layState_21 : decode cX11_layState 21 = .ok (.aload_n 0, 1) := by decide +kernel
theorem dX11_layState_22 : decode cX11_layState 22 = .ok (.getfield 79, 3) := by decide +kernel
theorem dX11_layState_25 : decode cX11_layState 25 = .ok (.getfield 155, 3) := by decide +kernel
theorem dX11_layState_28 : decode cX11_layState 28 = .ok (.iload_n 2, 1) := by decide +kernel
theorem dX11_layState_29 : decode cX11_layState 29 = .ok (.iload_n 3, 1) := by decide +kernel
theorem dX11_layState_30 : decode cX11_layState 30 = .ok (.invokevirtual 323, 3) := by decide +kernel
theorem dX11_layState_33 : decode cX11_layState 33 = .ok (.invokevirtual 317, 3) := by decide +kernel
theorem dX11_layState_36 : decode cX11_layState 36 = .ok (.iinc 3 1, 3) := by decide +kernel
theorem dX11_layState_39 : decode cX11_layState 39 = .ok (.goto (-37), 3) := by decide +kernel
theorem dX11_layState_42 : decode cX11_layState 42 = .ok (.return_, 1) := by decide +kernel
theorem j_WM_layState_42  {h : xH} {h0 : xH}  (hf : f_WM_layState_42 h = some h0)  : J mX11_layState true 0 0 42 xKn [] [] h (xEq none h0) := by
  unfold f_WM_layState_42 at hf
  exact J_rt dX11_layState_42 rfl (xq_v hf)
theorem j_WM_layState_s2 {l1 : Int} {l2 : Int} {l3 : Int} {h : xH} {x : ((Int × xH) ⊕ xH)} {Q : xQ}  (hf : f_WM_layState_s2 l1 l2 l3 h = some x) (kb : ∀ (l3' : Int) (h' : xH), x = Sum.inl (l3', h') → J mX11_layState true 0 0 2 xKn [(0, xR 1), (1, xI l1), (2, xI l2), (3, xI l3')] [] h' Q) (ke : ∀  (h' : xH), x = (Sum.inr h') → J mX11_layState true 0 0 42 xKn [] [] h' Q) : J mX11_layState true 0 0 2 xKn [(0, xR 1), (1, xI l1), (2, xI l2), (3, xI l3)] [] h Q := by
  unfold f_WM_layState_s2 at hf
  refine J_iload_n 3 dX11_layState_2 rfl rfl ?_
  refine J_aload_n 0 dX11_layState_3 rfl rfl ?_
  refine J_getRl (j := 12) xcf11 dX11_layState_4 kO1 (Or.inl xq447) (by decide) (by decide) rf_1_12 ?_
  refine J_getRl (j := 2) xcf9 dX11_layState_7 kO48 (Or.inr ⟨_, xq333⟩) (by decide) (by decide) rf_48_2 ?_
  refine J_getI (j := 7) xcf3 dX11_layState_10 (xK_rg kO49) kO49 (Or.inr ⟨_, xq309⟩) (by decide) (by decide) ?_
  refine J_ic_ge (tgt := 42) dX11_layState_13 (by decide) (fun hc => ?_) (fun hc => ?_)
  · have hf := xip hc hf
    refine J_aload_n 0 dX11_layState_16 rfl rfl ?_
    refine J_getRl (j := 16) xcf11 dX11_layState_17 kO1 (Or.inl xq451) (by decide) (by decide) rf_1_16 ?_
    refine J_iload_n 1 dX11_layState_20 rfl rfl ?_
    refine J_aload_n 0 dX11_layState_21 rfl rfl ?_
    refine J_getRl (j := 12) xcf11 dX11_layState_22 kO1 (Or.inl xq447) (by decide) (by decide) rf_1_12 ?_
    refine J_getRl (j := 2) xcf9 dX11_layState_25 kO48 (Or.inr ⟨_, xq333⟩) (by decide) (by decide) rf_48_2 ?_
    refine J_iload_n 2 dX11_layState_28 rfl rfl ?_
    refine J_iload_n 3 dX11_layState_29 rfl rfl ?_
    obtain ⟨r1, hq, hf⟩ := xc1_e hf
    refine J_cVi (Mc := mX3_stateAt) [xI l2, xI l3] dX11_layState_30 (fc_Met_stateAt.fit ⟨xbl rfl, xbl rfl⟩) rfl ⟨Or.inr ⟨_, xq970⟩, xq831, xq56⟩ kO49 (ci := 3) rfl rfl (xbl rfl) (xbl rfl) (jm_Met_stateAt  hq) ?_
    obtain ⟨h2, hq, hf⟩ := xc1_e hf
    refine J_cVv (Mc := mX8_lay) [xI l1, xI r1] dX11_layState_33 (fc_Trays_lay.fit ⟨xbl rfl, xbl rfl⟩) rfl ⟨Or.inr ⟨_, xq962⟩, xq964, xq79⟩ kO77 (ci := 8) rfl rfl (xbl rfl) (xbl rfl) (jm_Trays_lay  hq) ?_
    obtain ⟨x3, ex3, hf⟩ := xlet_e hf
    refine J_iinc (ls' := [(3, xI x3), (0, xR 1), (1, xI l1), (2, xI l2)]) 3 dX11_layState_36 rfl (by decide) ex3 rfl ?_
    refine J_goto (tgt := 2) dX11_layState_39 (by decide) ?_
    refine J_sub [1, 2, 3, 0] rfl ?_
    exact kb _ _ (xinl hf)
  · have hf := xin' hc hf
    refine J_sub [] rfl ?_
    exact ke _ (xinl hf)
theorem j_WM_layState_2 {l1 : Int} {l2 : Int} {l3 : Int} {h : xH} {h0 : xH}  (hf : f_WM_layState_2 l1 l2 l3 h = some h0)  : J mX11_layState true 0 0 2 xKn [(0, xR 1), (1, xI l1), (2, xI l2), (3, xI l3)] [] h (xEq none h0) := by
  unfold f_WM_layState_2 at hf
  obtain ⟨b0, hb0, hf⟩ := xc1_e hf
  refine xloop_ind (P := fun s : (Int × xH) => J mX11_layState true 0 0 2 xKn [(0, xR 1), (1, xI l1), (2, xI l2), (3, xI s.1)] [] s.2 (xEq none h0)) hb0 (fun s x1 hs ib ie => ?_)
  exact j_WM_layState_s2  hs (fun _ _ e => ib _ e) (fun _ e => by have := ie _ e; subst this; exact j_WM_layState_42  hf)
theorem jm_WM_layState {l1 : Int} {l2 : Int} {h : xH} {h0 : xH}  (hf : f_WM_layState l1 l2 h = some h0) : J mX11_layState true 0 0 0 xKn (xen 0 [xR 1, xI l1, xI l2]) [] h (xEq none h0) := by
  unfold f_WM_layState at hf
  refine J_cong (ls2 := [(0, xR 1), (1, xI l1), (2, xI l2)]) (st2 := []) rfl rfl ?_
  refine J_iconst dX11_layState_0 (by decide) ?_
  refine J_istore_n (ls' := [(3, xI 0), (0, xR 1), (1, xI l1), (2, xI l2)]) dX11_layState_1 rfl (by decide) rfl rfl ?_
  refine J_sub [1, 2, 3, 0] rfl ?_
  exact j_WM_layState_2  hf
theorem dX11_layPrices_0 : decode cX11_layPrices 0 = .ok (.iconst 1, 1) := by decide +kernel
theorem dX11_layPrices_1 : decode cX11_layPrices 1 = .ok (.istore_n 2, 1) := by decide +kernel
theorem dX11_layPrices_2 : decode cX11_layPrices 2 = .ok (.iload_n 2, 1) := by decide +kernel
theorem dX11_layPrices_3 : decode cX11_layPrices 3 = .ok (.bipush 6, 2) := by decide +kernel
theorem dX11_layPrices_5 : decode cX11_layPrices 5 = .ok (.if_icmp .gt 25, 3) := by decide +kernel
theorem dX11_layPrices_8 : decode cX11_layPrices 8 = .ok (.aload_n 0, 1) := by decide +kernel
theorem dX11_layPrices_9 : decode cX11_layPrices 9 = .ok (.getfield 105, 3) := by decide +kernel
theorem dX11_layPrices_12 : decode cX11_layPrices 12 = .ok (.iload_n 1, 1) := by decide +kernel
theorem dX11_layPrices_13 : decode cX11_layPrices 13 = .ok (.aload_n 0, 1) := by decide +kernel
theorem dX11_layPrices_14 : decode cX11_layPrices 14 = .ok (.getfield 26, 3) := by decide +kernel
theorem dX11_layPrices_17 : decode cX11_layPrices 17 = .ok (.iload_n 2, 1) := by decide +kernel
theorem dX11_layPrices_18 : decode cX11_layPrices 18 = .ok (.invokevirtual 312, 3) := by decide +kernel
theorem dX11_layPrices_21 : decode cX11_layPrices 21 = .ok (.invokevirtual 317, 3) := by decide +kernel
theorem dX11_layPrices_24 : decode cX11_layPrices 24 = .ok (.iinc 2 1, 3) := by decide +kernel
theorem dX11_layPrices_27 : decode cX11_layPrices 27 = .ok (.goto (-25), 3) := by decide +kernel
theorem dX11_layPrices_30 : decode cX11_layPrices 30 = .ok (.return_, 1) := by decide +kernel
theorem j_WM_layPrices_30  {h : xH} {h0 : xH}  (hf : f_WM_layPrices_30 h = some h0)  : J mX11_layPrices true 0 0 30 xKn [] [] h (xEq none h0) := by
  unfold f_WM_layPrices_30 at hf
  exact J_rt dX11_layPrices_30 rfl (xq_v hf)
theorem j_WM_layPrices_s2 {l1 : Int} {l2 : Int} {h : xH} {x : ((Int × xH) ⊕ xH)} {Q : xQ}  (hf : f_WM_layPrices_s2 l1 l2 h = some x) (kb : ∀ (l2' : Int) (h' : xH), x = Sum.inl (l2', h') → J mX11_layPrices true 0 0 2 xKn [(0, xR 1), (1, xI l1), (2, xI l2')] [] h' Q) (ke : ∀  (h' : xH), x = (Sum.inr h') → J mX11_layPrices true 0 0 30 xKn [] [] h' Q) : J mX11_layPrices true 0 0 2 xKn [(0, xR 1), (1, xI l1), (2, xI l2)] [] h Q := by
  unfold f_WM_layPrices_s2 at hf
  refine J_iload_n 2 dX11_layPrices_2 rfl rfl ?_
  refine J_bip dX11_layPrices_3 (by decide) ?_
  refine J_ic_gt (tgt := 30) dX11_layPrices_5 (by decide) (fun hc => ?_) (fun hc => ?_)
  · have hf := xip hc hf
    refine J_sub [] rfl ?_
    exact ke _ (xinl hf)
  · have hf := xin' hc hf
    refine J_aload_n 0 dX11_layPrices_8 rfl rfl ?_
    refine J_getRl (j := 16) xcf11 dX11_layPrices_9 kO1 (Or.inl xq451) (by decide) (by decide) rf_1_16 ?_
    refine J_iload_n 1 dX11_layPrices_12 rfl rfl ?_
    refine J_aload_n 0 dX11_layPrices_13 rfl rfl ?_
    refine J_getRl (j := 2) xcf11 dX11_layPrices_14 kO1 (Or.inl xq437) (by decide) (by decide) rf_1_2 ?_
    refine J_iload_n 2 dX11_layPrices_17 rfl rfl ?_
    obtain ⟨r1, hq, hf⟩ := xc1_e hf
    refine J_cVi (Mc := mX6_kindPrice) [xI l2] dX11_layPrices_18 (fc_Slips_kindPrice.fit ⟨xbl rfl, xbl rfl⟩) rfl ⟨Or.inr ⟨_, xq905⟩, xq907, xq68⟩ kO9 (ci := 6) rfl rfl (xbl rfl) (xbl rfl) (jm_Slips_kindPrice  hq) ?_
    obtain ⟨h2, hq, hf⟩ := xc1_e hf
    refine J_cVv (Mc := mX8_lay) [xI l1, xI r1] dX11_layPrices_21 (fc_Trays_lay.fit ⟨xbl rfl, xbl rfl⟩) rfl ⟨Or.inr ⟨_, xq962⟩, xq964, xq79⟩ kO77 (ci := 8) rfl rfl (xbl rfl) (xbl rfl) (jm_Trays_lay  hq) ?_
    obtain ⟨x3, ex3, hf⟩ := xlet_e hf
    refine J_iinc (ls' := [(2, xI x3), (0, xR 1), (1, xI l1)]) 2 dX11_layPrices_24 rfl (by decide) ex3 rfl ?_
    refine J_goto (tgt := 2) dX11_layPrices_27 (by decide) ?_
    refine J_sub [1, 2, 0] rfl ?_
    exact kb _ _ (xinl hf)
theorem j_WM_layPrices_2 {l1 : Int} {l2 : Int} {h : xH} {h0 : xH}  (hf : f_WM_layPrices_2 l1 l2 h = some h0)  : J mX11_layPrices true 0 0 2 xKn [(0, xR 1), (1, xI l1), (2, xI l2)] [] h (xEq none h0) := by
  unfold f_WM_layPrices_2 at hf
  obtain ⟨b0, hb0, hf⟩ := xc1_e hf
  refine xloop_ind (P := fun s : (Int × xH) => J mX11_layPrices true 0 0 2 xKn [(0, xR 1), (1, xI l1), (2, xI s.1)] [] s.2 (xEq none h0)) hb0 (fun s x1 hs ib ie => ?_)
  exact j_WM_layPrices_s2  hs (fun _ _ e => ib _ e) (fun _ e => by have := ie _ e; subst this; exact j_WM_layPrices_30  hf)
theorem jm_WM_layPrices {l1 : Int} {h : xH} {h0 : xH}  (hf : f_WM_layPrices l1 h = some h0) : J mX11_layPrices true 0 0 0 xKn (xen 0 [xR 1, xI l1]) [] h (xEq none h0) := by
  unfold f_WM_layPrices at hf
  refine J_cong (ls2 := [(0, xR 1), (1, xI l1)]) (st2 := []) rfl rfl ?_
  refine J_iconst dX11_layPrices_0 (by decide) ?_
  refine J_istore_n (ls' := [(2, xI 1), (0, xR 1), (1, xI l1)]) dX11_layPrices_1 rfl (by decide) rfl rfl ?_
  refine J_sub [1, 2, 0] rfl ?_
  exact j_WM_layPrices_2  hf
theorem dX11_layTruths_0 : decode cX11_layTruths 0 = .ok (.iconst 0, 1) := by decide +kernel
theorem dX11_layTruths_1 : decode cX11_layTruths 1 = .ok (.istore_n 3, 1) := by decide +kernel
theorem dX11_layTruths_2 : decode cX11_layTruths 2 = .ok (.iload_n 3, 1) := by decide +kernel
theorem dX11_layTruths_3 : decode cX11_layTruths 3 = .ok (.bipush 26, 2) := by decide +kernel
theorem dX11_layTruths_5 : decode cX11_layTruths 5 = .ok (.if_icmp .ge 67, 3) := by decide +kernel
theorem dX11_layTruths_8 : decode cX11_layTruths 8 = .ok (.iconst 0, 1) := by decide +kernel
theorem dX11_layTruths_9 : decode cX11_layTruths 9 = .ok (.istore 4, 2) := by decide +kernel
theorem dX11_layTruths_11 : decode cX11_layTruths 11 = .ok (.iconst 0, 1) := by decide +kernel
theorem dX11_layTruths_12 : decode cX11_layTruths 12 = .ok (.istore 5, 2) := by decide +kernel
theorem dX11_layTruths_14 : decode cX11_layTruths 14 = .ok (.iload 5, 2) := by decide +kernel
theorem dX11_layTruths_16 : decode cX11_layTruths 16 = .ok (.aload_n 0, 1) := by decide +kernel
theorem dX11_layTruths_17 : decode cX11_layTruths 17 = .ok (.getfield 19, 3) := by decide +kernel
theorem dX11_layTruths_20 : decode cX11_layTruths 20 = .ok (.getfield 129, 3) := by decide +kernel
theorem dX11_layTruths_23 : decode cX11_layTruths 23 = .ok (.iload_n 2, 1) := by decide +kernel
theorem dX11_layTruths_24 : decode cX11_layTruths 24 = .ok (.invokevirtual 140, 3) := by decide +kernel
theorem dX11_layTruths_27 : decode cX11_layTruths 27 = .ok (.if_icmp .ge 29, 3) := by decide +kernel
theorem dX11_layTruths_30 : decode cX11_layTruths 30 = .ok (.aload_n 0, 1) := by decide +kernel
theorem dX11_layTruths_31 : decode cX11_layTruths 31 = .ok (.getfield 19, 3) := by decide +kernel
theorem dX11_layTruths_34 : decode cX11_layTruths 34 = .ok (.getfield 129, 3) := by decide +kernel
theorem dX11_layTruths_37 : decode cX11_layTruths 37 = .ok (.iload_n 2, 1) := by decide +kernel
theorem dX11_layTruths_38 : decode cX11_layTruths 38 = .ok (.iload 5, 2) := by decide +kernel
theorem dX11_layTruths_40 : decode cX11_layTruths 40 = .ok (.invokevirtual 143, 3) := by decide +kernel
theorem dX11_layTruths_43 : decode cX11_layTruths 43 = .ok (.iload_n 3, 1) := by decide +kernel
theorem dX11_layTruths_44 : decode cX11_layTruths 44 = .ok (.if_icmp .ne 6, 3) := by decide +kernel
theorem dX11_layTruths_47 : decode cX11_layTruths 47 = .ok (.iconst 1, 1) := by decide +kernel
theorem dX11_layTruths_48 : decode cX11_layTruths 48 = .ok (.istore 4, 2) := by decide +kernel
theorem dX11_layTruths_50 : decode cX11_layTruths 50 = .ok (.iinc 5 1, 3) := by decide +kernel
theorem dX11_layTruths_53 : decode cX11_layTruths 53 = .ok (.goto (-39), 3) := by decide +kernel
theorem dX11_layTruths_56 : decode cX11_layTruths 56 = .ok (.aload_n 0, 1) := by decide +kernel
theorem dX11_layTruths_57 : decode cX11_layTruths 57 = .ok (.getfield 105, 3) := by decide +kernel
theorem dX11_layTruths_60 : decode cX11_layTruths 60 = .ok (.iload_n 1, 1) := by decide +kernel
theorem dX11_layTruths_61 : decode cX11_layTruths 61 = .ok (.iload 4, 2) := by decide +kernel
theorem dX11_layTruths_63 : decode cX11_layTruths 63 = .ok (.invokevirtual 317, 3) := by decide +kernel
theorem dX11_layTruths_66 : decode cX11_layTruths 66 = .ok (.iinc 3 1, 3) := by decide +kernel
theorem dX11_layTruths_69 : decode cX11_layTruths 69 = .ok (.goto (-67), 3) := by decide +kernel
theorem dX11_layTruths_72 : decode cX11_layTruths 72 = .ok (.return_, 1) := by decide +kernel
theorem j_WM_layTruths_72  {h : xH} {h0 : xH}  (hf : f_WM_layTruths_72 h = some h0)  : J mX11_layTruths true 0 0 72 xKn [] [] h (xEq none h0) := by
  unfold f_WM_layTruths_72 at hf
  exact J_rt dX11_layTruths_72 rfl (xq_v hf)
theorem j_WM_layTruths_56 {l1 : Int} {l2 : Int} {l3 : Int} {l4 : Int} {h : xH} {x : ((Int × xH) ⊕ xH)} {Q : xQ}  (hf : f_WM_layTruths_56 l1 l2 l3 l4 h = some x) (kb : ∀ (l3' : Int) (h' : xH), x = Sum.inl (l3', h') → J mX11_layTruths true 0 0 2 xKn [(0, xR 1), (1, xI l1), (2, xI l2), (3, xI l3')] [] h' Q) (ke : ∀  (h' : xH), x = (Sum.inr h') → J mX11_layTruths true 0 0 72 xKn [] [] h' Q) : J mX11_layTruths true 0 0 56 xKn [(0, xR 1), (1, xI l1), (2, xI l2), (3, xI l3), (4, xI l4)] [] h Q := by
  unfold f_WM_layTruths_56 at hf
  refine J_aload_n 0 dX11_layTruths_56 rfl rfl ?_
  refine J_getRl (j := 16) xcf11 dX11_layTruths_57 kO1 (Or.inl xq451) (by decide) (by decide) rf_1_16 ?_
  refine J_iload_n 1 dX11_layTruths_60 rfl rfl ?_
  refine J_iload 4 dX11_layTruths_61 rfl ?_
  obtain ⟨h1, hq, hf⟩ := xc1_e hf
  refine J_cVv (Mc := mX8_lay) [xI l1, xI l4] dX11_layTruths_63 (fc_Trays_lay.fit ⟨xbl rfl, xbl rfl⟩) rfl ⟨Or.inr ⟨_, xq962⟩, xq964, xq79⟩ kO77 (ci := 8) rfl rfl (xbl rfl) (xbl rfl) (jm_Trays_lay  hq) ?_
  obtain ⟨x2, ex2, hf⟩ := xlet_e hf
  refine J_iinc (ls' := [(3, xI x2), (0, xR 1), (1, xI l1), (2, xI l2), (4, xI l4)]) 3 dX11_layTruths_66 rfl (by decide) ex2 rfl ?_
  refine J_goto (tgt := 2) dX11_layTruths_69 (by decide) ?_
  refine J_sub [1, 2, 3, 0] rfl ?_
  exact kb _ _ (xinl hf)
theorem j_WM_layTruths_50 {l1 : Int} {l2 : Int} {l3 : Int} {l4 : Int} {l5 : Int} {h : xH} {x : ((Int × Int) ⊕ Int)} {Q : xQ}  (hf : f_WM_layTruths_50 l1 l2 l3 l4 l5 h = some x) (kb : ∀ (l4' : Int) (l5' : Int), x = Sum.inl (l4', l5') → J mX11_layTruths true 0 0 14 xKn [(0, xR 1), (1, xI l1), (2, xI l2), (3, xI l3), (4, xI l4'), (5, xI l5')] [] h Q) (ke : ∀ (l4' : Int), x = (Sum.inr l4') → J mX11_layTruths true 0 0 56 xKn [(0, xR 1), (1, xI l1), (2, xI l2), (3, xI l3), (4, xI l4')] [] h Q) : J mX11_layTruths true 0 0 50 xKn [(0, xR 1), (1, xI l1), (2, xI l2), (3, xI l3), (4, xI l4), (5, xI l5)] [] h Q := by
  unfold f_WM_layTruths_50 at hf
  obtain ⟨x1, ex1, hf⟩ := xlet_e hf
  refine J_iinc (ls' := [(5, xI x1), (0, xR 1), (1, xI l1), (2, xI l2), (3, xI l3), (4, xI l4)]) 5 dX11_layTruths_50 rfl (by decide) ex1 rfl ?_
  refine J_goto (tgt := 14) dX11_layTruths_53 (by decide) ?_
  refine J_sub [1, 2, 3, 4, 5, 0] rfl ?_
  exact kb _ _ (xinl hf)
theorem j_WM_layTruths_s14 {l1 : Int} {l2 : Int} {l3 : Int} {l4 : Int} {l5 : Int} {h : xH} {x : ((Int × Int) ⊕ Int)} {Q : xQ}  (hf : f_WM_layTruths_s14 l1 l2 l3 l4 l5 h = some x) (kb : ∀ (l4' : Int) (l5' : Int), x = Sum.inl (l4', l5') → J mX11_layTruths true 0 0 14 xKn [(0, xR 1), (1, xI l1), (2, xI l2), (3, xI l3), (4, xI l4'), (5, xI l5')] [] h Q) (ke : ∀ (l4' : Int), x = (Sum.inr l4') → J mX11_layTruths true 0 0 56 xKn [(0, xR 1), (1, xI l1), (2, xI l2), (3, xI l3), (4, xI l4')] [] h Q) : J mX11_layTruths true 0 0 14 xKn [(0, xR 1), (1, xI l1), (2, xI l2), (3, xI l3), (4, xI l4), (5, xI l5)] [] h Q := by
  unfold f_WM_layTruths_s14 at hf
  refine J_iload 5 dX11_layTruths_14 rfl ?_
  refine J_aload_n 0 dX11_layTruths_16 rfl rfl ?_
  refine J_getRl (j := 1) xcf11 dX11_layTruths_17 kO1 (Or.inl xq436) (by decide) (by decide) rf_1_1 ?_
  refine J_getRl (j := 0) xcf1 dX11_layTruths_20 kO4 (Or.inr ⟨_, xq197⟩) (by decide) (by decide) rf_4_0 ?_
  refine J_iload_n 2 dX11_layTruths_23 rfl rfl ?_
  obtain ⟨r1, hq, hf⟩ := xc1_e hf
  refine J_cVi (Mc := mX5_sizeOf) [xI l2] dX11_layTruths_24 (fc_Rows_sizeOf.fit ⟨xbl rfl, xbl rfl⟩) rfl ⟨Or.inr ⟨_, xq582⟩, xq584, xq16⟩ kO5 (ci := 5) rfl rfl (xbl rfl) (xbl rfl) (jm_Rows_sizeOf kO5 hq) ?_
  refine J_ic_ge (tgt := 56) dX11_layTruths_27 (by decide) (fun hc => ?_) (fun hc => ?_)
  · have hf := xip hc hf
    refine J_aload_n 0 dX11_layTruths_30 rfl rfl ?_
    refine J_getRl (j := 1) xcf11 dX11_layTruths_31 kO1 (Or.inl xq436) (by decide) (by decide) rf_1_1 ?_
    refine J_getRl (j := 0) xcf1 dX11_layTruths_34 kO4 (Or.inr ⟨_, xq197⟩) (by decide) (by decide) rf_4_0 ?_
    refine J_iload_n 2 dX11_layTruths_37 rfl rfl ?_
    refine J_iload 5 dX11_layTruths_38 rfl ?_
    obtain ⟨r2, hq, hf⟩ := xc1_e hf
    refine J_cVi (Mc := mX5_at) [xI l2, xI l5] dX11_layTruths_40 (fc_Rows_at.fit ⟨xbl rfl, xbl rfl⟩) rfl ⟨Or.inr ⟨_, xq586⟩, xq534, xq9⟩ kO5 (ci := 5) rfl rfl (xbl rfl) (xbl rfl) (jm_Rows_at kO5 hq) ?_
    refine J_iload_n 3 dX11_layTruths_43 rfl rfl ?_
    refine J_ic_ne (tgt := 50) dX11_layTruths_44 (by decide) (fun hc => ?_) (fun hc => ?_)
    · have hf := xip hc hf
      refine J_iconst dX11_layTruths_47 (by decide) ?_
      refine J_istore (ls' := [(4, xI 1), (0, xR 1), (1, xI l1), (2, xI l2), (3, xI l3), (5, xI l5)]) dX11_layTruths_48 (by decide) rfl rfl ?_
      refine J_sub [1, 2, 3, 4, 0, 5] rfl ?_
      exact j_WM_layTruths_50  hf kb ke
    · have hf := xin' hc hf
      exact j_WM_layTruths_50  hf kb ke
  · have hf := xin' hc hf
    refine J_sub [0, 1, 2, 3, 4] rfl ?_
    exact ke _ (xinl hf)
theorem j_WM_layTruths_14 {l1 : Int} {l2 : Int} {l3 : Int} {l4 : Int} {l5 : Int} {h : xH} {x : ((Int × xH) ⊕ xH)} {Q : xQ}  (hf : f_WM_layTruths_14 l1 l2 l3 l4 l5 h = some x) (kb : ∀ (l3' : Int) (h' : xH), x = Sum.inl (l3', h') → J mX11_layTruths true 0 0 2 xKn [(0, xR 1), (1, xI l1), (2, xI l2), (3, xI l3')] [] h' Q) (ke : ∀  (h' : xH), x = (Sum.inr h') → J mX11_layTruths true 0 0 72 xKn [] [] h' Q) : J mX11_layTruths true 0 0 14 xKn [(0, xR 1), (1, xI l1), (2, xI l2), (3, xI l3), (4, xI l4), (5, xI l5)] [] h Q := by
  unfold f_WM_layTruths_14 at hf
  obtain ⟨b0, hb0, hf⟩ := xc1_e hf
  refine xloop_ind (P := fun s : (Int × Int) => J mX11_layTruths true 0 0 14 xKn [(0, xR 1), (1, xI l1), (2, xI l2), (3, xI l3), (4, xI s.1), (5, xI s.2)] [] h Q) hb0 (fun s x1 hs ib ie => ?_)
  exact j_WM_layTruths_s14  hs (fun _ _ e => ib _ e) (fun _ e => by have := ie _ e; subst this; exact j_WM_layTruths_56  hf kb ke)
theorem j_WM_layTruths_s2 {l1 : Int} {l2 : Int} {l3 : Int} {h : xH} {x : ((Int × xH) ⊕ xH)} {Q : xQ}  (hf : f_WM_layTruths_s2 l1 l2 l3 h = some x) (kb : ∀ (l3' : Int) (h' : xH), x = Sum.inl (l3', h') → J mX11_layTruths true 0 0 2 xKn [(0, xR 1), (1, xI l1), (2, xI l2), (3, xI l3')] [] h' Q) (ke : ∀  (h' : xH), x = (Sum.inr h') → J mX11_layTruths true 0 0 72 xKn [] [] h' Q) : J mX11_layTruths true 0 0 2 xKn [(0, xR 1), (1, xI l1), (2, xI l2), (3, xI l3)] [] h Q := by
  unfold f_WM_layTruths_s2 at hf
  refine J_iload_n 3 dX11_layTruths_2 rfl rfl ?_
  refine J_bip dX11_layTruths_3 (by decide) ?_
  refine J_ic_ge (tgt := 72) dX11_layTruths_5 (by decide) (fun hc => ?_) (fun hc => ?_)
  · have hf := xip hc hf
    refine J_iconst dX11_layTruths_8 (by decide) ?_
    refine J_istore (ls' := [(4, xI 0), (0, xR 1), (1, xI l1), (2, xI l2), (3, xI l3)]) dX11_layTruths_9 (by decide) rfl rfl ?_
    refine J_iconst dX11_layTruths_11 (by decide) ?_
    refine J_istore (ls' := [(5, xI 0), (4, xI 0), (0, xR 1), (1, xI l1), (2, xI l2), (3, xI l3)]) dX11_layTruths_12 (by decide) rfl rfl ?_
    refine J_sub [2, 3, 4, 5, 1, 0] rfl ?_
    exact j_WM_layTruths_14  hf kb ke
  · have hf := xin' hc hf
    refine J_sub [] rfl ?_
    exact ke _ (xinl hf)
theorem j_WM_layTruths_2 {l1 : Int} {l2 : Int} {l3 : Int} {h : xH} {h0 : xH}  (hf : f_WM_layTruths_2 l1 l2 l3 h = some h0)  : J mX11_layTruths true 0 0 2 xKn [(0, xR 1), (1, xI l1), (2, xI l2), (3, xI l3)] [] h (xEq none h0) := by
  unfold f_WM_layTruths_2 at hf
  obtain ⟨b0, hb0, hf⟩ := xc1_e hf
  refine xloop_ind (P := fun s : (Int × xH) => J mX11_layTruths true 0 0 2 xKn [(0, xR 1), (1, xI l1), (2, xI l2), (3, xI s.1)] [] s.2 (xEq none h0)) hb0 (fun s x1 hs ib ie => ?_)
  exact j_WM_layTruths_s2  hs (fun _ _ e => ib _ e) (fun _ e => by have := ie _ e; subst this; exact j_WM_layTruths_72  hf)
theorem jm_WM_layTruths {l1 : Int} {l2 : Int} {h : xH} {h0 : xH}  (hf : f_WM_layTruths l1 l2 h = some h0) : J mX11_layTruths true 0 0 0 xKn (xen 0 [xR 1, xI l1, xI l2]) [] h (xEq none h0) := by
  unfold f_WM_layTruths at hf
  refine J_cong (ls2 := [(0, xR 1), (1, xI l1), (2, xI l2)]) (st2 := []) rfl rfl ?_
  refine J_iconst dX11_layTruths_0 (by decide) ?_
  refine J_istore_n (ls' := [(3, xI 0), (0, xR 1), (1, xI l1), (2, xI l2)]) dX11_layTruths_1 rfl (by decide) rfl rfl ?_
  refine J_sub [1, 2, 3, 0] rfl ?_
  exact j_WM_layTruths_2  hf
theorem dX8_done_0 : decode cX8_done 0 = .ok (.aload_n 0, 1) := by decide +kernel
theorem dX8_done_1 : decode cX8_done 1 = .ok (.iconst 0, 1) := by decide +kernel
theorem dX8_done_2 : decode cX8_done 2 = .ok (.putfield 21, 3) := by decide +kernel
theorem dX8_done_5 : decode cX8_done 5 = .ok (.iload_n 1, 1) := by decide +kernel
theorem dX8_done_6 : decode cX8_done 6 = .ok (.ireturn, 1) := by decide +kernel
theorem jm_Trays_done {l1 : Int} {h : xH} {r0 : Int} {h0 : xH}  (hf : f_Trays_done l1 h = some (r0, h0)) : J mX8_done true 0 0 0 xKn (xen 0 [xR 77, xI l1]) [] h (xEq (some r0) h0) := by
  unfold f_Trays_done at hf
  refine J_cong (ls2 := [(0, xR 77), (1, xI l1)]) (st2 := []) rfl rfl ?_
  refine J_aload_n 0 dX8_done_0 rfl rfl ?_
  refine J_iconst dX8_done_1 (by decide) ?_
  obtain ⟨h1, eh1, hf⟩ := xlet_e hf
  refine J_putI (j := 3) xcf8 dX8_done_2 (xK_rg kO77) kO77 (Or.inl xq424) (by decide) (by decide) eh1 ?_
  refine J_iload_n 1 dX8_done_5 rfl rfl ?_
  exact J_ireti dX8_done_6 rfl (xq_i hf)
theorem dX11_put_0 : decode cX11_put 0 = .ok (.iload_n 1, 1) := by decide +kernel
theorem dX11_put_1 : decode cX11_put 1 = .ok (.ifCond .lt 18, 3) := by decide +kernel
theorem dX11_put_4 : decode cX11_put 4 = .ok (.iload_n 1, 1) := by decide +kernel
theorem dX11_put_5 : decode cX11_put 5 = .ok (.bipush 8, 2) := by decide +kernel
theorem dX11_put_7 : decode cX11_put 7 = .ok (.if_icmp .ge 12, 3) := by decide +kernel
theorem dX11_put_10 : decode cX11_put 10 = .ok (.aload_n 0, 1) := by decide +kernel
theorem dX11_put_11 : decode cX11_put 11 = .ok (.iload_n 2, 1) := by decide +kernel
theorem dX11_put_12 : decode cX11_put 12 = .ok (.iload_n 3, 1) := by decide +kernel
theorem dX11_put_13 : decode cX11_put 13 = .ok (.invokevirtual 273, 3) := by decide +kernel
theorem dX11_put_16 : decode cX11_put 16 = .ok (.ifCond .ne 12, 3) := by decide +kernel
theorem dX11_put_19 : decode cX11_put 19 = .ok (.aload_n 0, 1) := by decide +kernel
theorem dX11_put_20 : decode cX11_put 20 = .ok (.getfield 105, 3) := by decide +kernel
theorem dX11_put_23 : decode cX11_put 23 = .ok (.iconst 1, 1) := by decide +kernel
theorem dX11_put_24 : decode cX11_put 24 = .ok (.invokevirtual 276, 3) := by decide +kernel
theorem dX11_put_27 : decode cX11_put 27 = .ok (.ireturn, 1) := by decide +kernel
theorem dX11_put_28 : decode cX11_put 28 = .ok (.aload_n 0, 1) := by decide +kernel
theorem dX11_put_29 : decode cX11_put 29 = .ok (.getfield 105, 3) := by decide +kernel
theorem dX11_put_32 : decode cX11_put 32 = .ok (.iload_n 1, 1) := by decide +kernel
theorem dX11_put_33 : decode cX11_put 33 = .ok (.iload_n 2, 1) := by decide +kernel
theorem dX11_put_34 : decode cX11_put 34 = .ok (.invokevirtual 279, 3) := by decide +kernel
theorem dX11_put_37 : decode cX11_put 37 = .ok (.iload_n 2, 1) := by decide +kernel
theorem dX11_put_38 : decode cX11_put 38 = .ok (.iconst 1, 1) := by decide +kernel
theorem dX11_put_39 : decode cX11_put 39 = .ok (.if_icmp .ne 12, 3) := by decide +kernel
theorem dX11_put_42 : decode cX11_put 42 = .ok (.aload_n 0, 1) := by decide +kernel
theorem dX11_put_43 : decode cX11_put 43 = .ok (.iload_n 1, 1) := by decide +kernel
theorem dX11_put_44 : decode cX11_put 44 = .ok (.iload_n 3, 1) := by decide +kernel
theorem dX11_put_45 : decode cX11_put 45 = .ok (.invokevirtual 281, 3) := by decide +kernel
theorem dX11_put_48 : decode cX11_put 48 = .ok (.goto 41, 3) := by decide +kernel
theorem dX11_put_51 : decode cX11_put 51 = .ok (.iload_n 2, 1) := by decide +kernel
theorem dX11_put_52 : decode cX11_put 52 = .ok (.iconst 2, 1) := by decide +kernel
theorem dX11_put_53 : decode cX11_put 53 = .ok (.if_icmp .ne 12, 3) := by decide +kernel
theorem dX11_put_56 : decode cX11_put 56 = .ok (.aload_n 0, 1) := by decide +kernel
theorem dX11_put_57 : decode cX11_put 57 = .ok (.iload_n 1, 1) := by decide +kernel
theorem dX11_put_58 : decode cX11_put 58 = .ok (.iload_n 3, 1) := by decide +kernel
theorem dX11_put_59 : decode cX11_put 59 = .ok (.invokevirtual 284, 3) := by decide +kernel
theorem dX11_put_62 : decode cX11_put 62 = .ok (.goto 27, 3) := by decide +kernel
theorem dX11_put_65 : decode cX11_put 65 = .ok (.iload_n 2, 1) := by decide +kernel
theorem dX11_put_66 : decode cX11_put 66 = .ok (.iconst 3, 1) := by decide +kernel
theorem dX11_put_67 : decode cX11_put 67 = .ok (.if_icmp .ne 11, 3) := by decide +kernel
theorem dX11_put_70 : decode cX11_put 70 = .ok (.aload_n 0, 1) := by decide +kernel
theorem dX11_put_71 : decode cX11_put 71 = .ok (.iload_n 1, 1) := by decide +kernel
theorem dX11_put_72 : decode cX11_put 72 = .ok (.invokevirtual 287, 3) := by decide +kernel
theorem dX11_put_75 : decode cX11_put 75 = .ok (.goto 14, 3) := by decide +kernel
theorem dX11_put_78 : decode cX11_put 78 = .ok (.iload_n 2, 1) := by decide +kernel
theorem dX11_put_79 : decode cX11_put 79 = .ok (.iconst 4, 1) := by decide +kernel
theorem dX11_put_80 : decode cX11_put 80 = .ok (.if_icmp .ne 9, 3) := by decide +kernel
theorem dX11_put_83 : decode cX11_put 83 = .ok (.aload_n 0, 1) := by decide +kernel
theorem dX11_put_84 : decode cX11_put 84 = .ok (.iload_n 1, 1) := by decide +kernel
theorem dX11_put_85 : decode cX11_put 85 = .ok (.iload_n 3, 1) := by decide +kernel
theorem dX11_put_86 : decode cX11_put 86 = .ok (.invokevirtual 290, 3) := by decide +kernel
theorem dX11_put_89 : decode cX11_put 89 = .ok (.aload_n 0, 1) := by decide +kernel
theorem dX11_put_90 : decode cX11_put 90 = .ok (.getfield 105, 3) := by decide +kernel
theorem dX11_put_93 : decode cX11_put 93 = .ok (.iconst 1, 1) := by decide +kernel
theorem dX11_put_94 : decode cX11_put 94 = .ok (.invokevirtual 293, 3) := by decide +kernel
theorem dX11_put_97 : decode cX11_put 97 = .ok (.ireturn, 1) := by decide +kernel
theorem j_WM_put_89  {h : xH} {r0 : Int} {h0 : xH}  (hf : f_WM_put_89 h = some (r0, h0))  : J mX11_put true 0 0 89 xKn [(0, xR 1)] [] h (xEq (some r0) h0) := by
  unfold f_WM_put_89 at hf
  refine J_aload_n 0 dX11_put_89 rfl rfl ?_
  refine J_getRl (j := 16) xcf11 dX11_put_90 kO1 (Or.inl xq451) (by decide) (by decide) rf_1_16 ?_
  refine J_iconst dX11_put_93 (by decide) ?_
  obtain ⟨r1, h2, hq, hf⟩ := xc2_e hf
  refine J_cVi (Mc := mX8_done) [xI 1] dX11_put_94 (fc_Trays_done.fit ⟨xbl rfl, xbl rfl⟩) rfl ⟨Or.inr ⟨_, xq979⟩, xq981, xq83⟩ kO77 (ci := 8) rfl rfl (xbl rfl) (xbl rfl) (jm_Trays_done  hq) ?_
  exact J_ireti dX11_put_97 rfl (xq_i hf)
theorem j_WM_put_19  {h : xH} {r0 : Int} {h0 : xH}  (hf : f_WM_put_19 h = some (r0, h0))  : J mX11_put true 0 0 19 xKn [(0, xR 1)] [] h (xEq (some r0) h0) := by
  unfold f_WM_put_19 at hf
  refine J_aload_n 0 dX11_put_19 rfl rfl ?_
  refine J_getRl (j := 16) xcf11 dX11_put_20 kO1 (Or.inl xq451) (by decide) (by decide) rf_1_16 ?_
  refine J_iconst dX11_put_23 (by decide) ?_
  obtain ⟨r1, h2, hq, hf⟩ := xc2_e hf
  refine J_cVi (Mc := mX8_refuse) [xI 1] dX11_put_24 (fc_Trays_refuse.fit ⟨xbl rfl, xbl rfl⟩) rfl ⟨Or.inr ⟨_, xq950⟩, xq952, xq76⟩ kO77 (ci := 8) rfl rfl (xbl rfl) (xbl rfl) (jm_Trays_refuse  hq) ?_
  exact J_ireti dX11_put_27 rfl (xq_i hf)
theorem jm_WM_put {l1 : Int} {l2 : Int} {l3 : Int} {h : xH} {r0 : Int} {h0 : xH}  (hf : f_WM_put l1 l2 l3 h = some (r0, h0)) : J mX11_put true 0 0 0 xKn (xen 0 [xR 1, xI l1, xI l2, xI l3]) [] h (xEq (some r0) h0) := by
  unfold f_WM_put at hf
  refine J_cong (ls2 := [(0, xR 1), (1, xI l1), (2, xI l2), (3, xI l3)]) (st2 := []) rfl rfl ?_
  refine J_iload_n 1 dX11_put_0 rfl rfl ?_
  refine J_if_lt (tgt := 19) dX11_put_1 (by decide) (fun hc => ?_) (fun hc => ?_)
  · have hf := xip hc hf
    refine J_sub [0] rfl ?_
    exact j_WM_put_19  hf
  · have hf := xin' hc hf
    refine J_iload_n 1 dX11_put_4 rfl rfl ?_
    refine J_bip dX11_put_5 (by decide) ?_
    refine J_ic_ge (tgt := 19) dX11_put_7 (by decide) (fun hc => ?_) (fun hc => ?_)
    · have hf := xip hc hf
      refine J_aload_n 0 dX11_put_10 rfl rfl ?_
      refine J_iload_n 2 dX11_put_11 rfl rfl ?_
      refine J_iload_n 3 dX11_put_12 rfl rfl ?_
      obtain ⟨r1, hq, hf⟩ := xc1_e hf
      refine J_cVi (Mc := mX11_isThing) [xI l2, xI l3] dX11_put_13 (fc_WM_isThing.fit ⟨xbl rfl, xbl rfl⟩) rfl ⟨Or.inl xq946, xq948, xq75⟩ kO1 (ci := 11) rfl rfl (xbl rfl) (xbl rfl) (jm_WM_isThing  hq) ?_
      refine J_if_ne (tgt := 28) dX11_put_16 (by decide) (fun hc => ?_) (fun hc => ?_)
      · have hf := xip hc hf
        refine J_sub [0] rfl ?_
        exact j_WM_put_19  hf
      · have hf := xin' hc hf
        refine J_aload_n 0 dX11_put_28 rfl rfl ?_
        refine J_getRl (j := 16) xcf11 dX11_put_29 kO1 (Or.inl xq451) (by decide) (by decide) rf_1_16 ?_
        refine J_iload_n 1 dX11_put_32 rfl rfl ?_
        refine J_iload_n 2 dX11_put_33 rfl rfl ?_
        obtain ⟨h2, hq, hf⟩ := xc1_e hf
        refine J_cVv (Mc := mX8_clear) [xI l1, xI l2] dX11_put_34 (fc_Trays_clear.fit ⟨xbl rfl, xbl rfl⟩) rfl ⟨Or.inr ⟨_, xq954⟩, xq956, xq77⟩ kO77 (ci := 8) rfl rfl (xbl rfl) (xbl rfl) (jm_Trays_clear  hq) ?_
        refine J_iload_n 2 dX11_put_37 rfl rfl ?_
        refine J_iconst dX11_put_38 (by decide) ?_
        refine J_ic_ne (tgt := 51) dX11_put_39 (by decide) (fun hc => ?_) (fun hc => ?_)
        · have hf := xip hc hf
          refine J_aload_n 0 dX11_put_42 rfl rfl ?_
          refine J_iload_n 1 dX11_put_43 rfl rfl ?_
          refine J_iload_n 3 dX11_put_44 rfl rfl ?_
          obtain ⟨h3, hq, hf⟩ := xc1_e hf
          refine J_cVv (Mc := mX11_layLetters) [xI l1, xI l3] dX11_put_45 (fc_WM_layLetters.fit ⟨xbl rfl, xbl rfl⟩) rfl ⟨Or.inl xq958, xq960, xq78⟩ kO1 (ci := 11) rfl rfl (xbl rfl) (xbl rfl) (jm_WM_layLetters  hq) ?_
          refine J_goto (tgt := 89) dX11_put_48 (by decide) ?_
          refine J_sub [0] rfl ?_
          exact j_WM_put_89  hf
        · have hf := xin' hc hf
          refine J_iload_n 2 dX11_put_51 rfl rfl ?_
          refine J_iconst dX11_put_52 (by decide) ?_
          refine J_ic_ne (tgt := 65) dX11_put_53 (by decide) (fun hc => ?_) (fun hc => ?_)
          · have hf := xip hc hf
            refine J_aload_n 0 dX11_put_56 rfl rfl ?_
            refine J_iload_n 1 dX11_put_57 rfl rfl ?_
            refine J_iload_n 3 dX11_put_58 rfl rfl ?_
            obtain ⟨h4, hq, hf⟩ := xc1_e hf
            refine J_cVv (Mc := mX11_layState) [xI l1, xI l3] dX11_put_59 (fc_WM_layState.fit ⟨xbl rfl, xbl rfl⟩) rfl ⟨Or.inl xq966, xq968, xq80⟩ kO1 (ci := 11) rfl rfl (xbl rfl) (xbl rfl) (jm_WM_layState  hq) ?_
            refine J_goto (tgt := 89) dX11_put_62 (by decide) ?_
            refine J_sub [0] rfl ?_
            exact j_WM_put_89  hf
          · have hf := xin' hc hf
            refine J_iload_n 2 dX11_put_65 rfl rfl ?_
            refine J_iconst dX11_put_66 (by decide) ?_
            refine J_ic_ne (tgt := 78) dX11_put_67 (by decide) (fun hc => ?_) (fun hc => ?_)
            · have hf := xip hc hf
              refine J_aload_n 0 dX11_put_70 rfl rfl ?_
              refine J_iload_n 1 dX11_put_71 rfl rfl ?_
              obtain ⟨h5, hq, hf⟩ := xc1_e hf
              refine J_cVv (Mc := mX11_layPrices) [xI l1] dX11_put_72 (fc_WM_layPrices.fit ⟨xbl rfl, xbl rfl⟩) rfl ⟨Or.inl xq971, xq973, xq81⟩ kO1 (ci := 11) rfl rfl (xbl rfl) (xbl rfl) (jm_WM_layPrices  hq) ?_
              refine J_goto (tgt := 89) dX11_put_75 (by decide) ?_
              refine J_sub [0] rfl ?_
              exact j_WM_put_89  hf
            · have hf := xin' hc hf
              refine J_iload_n 2 dX11_put_78 rfl rfl ?_
              refine J_iconst dX11_put_79 (by decide) ?_
              refine J_ic_ne (tgt := 89) dX11_put_80 (by decide) (fun hc => ?_) (fun hc => ?_)
              · have hf := xip hc hf
                refine J_aload_n 0 dX11_put_83 rfl rfl ?_
                refine J_iload_n 1 dX11_put_84 rfl rfl ?_
                refine J_iload_n 3 dX11_put_85 rfl rfl ?_
                obtain ⟨h6, hq, hf⟩ := xc1_e hf
                refine J_cVv (Mc := mX11_layTruths) [xI l1, xI l3] dX11_put_86 (fc_WM_layTruths.fit ⟨xbl rfl, xbl rfl⟩) rfl ⟨Or.inl xq975, xq977, xq82⟩ kO1 (ci := 11) rfl rfl (xbl rfl) (xbl rfl) (jm_WM_layTruths  hq) ?_
                refine J_sub [0] rfl ?_
                exact j_WM_put_89  hf
              · have hf := xin' hc hf
                refine J_sub [0] rfl ?_
                exact j_WM_put_89  hf
    · have hf := xin' hc hf
      refine J_sub [0] rfl ?_
      exact j_WM_put_19  hf
theorem dX8_whyNot_0 : decode cX8_whyNot 0 = .ok (.iload_n 1, 1) := by decide +kernel
theorem dX8_whyNot_1 : decode cX8_whyNot 1 = .ok (.ifCond .lt 9, 3) := by decide +kernel
theorem dX8_whyNot_4 : decode cX8_whyNot 4 = .ok (.iload_n 1, 1) := by decide +kernel
theorem dX8_whyNot_5 : decode cX8_whyNot 5 = .ok (.bipush 8, 2) := by decide +kernel
theorem dX8_whyNot_7 : decode cX8_whyNot 7 = .ok (.if_icmp .lt 5, 3) := by decide +kernel
theorem dX8_whyNot_10 : decode cX8_whyNot 10 = .ok (.iconst 1, 1) := by decide +kernel
theorem dX8_whyNot_11 : decode cX8_whyNot 11 = .ok (.ireturn, 1) := by decide +kernel
theorem dX8_whyNot_12 : decode cX8_whyNot 12 = .ok (.aload_n 0, 1) := by decide +kernel
theorem dX8_whyNot_13 : decode cX8_whyNot 13 = .ok (.getfield 9, 3) := by decide +kernel
theorem dX8_whyNot_16 : decode cX8_whyNot 16 = .ok (.iload_n 1, 1) := by decide +kernel
theorem dX8_whyNot_17 : decode cX8_whyNot 17 = .ok (.iaload, 1) := by decide +kernel
theorem dX8_whyNot_18 : decode cX8_whyNot 18 = .ok (.ifCond .ne 6, 3) := by decide +kernel
theorem dX8_whyNot_21 : decode cX8_whyNot 21 = .ok (.bipush 10, 2) := by decide +kernel
theorem dX8_whyNot_23 : decode cX8_whyNot 23 = .ok (.ireturn, 1) := by decide +kernel
theorem dX8_whyNot_24 : decode cX8_whyNot 24 = .ok (.aload_n 0, 1) := by decide +kernel
theorem dX8_whyNot_25 : decode cX8_whyNot 25 = .ok (.getfield 9, 3) := by decide +kernel
theorem dX8_whyNot_28 : decode cX8_whyNot 28 = .ok (.iload_n 1, 1) := by decide +kernel
theorem dX8_whyNot_29 : decode cX8_whyNot 29 = .ok (.iaload, 1) := by decide +kernel
theorem dX8_whyNot_30 : decode cX8_whyNot 30 = .ok (.iload_n 2, 1) := by decide +kernel
theorem dX8_whyNot_31 : decode cX8_whyNot 31 = .ok (.if_icmp .ne 7, 3) := by decide +kernel
theorem dX8_whyNot_34 : decode cX8_whyNot 34 = .ok (.iconst 0, 1) := by decide +kernel
theorem dX8_whyNot_35 : decode cX8_whyNot 35 = .ok (.goto 5, 3) := by decide +kernel
theorem dX8_whyNot_38 : decode cX8_whyNot 38 = .ok (.bipush 11, 2) := by decide +kernel
theorem dX8_whyNot_40 : decode cX8_whyNot 40 = .ok (.ireturn, 1) := by decide +kernel
theorem jm_Trays_whyNot {l1 : Int} {l2 : Int} {h : xH} {r0 : Int}  (hf : f_Trays_whyNot l1 l2 h = some r0) : J mX8_whyNot true 0 0 0 xKn (xen 0 [xR 77, xI l1, xI l2]) [] h (xEq (some r0) h) := by
  unfold f_Trays_whyNot at hf
  refine J_cong (ls2 := [(0, xR 77), (1, xI l1), (2, xI l2)]) (st2 := []) rfl rfl ?_
  refine J_iload_n 1 dX8_whyNot_0 rfl rfl ?_
  refine J_if_lt (tgt := 10) dX8_whyNot_1 (by decide) (fun hc => ?_) (fun hc => ?_)
  · have hf := xip hc hf
    refine J_iconst dX8_whyNot_10 (by decide) ?_
    exact J_ireti dX8_whyNot_11 rfl (xq_p hf)
  · have hf := xin' hc hf
    refine J_iload_n 1 dX8_whyNot_4 rfl rfl ?_
    refine J_bip dX8_whyNot_5 (by decide) ?_
    refine J_ic_lt (tgt := 12) dX8_whyNot_7 (by decide) (fun hc => ?_) (fun hc => ?_)
    · have hf := xip hc hf
      refine J_aload_n 0 dX8_whyNot_12 rfl rfl ?_
      refine J_getRl (j := 0) xcf8 dX8_whyNot_13 kO77 (Or.inl xq421) (by decide) (by decide) rf_77_0 ?_
      refine J_iload_n 1 dX8_whyNot_16 rfl rfl ?_
      obtain ⟨hg, hf⟩ := xgd_e hf
      refine J_iald dX8_whyNot_17 (xK_r1 kO78) kO78 hg nA78 ?_
      refine J_if_ne (tgt := 24) dX8_whyNot_18 (by decide) (fun hc => ?_) (fun hc => ?_)
      · have hf := xip hc hf
        refine J_bip dX8_whyNot_21 (by decide) ?_
        exact J_ireti dX8_whyNot_23 rfl (xq_p hf)
      · have hf := xin' hc hf
        refine J_aload_n 0 dX8_whyNot_24 rfl rfl ?_
        refine J_getRl (j := 0) xcf8 dX8_whyNot_25 kO77 (Or.inl xq421) (by decide) (by decide) rf_77_0 ?_
        refine J_iload_n 1 dX8_whyNot_28 rfl rfl ?_
        obtain ⟨hg, hf⟩ := xgd_e hf
        refine J_iald dX8_whyNot_29 (xK_r1 kO78) kO78 hg nA78 ?_
        refine J_iload_n 2 dX8_whyNot_30 rfl rfl ?_
        refine J_ic_ne (tgt := 38) dX8_whyNot_31 (by decide) (fun hc => ?_) (fun hc => ?_)
        · have hf := xip hc hf
          refine J_iconst dX8_whyNot_34 (by decide) ?_
          refine J_goto (tgt := 40) dX8_whyNot_35 (by decide) ?_
          exact J_ireti dX8_whyNot_40 rfl (xq_p hf)
        · have hf := xin' hc hf
          refine J_bip dX8_whyNot_38 (by decide) ?_
          exact J_ireti dX8_whyNot_40 rfl (xq_p hf)
    · have hf := xin' hc hf
      refine J_iconst dX8_whyNot_10 (by decide) ?_
      exact J_ireti dX8_whyNot_11 rfl (xq_p hf)
theorem dX8_read_0 : decode cX8_read 0 = .ok (.aload_n 0, 1) := by decide +kernel
theorem dX8_read_1 : decode cX8_read 1 = .ok (.iload_n 1, 1) := by decide +kernel
theorem dX8_read_2 : decode cX8_read 2 = .ok (.iload_n 2, 1) := by decide +kernel
theorem dX8_read_3 : decode cX8_read 3 = .ok (.invokevirtual 43, 3) := by decide +kernel
theorem dX8_read_6 : decode cX8_read 6 = .ok (.istore 4, 2) := by decide +kernel
theorem dX8_read_8 : decode cX8_read 8 = .ok (.iload 4, 2) := by decide +kernel
theorem dX8_read_10 : decode cX8_read 10 = .ok (.ifCond .eq 10, 3) := by decide +kernel
theorem dX8_read_13 : decode cX8_read 13 = .ok (.aload_n 0, 1) := by decide +kernel
theorem dX8_read_14 : decode cX8_read 14 = .ok (.iload 4, 2) := by decide +kernel
theorem dX8_read_16 : decode cX8_read 16 = .ok (.invokevirtual 25, 3) := by decide +kernel
theorem dX8_read_19 : decode cX8_read 19 = .ok (.ireturn, 1) := by decide +kernel
theorem dX8_read_20 : decode cX8_read 20 = .ok (.aload_n 0, 1) := by decide +kernel
theorem dX8_read_21 : decode cX8_read 21 = .ok (.getfield 15, 3) := by decide +kernel
theorem dX8_read_24 : decode cX8_read 24 = .ok (.iload_n 1, 1) := by decide +kernel
theorem dX8_read_25 : decode cX8_read 25 = .ok (.iaload, 1) := by decide +kernel
theorem dX8_read_26 : decode cX8_read 26 = .ok (.bipush 26, 2) := by decide +kernel
theorem dX8_read_28 : decode cX8_read 28 = .ok (.invokestatic 46, 3) := by decide +kernel
theorem dX8_read_31 : decode cX8_read 31 = .ok (.istore 5, 2) := by decide +kernel
theorem dX8_read_33 : decode cX8_read 33 = .ok (.iload_n 3, 1) := by decide +kernel
theorem dX8_read_34 : decode cX8_read 34 = .ok (.ifCond .lt 9, 3) := by decide +kernel
theorem dX8_read_37 : decode cX8_read 37 = .ok (.iload_n 3, 1) := by decide +kernel
theorem dX8_read_38 : decode cX8_read 38 = .ok (.iload 5, 2) := by decide +kernel
theorem dX8_read_40 : decode cX8_read 40 = .ok (.if_icmp .lt 12, 3) := by decide +kernel
theorem dX8_read_43 : decode cX8_read 43 = .ok (.aload_n 0, 1) := by decide +kernel
theorem dX8_read_44 : decode cX8_read 44 = .ok (.bipush 12, 2) := by decide +kernel
theorem dX8_read_46 : decode cX8_read 46 = .ok (.invokevirtual 25, 3) := by decide +kernel
theorem dX8_read_49 : decode cX8_read 49 = .ok (.goto 18, 3) := by decide +kernel
theorem dX8_read_52 : decode cX8_read 52 = .ok (.aload_n 0, 1) := by decide +kernel
theorem dX8_read_53 : decode cX8_read 53 = .ok (.aload_n 0, 1) := by decide +kernel
theorem dX8_read_54 : decode cX8_read 54 = .ok (.getfield 18, 3) := by decide +kernel
theorem dX8_read_57 : decode cX8_read 57 = .ok (.iload_n 1, 1) := by decide +kernel
theorem dX8_read_58 : decode cX8_read 58 = .ok (.bipush 26, 2) := by decide +kernel
theorem dX8_read_60 : decode cX8_read 60 = .ok (.imul, 1) := by decide +kernel
theorem dX8_read_61 : decode cX8_read 61 = .ok (.iload_n 3, 1) := by decide +kernel
theorem dX8_read_62 : decode cX8_read 62 = .ok (.iadd, 1) := by decide +kernel
theorem dX8_read_63 : decode cX8_read 63 = .ok (.iaload, 1) := by decide +kernel
theorem dX8_read_64 : decode cX8_read 64 = .ok (.invokevirtual 33, 3) := by decide +kernel
theorem dX8_read_67 : decode cX8_read 67 = .ok (.ireturn, 1) := by decide +kernel
theorem j_Trays_read_43  {h : xH} {r0 : Int} {h0 : xH}  (hf : f_Trays_read_43 h = some (r0, h0))  : J mX8_read true 0 0 43 xKn [(0, xR 77)] [] h (xEq (some r0) h0) := by
  unfold f_Trays_read_43 at hf
  refine J_aload_n 0 dX8_read_43 rfl rfl ?_
  refine J_bip dX8_read_44 (by decide) ?_
  obtain ⟨r1, h2, hq, hf⟩ := xc2_e hf
  refine J_cVi (Mc := mX8_refuse) [xI 12] dX8_read_46 (fc_Trays_refuse.fit ⟨xbl rfl, xbl rfl⟩) rfl ⟨Or.inl xq991, xq952, xq76⟩ kO77 (ci := 8) rfl rfl (xbl rfl) (xbl rfl) (jm_Trays_refuse  hq) ?_
  refine J_goto (tgt := 67) dX8_read_49 (by decide) ?_
  exact J_ireti dX8_read_67 rfl (xq_i hf)
theorem jm_Trays_read {l1 : Int} {l2 : Int} {l3 : Int} {h : xH} {r0 : Int} {h0 : xH}  (hf : f_Trays_read l1 l2 l3 h = some (r0, h0)) : J mX8_read true 0 0 0 xKn (xen 0 [xR 77, xI l1, xI l2, xI l3]) [] h (xEq (some r0) h0) := by
  unfold f_Trays_read at hf
  refine J_cong (ls2 := [(0, xR 77), (1, xI l1), (2, xI l2), (3, xI l3)]) (st2 := []) rfl rfl ?_
  refine J_aload_n 0 dX8_read_0 rfl rfl ?_
  refine J_iload_n 1 dX8_read_1 rfl rfl ?_
  refine J_iload_n 2 dX8_read_2 rfl rfl ?_
  obtain ⟨r1, hq, hf⟩ := xc1_e hf
  refine J_cVi (Mc := mX8_whyNot) [xI l1, xI l2] dX8_read_3 (fc_Trays_whyNot.fit ⟨xbl rfl, xbl rfl⟩) rfl ⟨Or.inl xq996, xq998, xq86⟩ kO77 (ci := 8) rfl rfl (xbl rfl) (xbl rfl) (jm_Trays_whyNot  hq) ?_
  refine J_istore (ls' := [(4, xI r1), (0, xR 77), (1, xI l1), (2, xI l2), (3, xI l3)]) dX8_read_6 (by decide) rfl rfl ?_
  refine J_iload 0 dX8_read_8 rfl ?_
  refine J_if_eq (tgt := 20) dX8_read_10 (by decide) (fun hc => ?_) (fun hc => ?_)
  · have hf := xip hc hf
    refine J_aload_n 1 dX8_read_20 rfl rfl ?_
    refine J_getRl (j := 1) xcf8 dX8_read_21 kO77 (Or.inl xq422) (by decide) (by decide) rf_77_1 ?_
    refine J_iload_n 2 dX8_read_24 rfl rfl ?_
    obtain ⟨hg, hf⟩ := xgd_e hf
    refine J_iald dX8_read_25 (xK_r1 kO79) kO79 hg nA79 ?_
    refine J_bip dX8_read_26 (by decide) ?_
    refine J_mmin dX8_read_28 ⟨xq1000, xq542, xq129, xq543⟩ (xbl rfl) (xbl rfl) ?_
    obtain ⟨x2, ex2, hf⟩ := xlet_e hf
    refine J_istore (ls' := [(5, xI x2), (4, xI r1), (0, xR 77), (1, xI l1), (2, xI l2), (3, xI l3)]) dX8_read_31 (by decide) ex2 rfl ?_
    refine J_iload_n 5 dX8_read_33 rfl rfl ?_
    refine J_if_lt (tgt := 43) dX8_read_34 (by decide) (fun hc => ?_) (fun hc => ?_)
    · have hf := xip hc hf
      refine J_sub [2] rfl ?_
      exact j_Trays_read_43  hf
    · have hf := xin' hc hf
      refine J_iload_n 5 dX8_read_37 rfl rfl ?_
      refine J_iload 0 dX8_read_38 rfl ?_
      refine J_ic_lt (tgt := 52) dX8_read_40 (by decide) (fun hc => ?_) (fun hc => ?_)
      · have hf := xip hc hf
        refine J_aload_n 2 dX8_read_52 rfl rfl ?_
        refine J_aload_n 2 dX8_read_53 rfl rfl ?_
        refine J_getRl (j := 2) xcf8 dX8_read_54 kO77 (Or.inl xq423) (by decide) (by decide) rf_77_2 ?_
        refine J_iload_n 3 dX8_read_57 rfl rfl ?_
        refine J_bip dX8_read_58 (by decide) ?_
        refine J_imul dX8_read_60 ?_
        refine J_iload_n 5 dX8_read_61 rfl rfl ?_
        refine J_iadd dX8_read_62 ?_
        obtain ⟨hg, hf⟩ := xgd_e hf
        refine J_iald dX8_read_63 (xK_r1 kO80) kO80 hg nA80 ?_
        obtain ⟨r3, h4, hq, hf⟩ := xc2_e hf
        refine J_cVi (Mc := mX8_done) [xI (h 80 (w32 ((w32 (l1 * 26)) + l3)))] dX8_read_64 (fc_Trays_done.fit ⟨xbl rfl, xbl rfl⟩) rfl ⟨Or.inl xq1001, xq981, xq83⟩ kO77 (ci := 8) rfl rfl (xbl rfl) (xbl rfl) (jm_Trays_done  hq) ?_
        exact J_ireti dX8_read_67 rfl (xq_i hf)
      · have hf := xin' hc hf
        refine J_sub [2] rfl ?_
        exact j_Trays_read_43  hf
  · have hf := xin' hc hf
    refine J_aload_n 1 dX8_read_13 rfl rfl ?_
    refine J_iload 0 dX8_read_14 rfl ?_
    obtain ⟨r5, h6, hq, hf⟩ := xc2_e hf
    refine J_cVi (Mc := mX8_refuse) [xI r1] dX8_read_16 (fc_Trays_refuse.fit ⟨xbl rfl, xbl rfl⟩) rfl ⟨Or.inl xq991, xq952, xq76⟩ kO77 (ci := 8) rfl rfl (xbl rfl) (xbl rfl) (jm_Trays_refuse  hq) ?_
    exact J_ireti dX8_read_19 rfl (xq_i hf)
theorem dX8_copy_0 : decode cX8_copy 0 = .ok (.aload_n 0, 1) := by decide +kernel
theorem dX8_copy_1 : decode cX8_copy 1 = .ok (.iload_n 1, 1) := by decide +kernel
theorem dX8_copy_2 : decode cX8_copy 2 = .ok (.iconst 1, 1) := by decide +kernel
theorem dX8_copy_3 : decode cX8_copy 3 = .ok (.invokevirtual 43, 3) := by decide +kernel
theorem dX8_copy_6 : decode cX8_copy 6 = .ok (.istore_n 3, 1) := by decide +kernel
theorem dX8_copy_7 : decode cX8_copy 7 = .ok (.iload_n 3, 1) := by decide +kernel
theorem dX8_copy_8 : decode cX8_copy 8 = .ok (.ifCond .eq 9, 3) := by decide +kernel
theorem dX8_copy_11 : decode cX8_copy 11 = .ok (.aload_n 0, 1) := by decide +kernel
theorem dX8_copy_12 : decode cX8_copy 12 = .ok (.iload_n 3, 1) := by decide +kernel
theorem dX8_copy_13 : decode cX8_copy 13 = .ok (.invokevirtual 25, 3) := by decide +kernel
theorem dX8_copy_16 : decode cX8_copy 16 = .ok (.ireturn, 1) := by decide +kernel
theorem dX8_copy_17 : decode cX8_copy 17 = .ok (.aload_n 0, 1) := by decide +kernel
theorem dX8_copy_18 : decode cX8_copy 18 = .ok (.getfield 15, 3) := by decide +kernel
theorem dX8_copy_21 : decode cX8_copy 21 = .ok (.iload_n 1, 1) := by decide +kernel
theorem dX8_copy_22 : decode cX8_copy 22 = .ok (.iaload, 1) := by decide +kernel
theorem dX8_copy_23 : decode cX8_copy 23 = .ok (.bipush 26, 2) := by decide +kernel
theorem dX8_copy_25 : decode cX8_copy 25 = .ok (.invokestatic 46, 3) := by decide +kernel
theorem dX8_copy_28 : decode cX8_copy 28 = .ok (.istore 4, 2) := by decide +kernel
theorem dX8_copy_30 : decode cX8_copy 30 = .ok (.iload_n 2, 1) := by decide +kernel
theorem dX8_copy_31 : decode cX8_copy 31 = .ok (.ifCond .lt 19, 3) := by decide +kernel
theorem dX8_copy_34 : decode cX8_copy 34 = .ok (.iconst 1, 1) := by decide +kernel
theorem dX8_copy_35 : decode cX8_copy 35 = .ok (.iload_n 2, 1) := by decide +kernel
theorem dX8_copy_36 : decode cX8_copy 36 = .ok (.iadd, 1) := by decide +kernel
theorem dX8_copy_37 : decode cX8_copy 37 = .ok (.iload 4, 2) := by decide +kernel
theorem dX8_copy_39 : decode cX8_copy 39 = .ok (.if_icmp .gt 11, 3) := by decide +kernel
theorem dX8_copy_42 : decode cX8_copy 42 = .ok (.iload_n 2, 1) := by decide +kernel
theorem dX8_copy_43 : decode cX8_copy 43 = .ok (.iload_n 2, 1) := by decide +kernel
theorem dX8_copy_44 : decode cX8_copy 44 = .ok (.iadd, 1) := by decide +kernel
theorem dX8_copy_45 : decode cX8_copy 45 = .ok (.bipush 6, 2) := by decide +kernel
theorem dX8_copy_47 : decode cX8_copy 47 = .ok (.if_icmp .le 10, 3) := by decide +kernel
theorem dX8_copy_50 : decode cX8_copy 50 = .ok (.aload_n 0, 1) := by decide +kernel
theorem dX8_copy_51 : decode cX8_copy 51 = .ok (.bipush 12, 2) := by decide +kernel
theorem dX8_copy_53 : decode cX8_copy 53 = .ok (.invokevirtual 25, 3) := by decide +kernel
theorem dX8_copy_56 : decode cX8_copy 56 = .ok (.ireturn, 1) := by decide +kernel
theorem dX8_copy_57 : decode cX8_copy 57 = .ok (.iconst 0, 1) := by decide +kernel
theorem dX8_copy_58 : decode cX8_copy 58 = .ok (.istore 5, 2) := by decide +kernel
theorem dX8_copy_60 : decode cX8_copy 60 = .ok (.iconst 1, 1) := by decide +kernel
theorem dX8_copy_61 : decode cX8_copy 61 = .ok (.istore 6, 2) := by decide +kernel
theorem dX8_copy_63 : decode cX8_copy 63 = .ok (.iload 6, 2) := by decide +kernel
theorem dX8_copy_65 : decode cX8_copy 65 = .ok (.iload_n 2, 1) := by decide +kernel
theorem dX8_copy_66 : decode cX8_copy 66 = .ok (.if_icmp .gt 29, 3) := by decide +kernel
theorem dX8_copy_69 : decode cX8_copy 69 = .ok (.iload 5, 2) := by decide +kernel
theorem dX8_copy_71 : decode cX8_copy 71 = .ok (.bipush 97, 2) := by decide +kernel
theorem dX8_copy_73 : decode cX8_copy 73 = .ok (.aload_n 0, 1) := by decide +kernel
theorem dX8_copy_74 : decode cX8_copy 74 = .ok (.getfield 18, 3) := by decide +kernel
theorem dX8_copy_77 : decode cX8_copy 77 = .ok (.iload_n 1, 1) := by decide +kernel
theorem dX8_copy_78 : decode cX8_copy 78 = .ok (.bipush 26, 2) := by decide +kernel
theorem dX8_copy_80 : decode cX8_copy 80 = .ok (.imul, 1) := by decide +kernel
theorem dX8_copy_81 : decode cX8_copy 81 = .ok (.iload 6, 2) := by decide +kernel
theorem dX8_copy_83 : decode cX8_copy 83 = .ok (.iadd, 1) := by decide +kernel
theorem dX8_copy_84 : decode cX8_copy 84 = .ok (.iaload, 1) := by decide +kernel
theorem dX8_copy_85 : decode cX8_copy 85 = .ok (.iadd, 1) := by decide +kernel
theorem dX8_copy_86 : decode cX8_copy 86 = .ok (.iadd, 1) := by decide +kernel
theorem dX8_copy_87 : decode cX8_copy 87 = .ok (.istore 5, 2) := by decide +kernel
theorem dX8_copy_89 : decode cX8_copy 89 = .ok (.iinc 6 1, 3) := by decide +kernel
theorem dX8_copy_92 : decode cX8_copy 92 = .ok (.goto (-29), 3) := by decide +kernel
theorem dX8_copy_95 : decode cX8_copy 95 = .ok (.aload_n 0, 1) := by decide +kernel
theorem dX8_copy_96 : decode cX8_copy 96 = .ok (.iload 5, 2) := by decide +kernel
theorem dX8_copy_98 : decode cX8_copy 98 = .ok (.invokevirtual 33, 3) := by decide +kernel
theorem dX8_copy_101 : decode cX8_copy 101 = .ok (.ireturn, 1) := by decide +kernel
theorem j_Trays_copy_95 {l5 : Int} {h : xH} {r0 : Int} {h0 : xH}  (hf : f_Trays_copy_95 l5 h = some (r0, h0))  : J mX8_copy true 0 0 95 xKn [(0, xR 77), (5, xI l5)] [] h (xEq (some r0) h0) := by
  unfold f_Trays_copy_95 at hf
  refine J_aload_n 0 dX8_copy_95 rfl rfl ?_
  refine J_iload 1 dX8_copy_96 rfl ?_
  obtain ⟨r1, h2, hq, hf⟩ := xc2_e hf
  refine J_cVi (Mc := mX8_done) [xI l5] dX8_copy_98 (fc_Trays_done.fit ⟨xbl rfl, xbl rfl⟩) rfl ⟨Or.inl xq1001, xq981, xq83⟩ kO77 (ci := 8) rfl rfl (xbl rfl) (xbl rfl) (jm_Trays_done  hq) ?_
  exact J_ireti dX8_copy_101 rfl (xq_i hf)
theorem j_Trays_copy_s63 {l1 : Int} {l2 : Int} {l5 : Int} {l6 : Int} {h : xH} {x : ((Int × Int) ⊕ Int)} {Q : xQ}  (hf : f_Trays_copy_s63 l1 l2 l5 l6 h = some x) (kb : ∀ (l5' : Int) (l6' : Int), x = Sum.inl (l5', l6') → J mX8_copy true 0 0 63 xKn [(0, xR 77), (1, xI l1), (2, xI l2), (5, xI l5'), (6, xI l6')] [] h Q) (ke : ∀ (l5' : Int), x = (Sum.inr l5') → J mX8_copy true 0 0 95 xKn [(0, xR 77), (5, xI l5')] [] h Q) : J mX8_copy true 0 0 63 xKn [(0, xR 77), (1, xI l1), (2, xI l2), (5, xI l5), (6, xI l6)] [] h Q := by
  unfold f_Trays_copy_s63 at hf
  refine J_iload 4 dX8_copy_63 rfl ?_
  refine J_iload_n 2 dX8_copy_65 rfl rfl ?_
  refine J_ic_gt (tgt := 95) dX8_copy_66 (by decide) (fun hc => ?_) (fun hc => ?_)
  · have hf := xip hc hf
    refine J_sub [0, 3] rfl ?_
    exact ke _ (xinl hf)
  · have hf := xin' hc hf
    refine J_iload 3 dX8_copy_69 rfl ?_
    refine J_bip dX8_copy_71 (by decide) ?_
    refine J_aload_n 0 dX8_copy_73 rfl rfl ?_
    refine J_getRl (j := 2) xcf8 dX8_copy_74 kO77 (Or.inl xq423) (by decide) (by decide) rf_77_2 ?_
    refine J_iload_n 1 dX8_copy_77 rfl rfl ?_
    refine J_bip dX8_copy_78 (by decide) ?_
    refine J_imul dX8_copy_80 ?_
    refine J_iload 4 dX8_copy_81 rfl ?_
    refine J_iadd dX8_copy_83 ?_
    obtain ⟨hg, hf⟩ := xgd_e hf
    refine J_iald dX8_copy_84 (xK_r1 kO80) kO80 hg nA80 ?_
    refine J_iadd dX8_copy_85 ?_
    refine J_iadd dX8_copy_86 ?_
    obtain ⟨x1, ex1, hf⟩ := xlet_e hf
    refine J_istore (ls' := [(5, xI x1), (0, xR 77), (1, xI l1), (2, xI l2), (6, xI l6)]) dX8_copy_87 (by decide) ex1 rfl ?_
    obtain ⟨x2, ex2, hf⟩ := xlet_e hf
    refine J_iinc (ls' := [(6, xI x2), (5, xI x1), (0, xR 77), (1, xI l1), (2, xI l2)]) 4 dX8_copy_89 rfl (by decide) ex2 rfl ?_
    refine J_goto (tgt := 63) dX8_copy_92 (by decide) ?_
    refine J_sub [2, 3, 4, 1, 0] rfl ?_
    exact kb _ _ (xinl hf)
theorem j_Trays_copy_63 {l1 : Int} {l2 : Int} {l5 : Int} {l6 : Int} {h : xH} {r0 : Int} {h0 : xH}  (hf : f_Trays_copy_63 l1 l2 l5 l6 h = some (r0, h0))  : J mX8_copy true 0 0 63 xKn [(0, xR 77), (1, xI l1), (2, xI l2), (5, xI l5), (6, xI l6)] [] h (xEq (some r0) h0) := by
  unfold f_Trays_copy_63 at hf
  obtain ⟨b0, hb0, hf⟩ := xc1_e hf
  refine xloop_ind (P := fun s : (Int × Int) => J mX8_copy true 0 0 63 xKn [(0, xR 77), (1, xI l1), (2, xI l2), (5, xI s.1), (6, xI s.2)] [] h (xEq (some r0) h0)) hb0 (fun s x1 hs ib ie => ?_)
  exact j_Trays_copy_s63  hs (fun _ _ e => ib _ e) (fun _ e => by have := ie _ e; subst this; exact j_Trays_copy_95  hf)
theorem j_Trays_copy_50  {h : xH} {r0 : Int} {h0 : xH}  (hf : f_Trays_copy_50 h = some (r0, h0))  : J mX8_copy true 0 0 50 xKn [(0, xR 77)] [] h (xEq (some r0) h0) := by
  unfold f_Trays_copy_50 at hf
  refine J_aload_n 0 dX8_copy_50 rfl rfl ?_
  refine J_bip dX8_copy_51 (by decide) ?_
  obtain ⟨r1, h2, hq, hf⟩ := xc2_e hf
  refine J_cVi (Mc := mX8_refuse) [xI 12] dX8_copy_53 (fc_Trays_refuse.fit ⟨xbl rfl, xbl rfl⟩) rfl ⟨Or.inl xq991, xq952, xq76⟩ kO77 (ci := 8) rfl rfl (xbl rfl) (xbl rfl) (jm_Trays_refuse  hq) ?_
  exact J_ireti dX8_copy_56 rfl (xq_i hf)
theorem jm_Trays_copy {l1 : Int} {l2 : Int} {h : xH} {r0 : Int} {h0 : xH}  (hf : f_Trays_copy l1 l2 h = some (r0, h0)) : J mX8_copy true 0 0 0 xKn (xen 0 [xR 77, xI l1, xI l2]) [] h (xEq (some r0) h0) := by
  unfold f_Trays_copy at hf
  refine J_cong (ls2 := [(0, xR 77), (1, xI l1), (2, xI l2)]) (st2 := []) rfl rfl ?_
  refine J_aload_n 0 dX8_copy_0 rfl rfl ?_
  refine J_iload_n 1 dX8_copy_1 rfl rfl ?_
  refine J_iconst dX8_copy_2 (by decide) ?_
  obtain ⟨r1, hq, hf⟩ := xc1_e hf
  refine J_cVi (Mc := mX8_whyNot) [xI l1, xI 1] dX8_copy_3 (fc_Trays_whyNot.fit ⟨xbl rfl, xbl rfl⟩) rfl ⟨Or.inl xq996, xq998, xq86⟩ kO77 (ci := 8) rfl rfl (xbl rfl) (xbl rfl) (jm_Trays_whyNot  hq) ?_
  refine J_istore_n (ls' := [(3, xI r1), (0, xR 77), (1, xI l1), (2, xI l2)]) dX8_copy_6 rfl (by decide) rfl rfl ?_
  refine J_iload_n 0 dX8_copy_7 rfl rfl ?_
  refine J_if_eq (tgt := 17) dX8_copy_8 (by decide) (fun hc => ?_) (fun hc => ?_)
  · have hf := xip hc hf
    refine J_aload_n 1 dX8_copy_17 rfl rfl ?_
    refine J_getRl (j := 1) xcf8 dX8_copy_18 kO77 (Or.inl xq422) (by decide) (by decide) rf_77_1 ?_
    refine J_iload_n 2 dX8_copy_21 rfl rfl ?_
    obtain ⟨hg, hf⟩ := xgd_e hf
    refine J_iald dX8_copy_22 (xK_r1 kO79) kO79 hg nA79 ?_
    refine J_bip dX8_copy_23 (by decide) ?_
    refine J_mmin dX8_copy_25 ⟨xq1000, xq542, xq129, xq543⟩ (xbl rfl) (xbl rfl) ?_
    obtain ⟨x2, ex2, hf⟩ := xlet_e hf
    refine J_istore (ls' := [(4, xI x2), (3, xI r1), (0, xR 77), (1, xI l1), (2, xI l2)]) dX8_copy_28 (by decide) ex2 rfl ?_
    refine J_iload_n 4 dX8_copy_30 rfl rfl ?_
    refine J_if_lt (tgt := 50) dX8_copy_31 (by decide) (fun hc => ?_) (fun hc => ?_)
    · have hf := xip hc hf
      refine J_sub [2] rfl ?_
      exact j_Trays_copy_50  hf
    · have hf := xin' hc hf
      refine J_iconst dX8_copy_34 (by decide) ?_
      refine J_iload_n 4 dX8_copy_35 rfl rfl ?_
      refine J_iadd dX8_copy_36 ?_
      refine J_iload 0 dX8_copy_37 rfl ?_
      refine J_ic_gt (tgt := 50) dX8_copy_39 (by decide) (fun hc => ?_) (fun hc => ?_)
      · have hf := xip hc hf
        refine J_sub [2] rfl ?_
        exact j_Trays_copy_50  hf
      · have hf := xin' hc hf
        refine J_iload_n 4 dX8_copy_42 rfl rfl ?_
        refine J_iload_n 4 dX8_copy_43 rfl rfl ?_
        refine J_iadd dX8_copy_44 ?_
        refine J_bip dX8_copy_45 (by decide) ?_
        refine J_ic_le (tgt := 57) dX8_copy_47 (by decide) (fun hc => ?_) (fun hc => ?_)
        · have hf := xip hc hf
          refine J_sub [2] rfl ?_
          exact j_Trays_copy_50  hf
        · have hf := xin' hc hf
          refine J_iconst dX8_copy_57 (by decide) ?_
          refine J_istore (ls' := [(5, xI 0), (4, xI x2), (3, xI r1), (0, xR 77), (1, xI l1), (2, xI l2)]) dX8_copy_58 (by decide) rfl rfl ?_
          refine J_iconst dX8_copy_60 (by decide) ?_
          refine J_istore (ls' := [(6, xI 1), (5, xI 0), (4, xI x2), (3, xI r1), (0, xR 77), (1, xI l1), (2, xI l2)]) dX8_copy_61 (by decide) rfl rfl ?_
          refine J_sub [4, 5, 6, 1, 0] rfl ?_
          exact j_Trays_copy_63  hf
  · have hf := xin' hc hf
    refine J_aload_n 1 dX8_copy_11 rfl rfl ?_
    refine J_iload_n 0 dX8_copy_12 rfl rfl ?_
    obtain ⟨r3, h4, hq, hf⟩ := xc2_e hf
    refine J_cVi (Mc := mX8_refuse) [xI r1] dX8_copy_13 (fc_Trays_refuse.fit ⟨xbl rfl, xbl rfl⟩) rfl ⟨Or.inl xq991, xq952, xq76⟩ kO77 (ci := 8) rfl rfl (xbl rfl) (xbl rfl) (jm_Trays_refuse  hq) ?_
    exact J_ireti dX8_copy_16 rfl (xq_i hf)
theorem dX8_layAmongStates_0 : decode cX8_layAmongStates 0 = .ok (.aload_n 0, 1) := by decide +kernel
theorem dX8_layAmongStates_1 : decode cX8_layAmongStates 1 = .ok (.iload_n 1, 1) := by decide +kernel
theorem dX8_layAmongStates_2 : decode cX8_layAmongStates 2 = .ok (.iconst 2, 1) := by decide +kernel
theorem dX8_layAmongStates_3 : decode cX8_layAmongStates 3 = .ok (.invokevirtual 43, 3) := by decide +kernel
theorem dX8_layAmongStates_6 : decode cX8_layAmongStates 6 = .ok (.istore_n 2, 1) := by decide +kernel
theorem dX8_layAmongStates_7 : decode cX8_layAmongStates 7 = .ok (.iload_n 2, 1) := by decide +kernel
theorem dX8_layAmongStates_8 : decode cX8_layAmongStates 8 = .ok (.bipush 10, 2) := by decide +kernel
theorem dX8_layAmongStates_10 : decode cX8_layAmongStates 10 = .ok (.if_icmp .ne 9, 3) := by decide +kernel
theorem dX8_layAmongStates_13 : decode cX8_layAmongStates 13 = .ok (.aload_n 0, 1) := by decide +kernel
theorem dX8_layAmongStates_14 : decode cX8_layAmongStates 14 = .ok (.iconst 0, 1) := by decide +kernel
theorem dX8_layAmongStates_15 : decode cX8_layAmongStates 15 = .ok (.invokevirtual 33, 3) := by decide +kernel
theorem dX8_layAmongStates_18 : decode cX8_layAmongStates 18 = .ok (.ireturn, 1) := by decide +kernel
theorem dX8_layAmongStates_19 : decode cX8_layAmongStates 19 = .ok (.iload_n 2, 1) := by decide +kernel
theorem dX8_layAmongStates_20 : decode cX8_layAmongStates 20 = .ok (.ifCond .ne 16, 3) := by decide +kernel
theorem dX8_layAmongStates_23 : decode cX8_layAmongStates 23 = .ok (.aload_n 0, 1) := by decide +kernel
theorem dX8_layAmongStates_24 : decode cX8_layAmongStates 24 = .ok (.aload_n 0, 1) := by decide +kernel
theorem dX8_layAmongStates_25 : decode cX8_layAmongStates 25 = .ok (.getfield 15, 3) := by decide +kernel
theorem dX8_layAmongStates_28 : decode cX8_layAmongStates 28 = .ok (.iload_n 1, 1) := by decide +kernel
theorem dX8_layAmongStates_29 : decode cX8_layAmongStates 29 = .ok (.iaload, 1) := by decide +kernel
theorem dX8_layAmongStates_30 : decode cX8_layAmongStates 30 = .ok (.invokevirtual 33, 3) := by decide +kernel
theorem dX8_layAmongStates_33 : decode cX8_layAmongStates 33 = .ok (.goto 9, 3) := by decide +kernel
theorem dX8_layAmongStates_36 : decode cX8_layAmongStates 36 = .ok (.aload_n 0, 1) := by decide +kernel
theorem dX8_layAmongStates_37 : decode cX8_layAmongStates 37 = .ok (.bipush 14, 2) := by decide +kernel
theorem dX8_layAmongStates_39 : decode cX8_layAmongStates 39 = .ok (.invokevirtual 25, 3) := by decide +kernel
theorem dX8_layAmongStates_42 : decode cX8_layAmongStates 42 = .ok (.ireturn, 1) := by decide +kernel
theorem jm_Trays_layAmongStates {l1 : Int} {h : xH} {r0 : Int} {h0 : xH}  (hf : f_Trays_layAmongStates l1 h = some (r0, h0)) : J mX8_layAmongStates true 0 0 0 xKn (xen 0 [xR 77, xI l1]) [] h (xEq (some r0) h0) := by
  unfold f_Trays_layAmongStates at hf
  refine J_cong (ls2 := [(0, xR 77), (1, xI l1)]) (st2 := []) rfl rfl ?_
  refine J_aload_n 0 dX8_layAmongStates_0 rfl rfl ?_
  refine J_iload_n 1 dX8_layAmongStates_1 rfl rfl ?_
  refine J_iconst dX8_layAmongStates_2 (by decide) ?_
  obtain ⟨r1, hq, hf⟩ := xc1_e hf
  refine J_cVi (Mc := mX8_whyNot) [xI l1, xI 2] dX8_layAmongStates_3 (fc_Trays_whyNot.fit ⟨xbl rfl, xbl rfl⟩) rfl ⟨Or.inl xq996, xq998, xq86⟩ kO77 (ci := 8) rfl rfl (xbl rfl) (xbl rfl) (jm_Trays_whyNot  hq) ?_
  refine J_istore_n (ls' := [(2, xI r1), (0, xR 77), (1, xI l1)]) dX8_layAmongStates_6 rfl (by decide) rfl rfl ?_
  refine J_iload_n 0 dX8_layAmongStates_7 rfl rfl ?_
  refine J_bip dX8_layAmongStates_8 (by decide) ?_
  refine J_ic_ne (tgt := 19) dX8_layAmongStates_10 (by decide) (fun hc => ?_) (fun hc => ?_)
  · have hf := xip hc hf
    refine J_aload_n 1 dX8_layAmongStates_13 rfl rfl ?_
    refine J_iconst dX8_layAmongStates_14 (by decide) ?_
    obtain ⟨r2, h3, hq, hf⟩ := xc2_e hf
    refine J_cVi (Mc := mX8_done) [xI 0] dX8_layAmongStates_15 (fc_Trays_done.fit ⟨xbl rfl, xbl rfl⟩) rfl ⟨Or.inl xq1001, xq981, xq83⟩ kO77 (ci := 8) rfl rfl (xbl rfl) (xbl rfl) (jm_Trays_done  hq) ?_
    exact J_ireti dX8_layAmongStates_18 rfl (xq_i hf)
  · have hf := xin' hc hf
    refine J_iload_n 0 dX8_layAmongStates_19 rfl rfl ?_
    refine J_if_ne (tgt := 36) dX8_layAmongStates_20 (by decide) (fun hc => ?_) (fun hc => ?_)
    · have hf := xip hc hf
      refine J_aload_n 1 dX8_layAmongStates_23 rfl rfl ?_
      refine J_aload_n 1 dX8_layAmongStates_24 rfl rfl ?_
      refine J_getRl (j := 1) xcf8 dX8_layAmongStates_25 kO77 (Or.inl xq422) (by decide) (by decide) rf_77_1 ?_
      refine J_iload_n 2 dX8_layAmongStates_28 rfl rfl ?_
      obtain ⟨hg, hf⟩ := xgd_e hf
      refine J_iald dX8_layAmongStates_29 (xK_r1 kO79) kO79 hg nA79 ?_
      obtain ⟨r4, h5, hq, hf⟩ := xc2_e hf
      refine J_cVi (Mc := mX8_done) [xI (h 79 l1)] dX8_layAmongStates_30 (fc_Trays_done.fit ⟨xbl rfl, xbl rfl⟩) rfl ⟨Or.inl xq1001, xq981, xq83⟩ kO77 (ci := 8) rfl rfl (xbl rfl) (xbl rfl) (jm_Trays_done  hq) ?_
      refine J_goto (tgt := 42) dX8_layAmongStates_33 (by decide) ?_
      exact J_ireti dX8_layAmongStates_42 rfl (xq_i hf)
    · have hf := xin' hc hf
      refine J_aload_n 1 dX8_layAmongStates_36 rfl rfl ?_
      refine J_bip dX8_layAmongStates_37 (by decide) ?_
      obtain ⟨r6, h7, hq, hf⟩ := xc2_e hf
      refine J_cVi (Mc := mX8_refuse) [xI 14] dX8_layAmongStates_39 (fc_Trays_refuse.fit ⟨xbl rfl, xbl rfl⟩) rfl ⟨Or.inl xq991, xq952, xq76⟩ kO77 (ci := 8) rfl rfl (xbl rfl) (xbl rfl) (jm_Trays_refuse  hq) ?_
      exact J_ireti dX8_layAmongStates_42 rfl (xq_i hf)
