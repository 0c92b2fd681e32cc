/-! the machine follows the functions -/
theorem dX11_noteWay_0 : decode cX11_noteWay 0 = .ok (.iconst 1, 1) := by decide +kernel
theorem dX11_noteWay_1 : decode cX11_noteWay 1 = .ok (.istore_n 2, 1) := by decide +kernel
theorem dX11_noteWay_2 : decode cX11_noteWay 2 = .ok (.iconst 0, 1) := by decide +kernel
theorem dX11_noteWay_3 : decode cX11_noteWay 3 = .ok (.istore_n 3, 1) := by decide +kernel
theorem dX11_noteWay_4 : decode cX11_noteWay 4 = .ok (.iload_n 3, 1) := by decide +kernel
theorem dX11_noteWay_5 : decode cX11_noteWay 5 = .ok (.bipush 24, 2) := by decide +kernel
theorem dX11_noteWay_7 : decode cX11_noteWay 7 = .ok (.if_icmp .ge 96, 3) := by decide +kernel
theorem dX11_noteWay_10 : decode cX11_noteWay 10 = .ok (.aload_n 0, 1) := by decide +kernel
theorem dX11_noteWay_11 : decode cX11_noteWay 11 = .ok (.getfield 58, 3) := by decide +kernel
theorem dX11_noteWay_14 : decode cX11_noteWay 14 = .ok (.iload_n 3, 1) := by decide +kernel
theorem dX11_noteWay_15 : decode cX11_noteWay 15 = .ok (.invokevirtual 307, 3) := by decide +kernel
theorem dX11_noteWay_18 : decode cX11_noteWay 18 = .ok (.istore 4, 2) := by decide +kernel
theorem dX11_noteWay_20 : decode cX11_noteWay 20 = .ok (.iload 4, 2) := by decide +kernel
theorem dX11_noteWay_22 : decode cX11_noteWay 22 = .ok (.ifCond .lt 24, 3) := by decide +kernel
theorem dX11_noteWay_25 : decode cX11_noteWay 25 = .ok (.iload 4, 2) := by decide +kernel
theorem dX11_noteWay_27 : decode cX11_noteWay 27 = .ok (.aload_n 0, 1) := by decide +kernel
theorem dX11_noteWay_28 : decode cX11_noteWay 28 = .ok (.getfield 71, 3) := by decide +kernel
theorem dX11_noteWay_31 : decode cX11_noteWay 31 = .ok (.arraylength, 1) := by decide +kernel
theorem dX11_noteWay_32 : decode cX11_noteWay 32 = .ok (.if_icmp .ge 14, 3) := by decide +kernel
theorem dX11_noteWay_35 : decode cX11_noteWay 35 = .ok (.aload_n 0, 1) := by decide +kernel
theorem dX11_noteWay_36 : decode cX11_noteWay 36 = .ok (.getfield 71, 3) := by decide +kernel
theorem dX11_noteWay_39 : decode cX11_noteWay 39 = .ok (.iload 4, 2) := by decide +kernel
theorem dX11_noteWay_41 : decode cX11_noteWay 41 = .ok (.dup2, 1) := by decide +kernel
theorem dX11_noteWay_42 : decode cX11_noteWay 42 = .ok (.iaload, 1) := by decide +kernel
theorem dX11_noteWay_43 : decode cX11_noteWay 43 = .ok (.iconst 1, 1) := by decide +kernel
theorem dX11_noteWay_44 : decode cX11_noteWay 44 = .ok (.iadd, 1) := by decide +kernel
theorem dX11_noteWay_45 : decode cX11_noteWay 45 = .ok (.iastore, 1) := by decide +kernel
theorem dX11_noteWay_46 : decode cX11_noteWay 46 = .ok (.iload_n 1, 1) := by decide +kernel
theorem dX11_noteWay_47 : decode cX11_noteWay 47 = .ok (.iload_n 3, 1) := by decide +kernel
theorem dX11_noteWay_48 : decode cX11_noteWay 48 = .ok (.iadd, 1) := by decide +kernel
theorem dX11_noteWay_49 : decode cX11_noteWay 49 = .ok (.istore 5, 2) := by decide +kernel
theorem dX11_noteWay_51 : decode cX11_noteWay 51 = .ok (.iload 5, 2) := by decide +kernel
theorem dX11_noteWay_53 : decode cX11_noteWay 53 = .ok (.ifCond .lt 44, 3) := by decide +kernel
theorem dX11_noteWay_56 : decode cX11_noteWay 56 = .ok (.iload 5, 2) := by decide +kernel
theorem dX11_noteWay_58 : decode cX11_noteWay 58 = .ok (.aload_n 0, 1) := by decide +kernel
theorem dX11_noteWay_59 : decode cX11_noteWay 59 = .ok (.getfield 67, 3) := by decide +kernel
theorem dX11_noteWay_62 : decode cX11_noteWay 62 = .ok (.arraylength, 1) := by decide +kernel
theorem dX11_noteWay_63 : decode cX11_noteWay 63 = .ok (.if_icmp .ge 34, 3) := by decide +kernel
theorem dX11_noteWay_66 : decode cX11_noteWay 66 = .ok (.iload_n 2, 1) := by decide +kernel
theorem dX11_noteWay_67 : decode cX11_noteWay 67 = .ok (.ifCond .eq 19, 3) := by decide +kernel
theorem dX11_noteWay_70 : decode cX11_noteWay 70 = .ok (.aload_n 0, 1) := by decide +kernel
theorem dX11_noteWay_71 : decode cX11_noteWay 71 = .ok (.getfield 67, 3) := by decide +kernel
theorem dX11_noteWay_74 : decode cX11_noteWay 74 = .ok (.iload 5, 2) := by decide +kernel
theorem dX11_noteWay_76 : decode cX11_noteWay 76 = .ok (.iaload, 1) := by decide +kernel
theorem dX11_noteWay_77 : decode cX11_noteWay 77 = .ok (.iload 4, 2) := by decide +kernel
theorem dX11_noteWay_79 : decode cX11_noteWay 79 = .ok (.if_icmp .ne 7, 3) := by decide +kernel
theorem dX11_noteWay_82 : decode cX11_noteWay 82 = .ok (.iconst 1, 1) := by decide +kernel
theorem dX11_noteWay_83 : decode cX11_noteWay 83 = .ok (.goto 4, 3) := by decide +kernel
theorem dX11_noteWay_86 : decode cX11_noteWay 86 = .ok (.iconst 0, 1) := by decide +kernel
theorem dX11_noteWay_87 : decode cX11_noteWay 87 = .ok (.istore_n 2, 1) := by decide +kernel
theorem dX11_noteWay_88 : decode cX11_noteWay 88 = .ok (.aload_n 0, 1) := by decide +kernel
theorem dX11_noteWay_89 : decode cX11_noteWay 89 = .ok (.getfield 67, 3) := by decide +kernel
theorem dX11_noteWay_92 : decode cX11_noteWay 92 = .ok (.iload 5, 2) := by decide +kernel
theorem dX11_noteWay_94 : decode cX11_noteWay 94 = .ok (.iload 4, 2) := by decide +kernel
theorem dX11_noteWay_96 : decode cX11_noteWay 96 = .ok (.iastore, 1) := by decide +kernel
theorem dX11_noteWay_97 : decode cX11_noteWay 97 = .ok (.iinc 3 1, 3) := by decide +kernel
theorem dX11_noteWay_100 : decode cX11_noteWay 100 = .ok (.goto (-96), 3) := by decide +kernel
theorem dX11_noteWay_103 : decode cX11_noteWay 103 = .ok (.iload_n 2, 1) := by decide +kernel
theorem dX11_noteWay_104 : decode cX11_noteWay 104 = .ok (.ireturn, 1) := by decide +kernel
theorem j_WM_noteWay_103 {l2 : Int} {h : xH} {r0 : Int} {h0 : xH}  (hf : f_WM_noteWay_103 l2 h = some (r0, h0))  : J mX11_noteWay true 0 0 103 xKn [(2, xI l2)] [] h (xEq (some r0) h0) := by
  unfold f_WM_noteWay_103 at hf
  refine J_iload_n 0 dX11_noteWay_103 rfl rfl ?_
  obtain ⟨hz, hf⟩ := xgb_e hf
  exact J_iretz dX11_noteWay_104 rfl hz (xq_i hf)
theorem j_WM_noteWay_97 {l1 : Int} {l2 : Int} {l3 : Int} {h : xH} {x : ((Int × Int × xH) ⊕ (Int × xH))} {Q : xQ}  (hf : f_WM_noteWay_97 l1 l2 l3 h = some x) (kb : ∀ (l2' : Int) (l3' : Int) (h' : xH), x = Sum.inl (l2', l3', h') → J mX11_noteWay true 0 0 4 xKn [(0, xR 1), (1, xI l1), (2, xI l2'), (3, xI l3')] [] h' Q) (ke : ∀ (l2' : Int) (h' : xH), x = (Sum.inr (l2', h')) → J mX11_noteWay true 0 0 103 xKn [(2, xI l2')] [] h' Q) : J mX11_noteWay true 0 0 97 xKn [(0, xR 1), (1, xI l1), (2, xI l2), (3, xI l3)] [] h Q := by
  unfold f_WM_noteWay_97 at hf
  obtain ⟨x1, ex1, hf⟩ := xlet_e hf
  refine J_iinc (ls' := [(3, xI x1), (0, xR 1), (1, xI l1), (2, xI l2)]) 3 dX11_noteWay_97 rfl (by decide) ex1 rfl ?_
  refine J_goto (tgt := 4) dX11_noteWay_100 (by decide) ?_
  refine J_sub [1, 2, 3, 0] rfl ?_
  exact kb _ _ _ (xinl hf)
theorem j_WM_noteWay_87 {l1 : Int} {l3 : Int} {l4 : Int} {l5 : Int} {s0 : Int} {h : xH} {x : ((Int × Int × xH) ⊕ (Int × xH))} {Q : xQ}  (hf : f_WM_noteWay_87 l1 l3 l4 l5 s0 h = some x) (kb : ∀ (l2' : Int) (l3' : Int) (h' : xH), x = Sum.inl (l2', l3', h') → J mX11_noteWay true 0 0 4 xKn [(0, xR 1), (1, xI l1), (2, xI l2'), (3, xI l3')] [] h' Q) (ke : ∀ (l2' : Int) (h' : xH), x = (Sum.inr (l2', h')) → J mX11_noteWay true 0 0 103 xKn [(2, xI l2')] [] h' Q) : J mX11_noteWay true 0 0 87 xKn [(0, xR 1), (1, xI l1), (3, xI l3), (4, xI l4), (5, xI l5)] [xI s0] h Q := by
  unfold f_WM_noteWay_87 at hf
  refine J_istore_n (ls' := [(2, xI s0), (0, xR 1), (1, xI l1), (3, xI l3), (4, xI l4), (5, xI l5)]) dX11_noteWay_87 rfl (by decide) rfl rfl ?_
  refine J_aload_n 1 dX11_noteWay_88 rfl rfl ?_
  refine J_getRl (j := 10) xcf11 dX11_noteWay_89 kO1 (Or.inl xq445) (by decide) (by decide) rf_1_10 ?_
  refine J_iload 5 dX11_noteWay_92 rfl ?_
  refine J_iload 4 dX11_noteWay_94 rfl ?_
  obtain ⟨hg, hf⟩ := xgd_e hf
  obtain ⟨h1, eh1, hf⟩ := xlet_e hf
  refine J_iast dX11_noteWay_96 (xK_r1 kO46) kO46 hg nA46 eh1 ?_
  refine J_sub [1, 2, 0, 3] rfl ?_
  exact j_WM_noteWay_97  hf kb ke
theorem j_WM_noteWay_86 {l1 : Int} {l3 : Int} {l4 : Int} {l5 : Int} {h : xH} {x : ((Int × Int × xH) ⊕ (Int × xH))} {Q : xQ}  (hf : f_WM_noteWay_86 l1 l3 l4 l5 h = some x) (kb : ∀ (l2' : Int) (l3' : Int) (h' : xH), x = Sum.inl (l2', l3', h') → J mX11_noteWay true 0 0 4 xKn [(0, xR 1), (1, xI l1), (2, xI l2'), (3, xI l3')] [] h' Q) (ke : ∀ (l2' : Int) (h' : xH), x = (Sum.inr (l2', h')) → J mX11_noteWay true 0 0 103 xKn [(2, xI l2')] [] h' Q) : J mX11_noteWay true 0 0 86 xKn [(0, xR 1), (1, xI l1), (3, xI l3), (4, xI l4), (5, xI l5)] [] h Q := by
  unfold f_WM_noteWay_86 at hf
  refine J_iconst dX11_noteWay_86 (by decide) ?_
  exact j_WM_noteWay_87  hf kb ke
theorem j_WM_noteWay_46 {l1 : Int} {l2 : Int} {l3 : Int} {l4 : Int} {h : xH} {x : ((Int × Int × xH) ⊕ (Int × xH))} {Q : xQ}  (hf : f_WM_noteWay_46 l1 l2 l3 l4 h = some x) (kb : ∀ (l2' : Int) (l3' : Int) (h' : xH), x = Sum.inl (l2', l3', h') → J mX11_noteWay true 0 0 4 xKn [(0, xR 1), (1, xI l1), (2, xI l2'), (3, xI l3')] [] h' Q) (ke : ∀ (l2' : Int) (h' : xH), x = (Sum.inr (l2', h')) → J mX11_noteWay true 0 0 103 xKn [(2, xI l2')] [] h' Q) : J mX11_noteWay true 0 0 46 xKn [(0, xR 1), (1, xI l1), (2, xI l2), (3, xI l3), (4, xI l4)] [] h Q := by
  unfold f_WM_noteWay_46 at hf
  refine J_iload_n 1 dX11_noteWay_46 rfl rfl ?_
  refine J_iload_n 3 dX11_noteWay_47 rfl rfl ?_
  refine J_iadd dX11_noteWay_48 ?_
  obtain ⟨x1, ex1, hf⟩ := xlet_e hf
  refine J_istore (ls' := [(5, xI x1), (0, xR 1), (1, xI l1), (2, xI l2), (3, xI l3), (4, xI l4)]) dX11_noteWay_49 (by decide) ex1 rfl ?_
  refine J_iload 0 dX11_noteWay_51 rfl ?_
  refine J_if_lt (tgt := 97) dX11_noteWay_53 (by decide) (fun hc => ?_) (fun hc => ?_)
  · have hf := xip hc hf
    refine J_sub [1, 2, 3, 4] rfl ?_
    exact j_WM_noteWay_97  hf kb ke
  · have hf := xin' hc hf
    refine J_iload 0 dX11_noteWay_56 rfl ?_
    refine J_aload_n 1 dX11_noteWay_58 rfl rfl ?_
    refine J_getRl (j := 10) xcf11 dX11_noteWay_59 kO1 (Or.inl xq445) (by decide) (by decide) rf_1_10 ?_
    refine J_alen dX11_noteWay_62 (xK_r1 kO46) (Or.inl kO46) (by decide) nA46 ?_
    refine J_ic_ge (tgt := 97) dX11_noteWay_63 (by decide) (fun hc => ?_) (fun hc => ?_)
    · have hf := xip hc hf
      refine J_iload_n 3 dX11_noteWay_66 rfl rfl ?_
      refine J_if_eq (tgt := 86) dX11_noteWay_67 (by decide) (fun hc => ?_) (fun hc => ?_)
      · have hf := xip hc hf
        refine J_sub [1, 2, 4, 5, 0] rfl ?_
        exact j_WM_noteWay_86  hf kb ke
      · have hf := xin' hc hf
        refine J_aload_n 1 dX11_noteWay_70 rfl rfl ?_
        refine J_getRl (j := 10) xcf11 dX11_noteWay_71 kO1 (Or.inl xq445) (by decide) (by decide) rf_1_10 ?_
        refine J_iload 0 dX11_noteWay_74 rfl ?_
        obtain ⟨hg, hf⟩ := xgd_e hf
        refine J_iald dX11_noteWay_76 (xK_r1 kO46) kO46 hg nA46 ?_
        refine J_iload 5 dX11_noteWay_77 rfl ?_
        refine J_ic_ne (tgt := 86) dX11_noteWay_79 (by decide) (fun hc => ?_) (fun hc => ?_)
        · have hf := xip hc hf
          refine J_iconst dX11_noteWay_82 (by decide) ?_
          refine J_goto (tgt := 87) dX11_noteWay_83 (by decide) ?_
          refine J_sub [1, 2, 4, 5, 0] rfl ?_
          exact j_WM_noteWay_87  hf kb ke
        · have hf := xin' hc hf
          refine J_sub [1, 2, 4, 5, 0] rfl ?_
          exact j_WM_noteWay_86  hf kb ke
    · have hf := xin' hc hf
      refine J_sub [1, 2, 3, 4] rfl ?_
      exact j_WM_noteWay_97  hf kb ke
theorem j_WM_noteWay_s4 {l1 : Int} {l2 : Int} {l3 : Int} {h : xH} {x : ((Int × Int × xH) ⊕ (Int × xH))} {Q : xQ}  (hf : f_WM_noteWay_s4 l1 l2 l3 h = some x) (kb : ∀ (l2' : Int) (l3' : Int) (h' : xH), x = Sum.inl (l2', l3', h') → J mX11_noteWay true 0 0 4 xKn [(0, xR 1), (1, xI l1), (2, xI l2'), (3, xI l3')] [] h' Q) (ke : ∀ (l2' : Int) (h' : xH), x = (Sum.inr (l2', h')) → J mX11_noteWay true 0 0 103 xKn [(2, xI l2')] [] h' Q) : J mX11_noteWay true 0 0 4 xKn [(0, xR 1), (1, xI l1), (2, xI l2), (3, xI l3)] [] h Q := by
  unfold f_WM_noteWay_s4 at hf
  refine J_iload_n 3 dX11_noteWay_4 rfl rfl ?_
  refine J_bip dX11_noteWay_5 (by decide) ?_
  refine J_ic_ge (tgt := 103) dX11_noteWay_7 (by decide) (fun hc => ?_) (fun hc => ?_)
  · have hf := xip hc hf
    refine J_aload_n 0 dX11_noteWay_10 rfl rfl ?_
    refine J_getRl (j := 7) xcf11 dX11_noteWay_11 kO1 (Or.inl xq442) (by decide) (by decide) rf_1_7 ?_
    refine J_iload_n 3 dX11_noteWay_14 rfl rfl ?_
    obtain ⟨r1, hq, hf⟩ := xc1_e hf
    refine J_cVi (Mc := mX10_codeAt) [xI l3] dX11_noteWay_15 (fc_Way_codeAt.fit ⟨xbl rfl, xbl rfl⟩) rfl ⟨Or.inr ⟨_, xq859⟩, xq711, xq37⟩ kO34 (ci := 10) rfl rfl (xbl rfl) (xbl rfl) (jm_Way_codeAt kO34 hq) ?_
    refine J_istore (ls' := [(4, xI r1), (0, xR 1), (1, xI l1), (2, xI l2), (3, xI l3)]) dX11_noteWay_18 (by decide) rfl rfl ?_
    refine J_iload 0 dX11_noteWay_20 rfl ?_
    refine J_if_lt (tgt := 46) dX11_noteWay_22 (by decide) (fun hc => ?_) (fun hc => ?_)
    · have hf := xip hc hf
      refine J_sub [1, 2, 3, 4, 0] rfl ?_
      exact j_WM_noteWay_46  hf kb ke
    · have hf := xin' hc hf
      refine J_iload 0 dX11_noteWay_25 rfl ?_
      refine J_aload_n 1 dX11_noteWay_27 rfl rfl ?_
      refine J_getRl (j := 11) xcf11 dX11_noteWay_28 kO1 (Or.inl xq446) (by decide) (by decide) rf_1_11 ?_
      refine J_alen dX11_noteWay_31 (xK_r1 kO47) (Or.inl kO47) (by decide) nA47 ?_
      refine J_ic_ge (tgt := 46) dX11_noteWay_32 (by decide) (fun hc => ?_) (fun hc => ?_)
      · have hf := xip hc hf
        refine J_aload_n 1 dX11_noteWay_35 rfl rfl ?_
        refine J_getRl (j := 11) xcf11 dX11_noteWay_36 kO1 (Or.inl xq446) (by decide) (by decide) rf_1_11 ?_
        refine J_iload 0 dX11_noteWay_39 rfl ?_
        refine J_dup2 dX11_noteWay_41 rfl rfl ?_
        obtain ⟨hg, hf⟩ := xgd_e hf
        refine J_iald dX11_noteWay_42 (xK_r1 kO47) kO47 hg nA47 ?_
        refine J_iconst dX11_noteWay_43 (by decide) ?_
        refine J_iadd dX11_noteWay_44 ?_
        obtain ⟨hg, hf⟩ := xgd_e hf
        obtain ⟨h2, eh2, hf⟩ := xlet_e hf
        refine J_iast dX11_noteWay_45 (xK_r1 kO47) kO47 hg nA47 eh2 ?_
        refine J_sub [1, 2, 3, 4, 0] rfl ?_
        exact j_WM_noteWay_46  hf kb ke
      · have hf := xin' hc hf
        refine J_sub [1, 2, 3, 4, 0] rfl ?_
        exact j_WM_noteWay_46  hf kb ke
  · have hf := xin' hc hf
    refine J_sub [2] rfl ?_
    exact ke _ _ (xinl hf)
theorem j_WM_noteWay_4 {l1 : Int} {l2 : Int} {l3 : Int} {h : xH} {r0 : Int} {h0 : xH}  (hf : f_WM_noteWay_4 l1 l2 l3 h = some (r0, h0))  : J mX11_noteWay true 0 0 4 xKn [(0, xR 1), (1, xI l1), (2, xI l2), (3, xI l3)] [] h (xEq (some r0) h0) := by
  unfold f_WM_noteWay_4 at hf
  obtain ⟨b0, hb0, hf⟩ := xc1_e hf
  refine xloop_ind (P := fun s : (Int × Int × xH) => J mX11_noteWay true 0 0 4 xKn [(0, xR 1), (1, xI l1), (2, xI s.1), (3, xI s.2.1)] [] s.2.2 (xEq (some r0) h0)) hb0 (fun s x1 hs ib ie => ?_)
  exact j_WM_noteWay_s4  hs (fun _ _ _ e => ib _ e) (fun _ _ e => by have := ie _ e; subst this; exact j_WM_noteWay_103  hf)
theorem jm_WM_noteWay {l1 : Int} {h : xH} {r0 : Int} {h0 : xH}  (hf : f_WM_noteWay l1 h = some (r0, h0)) : J mX11_noteWay true 0 0 0 xKn (xen 0 [xR 1, xI l1]) [] h (xEq (some r0) h0) := by
  unfold f_WM_noteWay at hf
  refine J_cong (ls2 := [(0, xR 1), (1, xI l1)]) (st2 := []) rfl rfl ?_
  refine J_iconst dX11_noteWay_0 (by decide) ?_
  refine J_istore_n (ls' := [(2, xI 1), (0, xR 1), (1, xI l1)]) dX11_noteWay_1 rfl (by decide) rfl rfl ?_
  refine J_iconst dX11_noteWay_2 (by decide) ?_
  refine J_istore_n (ls' := [(3, xI 0), (2, xI 1), (0, xR 1), (1, xI l1)]) dX11_noteWay_3 rfl (by decide) rfl rfl ?_
  refine J_sub [2, 3, 1, 0] rfl ?_
  exact j_WM_noteWay_4  hf
theorem dX11_findWays_0 : decode cX11_findWays 0 = .ok (.aload_n 0, 1) := by decide +kernel
theorem dX11_findWays_1 : decode cX11_findWays 1 = .ok (.getfield 71, 3) := by decide +kernel
theorem dX11_findWays_4 : decode cX11_findWays 4 = .ok (.iconst 0, 1) := by decide +kernel
theorem dX11_findWays_5 : decode cX11_findWays 5 = .ok (.invokestatic 224, 3) := by decide +kernel
theorem dX11_findWays_8 : decode cX11_findWays 8 = .ok (.iconst 1, 1) := by decide +kernel
theorem dX11_findWays_9 : decode cX11_findWays 9 = .ok (.istore_n 1, 1) := by decide +kernel
theorem dX11_findWays_10 : decode cX11_findWays 10 = .ok (.iconst 0, 1) := by decide +kernel
theorem dX11_findWays_11 : decode cX11_findWays 11 = .ok (.istore_n 2, 1) := by decide +kernel
theorem dX11_findWays_12 : decode cX11_findWays 12 = .ok (.iload_n 2, 1) := by decide +kernel
theorem dX11_findWays_13 : decode cX11_findWays 13 = .ok (.aload_n 0, 1) := by decide +kernel
theorem dX11_findWays_14 : decode cX11_findWays 14 = .ok (.getfield 61, 3) := by decide +kernel
theorem dX11_findWays_17 : decode cX11_findWays 17 = .ok (.getfield 132, 3) := by decide +kernel
theorem dX11_findWays_20 : decode cX11_findWays 20 = .ok (.if_icmp .ge 58, 3) := by decide +kernel
theorem dX11_findWays_23 : decode cX11_findWays 23 = .ok (.aload_n 0, 1) := by decide +kernel
theorem dX11_findWays_24 : decode cX11_findWays 24 = .ok (.iload_n 2, 1) := by decide +kernel
theorem dX11_findWays_25 : decode cX11_findWays 25 = .ok (.invokevirtual 237, 3) := by decide +kernel
theorem dX11_findWays_28 : decode cX11_findWays 28 = .ok (.aload_n 0, 1) := by decide +kernel
theorem dX11_findWays_29 : decode cX11_findWays 29 = .ok (.getfield 58, 3) := by decide +kernel
theorem dX11_findWays_32 : decode cX11_findWays 32 = .ok (.aload_n 0, 1) := by decide +kernel
theorem dX11_findWays_33 : decode cX11_findWays 33 = .ok (.getfield 33, 3) := by decide +kernel
theorem dX11_findWays_36 : decode cX11_findWays 36 = .ok (.aload_n 0, 1) := by decide +kernel
theorem dX11_findWays_37 : decode cX11_findWays 37 = .ok (.getfield 37, 3) := by decide +kernel
theorem dX11_findWays_40 : decode cX11_findWays 40 = .ok (.invokevirtual 184, 3) := by decide +kernel
theorem dX11_findWays_43 : decode cX11_findWays 43 = .ok (.pop, 1) := by decide +kernel
theorem dX11_findWays_44 : decode cX11_findWays 44 = .ok (.aload_n 0, 1) := by decide +kernel
theorem dX11_findWays_45 : decode cX11_findWays 45 = .ok (.getfield 58, 3) := by decide +kernel
theorem dX11_findWays_48 : decode cX11_findWays 48 = .ok (.aload_n 0, 1) := by decide +kernel
theorem dX11_findWays_49 : decode cX11_findWays 49 = .ok (.getfield 33, 3) := by decide +kernel
theorem dX11_findWays_52 : decode cX11_findWays 52 = .ok (.aload_n 0, 1) := by decide +kernel
theorem dX11_findWays_53 : decode cX11_findWays 53 = .ok (.getfield 37, 3) := by decide +kernel
theorem dX11_findWays_56 : decode cX11_findWays 56 = .ok (.invokevirtual 188, 3) := by decide +kernel
theorem dX11_findWays_59 : decode cX11_findWays 59 = .ok (.aload_n 0, 1) := by decide +kernel
theorem dX11_findWays_60 : decode cX11_findWays 60 = .ok (.iload_n 2, 1) := by decide +kernel
theorem dX11_findWays_61 : decode cX11_findWays 61 = .ok (.bipush 24, 2) := by decide +kernel
theorem dX11_findWays_63 : decode cX11_findWays 63 = .ok (.imul, 1) := by decide +kernel
theorem dX11_findWays_64 : decode cX11_findWays 64 = .ok (.invokevirtual 304, 3) := by decide +kernel
theorem dX11_findWays_67 : decode cX11_findWays 67 = .ok (.ifCond .ne 5, 3) := by decide +kernel
theorem dX11_findWays_70 : decode cX11_findWays 70 = .ok (.iconst 0, 1) := by decide +kernel
theorem dX11_findWays_71 : decode cX11_findWays 71 = .ok (.istore_n 1, 1) := by decide +kernel
theorem dX11_findWays_72 : decode cX11_findWays 72 = .ok (.iinc 2 1, 3) := by decide +kernel
theorem dX11_findWays_75 : decode cX11_findWays 75 = .ok (.goto (-63), 3) := by decide +kernel
theorem dX11_findWays_78 : decode cX11_findWays 78 = .ok (.iload_n 1, 1) := by decide +kernel
theorem dX11_findWays_79 : decode cX11_findWays 79 = .ok (.ireturn, 1) := by decide +kernel
theorem j_WM_findWays_78 {l1 : Int} {h : xH} {r0 : Int} {h0 : xH}  (hf : f_WM_findWays_78 l1 h = some (r0, h0))  : J mX11_findWays true 0 0 78 xKn [(1, xI l1)] [] h (xEq (some r0) h0) := by
  unfold f_WM_findWays_78 at hf
  refine J_iload_n 0 dX11_findWays_78 rfl rfl ?_
  obtain ⟨hz, hf⟩ := xgb_e hf
  exact J_iretz dX11_findWays_79 rfl hz (xq_i hf)
theorem j_WM_findWays_72 {l1 : Int} {l2 : Int} {h : xH} {x : ((Int × Int × xH) ⊕ (Int × xH))} {Q : xQ}  (hf : f_WM_findWays_72 l1 l2 h = some x) (kb : ∀ (l1' : Int) (l2' : Int) (h' : xH), x = Sum.inl (l1', l2', h') → J mX11_findWays true 0 0 12 xKn [(0, xR 1), (1, xI l1'), (2, xI l2')] [] h' Q) (ke : ∀ (l1' : Int) (h' : xH), x = (Sum.inr (l1', h')) → J mX11_findWays true 0 0 78 xKn [(1, xI l1')] [] h' Q) : J mX11_findWays true 0 0 72 xKn [(0, xR 1), (1, xI l1), (2, xI l2)] [] h Q := by
  unfold f_WM_findWays_72 at hf
  obtain ⟨x1, ex1, hf⟩ := xlet_e hf
  refine J_iinc (ls' := [(2, xI x1), (0, xR 1), (1, xI l1)]) 2 dX11_findWays_72 rfl (by decide) ex1 rfl ?_
  refine J_goto (tgt := 12) dX11_findWays_75 (by decide) ?_
  refine J_sub [1, 2, 0] rfl ?_
  exact kb _ _ _ (xinl hf)
theorem j_WM_findWays_s12 {l1 : Int} {l2 : Int} {h : xH} {x : ((Int × Int × xH) ⊕ (Int × xH))} {Q : xQ}  (hf : f_WM_findWays_s12 l1 l2 h = some x) (kb : ∀ (l1' : Int) (l2' : Int) (h' : xH), x = Sum.inl (l1', l2', h') → J mX11_findWays true 0 0 12 xKn [(0, xR 1), (1, xI l1'), (2, xI l2')] [] h' Q) (ke : ∀ (l1' : Int) (h' : xH), x = (Sum.inr (l1', h')) → J mX11_findWays true 0 0 78 xKn [(1, xI l1')] [] h' Q) : J mX11_findWays true 0 0 12 xKn [(0, xR 1), (1, xI l1), (2, xI l2)] [] h Q := by
  unfold f_WM_findWays_s12 at hf
  refine J_iload_n 2 dX11_findWays_12 rfl rfl ?_
  refine J_aload_n 0 dX11_findWays_13 rfl rfl ?_
  refine J_getRl (j := 8) xcf11 dX11_findWays_14 kO1 (Or.inl xq443) (by decide) (by decide) rf_1_8 ?_
  refine J_getI (j := 2) xcf5 dX11_findWays_17 (xK_rg kO40) kO40 (Or.inr ⟨_, xq185⟩) (by decide) (by decide) ?_
  refine J_ic_ge (tgt := 78) dX11_findWays_20 (by decide) (fun hc => ?_) (fun hc => ?_)
  · have hf := xip hc hf
    refine J_aload_n 0 dX11_findWays_23 rfl rfl ?_
    refine J_iload_n 2 dX11_findWays_24 rfl rfl ?_
    obtain ⟨h1, hq, hf⟩ := xc1_e hf
    refine J_cVv (Mc := mX11_readPair) [xI l2] dX11_findWays_25 (fc_WM_readPair.fit ⟨xbl rfl, xbl rfl⟩) rfl ⟨Or.inl xq850, xq852, xq58⟩ kO1 (ci := 11) rfl rfl (xbl rfl) (xbl rfl) (jm_WM_readPair  hq) ?_
    refine J_aload_n 0 dX11_findWays_28 rfl rfl ?_
    refine J_getRl (j := 7) xcf11 dX11_findWays_29 kO1 (Or.inl xq442) (by decide) (by decide) rf_1_7 ?_
    refine J_aload_n 0 dX11_findWays_32 rfl rfl ?_
    refine J_getRl (j := 3) xcf11 dX11_findWays_33 kO1 (Or.inl xq438) (by decide) (by decide) rf_1_3 ?_
    refine J_aload_n 0 dX11_findWays_36 rfl rfl ?_
    refine J_getRl (j := 4) xcf11 dX11_findWays_37 kO1 (Or.inl xq439) (by decide) (by decide) rf_1_4 ?_
    obtain ⟨r2, h3, hq, hf⟩ := xc2_e hf
    refine J_cVi (Mc := mX10_measure) [xR 21, xR 23] dX11_findWays_40 (fc_Way_measure.fit ⟨xbl rfl, xbl rfl⟩) rfl ⟨Or.inr ⟨_, xq646⟩, xq648, xq25⟩ kO34 (ci := 10) rfl rfl (xbl rfl) (xbl rfl) (jm_Way_measure kO34 kO21 kO23 hq) ?_
    refine J_pop dX11_findWays_43 rfl ?_
    refine J_aload_n 0 dX11_findWays_44 rfl rfl ?_
    refine J_getRl (j := 7) xcf11 dX11_findWays_45 kO1 (Or.inl xq442) (by decide) (by decide) rf_1_7 ?_
    refine J_aload_n 0 dX11_findWays_48 rfl rfl ?_
    refine J_getRl (j := 3) xcf11 dX11_findWays_49 kO1 (Or.inl xq438) (by decide) (by decide) rf_1_3 ?_
    refine J_aload_n 0 dX11_findWays_52 rfl rfl ?_
    refine J_getRl (j := 4) xcf11 dX11_findWays_53 kO1 (Or.inl xq439) (by decide) (by decide) rf_1_4 ?_
    obtain ⟨h4, hq, hf⟩ := xc1_e hf
    refine J_cVv (Mc := mX10_trace) [xR 21, xR 23] dX11_findWays_56 (fc_Way_trace.fit ⟨xbl rfl, xbl rfl⟩) rfl ⟨Or.inr ⟨_, xq693⟩, xq695, xq34⟩ kO34 (ci := 10) rfl rfl (xbl rfl) (xbl rfl) (jm_Way_trace kO34 kO21 kO23 hq) ?_
    refine J_aload_n 0 dX11_findWays_59 rfl rfl ?_
    refine J_iload_n 2 dX11_findWays_60 rfl rfl ?_
    refine J_bip dX11_findWays_61 (by decide) ?_
    refine J_imul dX11_findWays_63 ?_
    obtain ⟨r5, h6, hq, hf⟩ := xc2_e hf
    refine J_cVi (Mc := mX11_noteWay) [xI (w32 (l2 * 24))] dX11_findWays_64 (fc_WM_noteWay.fit ⟨xbl rfl, xbl rfl⟩) rfl ⟨Or.inl xq855, xq857, xq59⟩ kO1 (ci := 11) rfl rfl (xbl rfl) (xbl rfl) (jm_WM_noteWay  hq) ?_
    refine J_if_ne (tgt := 72) dX11_findWays_67 (by decide) (fun hc => ?_) (fun hc => ?_)
    · have hf := xip hc hf
      refine J_iconst dX11_findWays_70 (by decide) ?_
      refine J_istore_n (ls' := [(1, xI 0), (0, xR 1), (2, xI l2)]) dX11_findWays_71 rfl (by decide) rfl rfl ?_
      refine J_sub [1, 0, 2] rfl ?_
      exact j_WM_findWays_72  hf kb ke
    · have hf := xin' hc hf
      exact j_WM_findWays_72  hf kb ke
  · have hf := xin' hc hf
    refine J_sub [1] rfl ?_
    exact ke _ _ (xinl hf)
theorem j_WM_findWays_12 {l1 : Int} {l2 : Int} {h : xH} {r0 : Int} {h0 : xH}  (hf : f_WM_findWays_12 l1 l2 h = some (r0, h0))  : J mX11_findWays true 0 0 12 xKn [(0, xR 1), (1, xI l1), (2, xI l2)] [] h (xEq (some r0) h0) := by
  unfold f_WM_findWays_12 at hf
  obtain ⟨b0, hb0, hf⟩ := xc1_e hf
  refine xloop_ind (P := fun s : (Int × Int × xH) => J mX11_findWays true 0 0 12 xKn [(0, xR 1), (1, xI s.1), (2, xI s.2.1)] [] s.2.2 (xEq (some r0) h0)) hb0 (fun s x1 hs ib ie => ?_)
  exact j_WM_findWays_s12  hs (fun _ _ _ e => ib _ e) (fun _ _ e => by have := ie _ e; subst this; exact j_WM_findWays_78  hf)
theorem jm_WM_findWays  {h : xH} {r0 : Int} {h0 : xH}  (hf : f_WM_findWays h = some (r0, h0)) : J mX11_findWays true 0 0 0 xKn (xen 0 [xR 1]) [] h (xEq (some r0) h0) := by
  unfold f_WM_findWays at hf
  refine J_cong (ls2 := [(0, xR 1)]) (st2 := []) rfl rfl ?_
  refine J_aload_n 0 dX11_findWays_0 rfl rfl ?_
  refine J_getRl (j := 11) xcf11 dX11_findWays_1 kO1 (Or.inl xq446) (by decide) (by decide) rf_1_11 ?_
  refine J_iconst dX11_findWays_4 (by decide) ?_
  obtain ⟨h1, hq, hf⟩ := xc1_e hf
  refine J_cSv (Mc := mJ7_fill_53178) [xR 47, xI 0] dX11_findWays_5 (fc_Arr_fill.fit ⟨xbl rfl, xbl rfl⟩) rfl ⟨Or.inl xq843, xq844⟩ rfl (xbl rfl) (xbl rfl) (jm_Arr_fill kO47 hq) ?_
  refine J_iconst dX11_findWays_8 (by decide) ?_
  refine J_istore_n (ls' := [(1, xI 1), (0, xR 1)]) dX11_findWays_9 rfl (by decide) rfl rfl ?_
  refine J_iconst dX11_findWays_10 (by decide) ?_
  refine J_istore_n (ls' := [(2, xI 0), (1, xI 1), (0, xR 1)]) dX11_findWays_11 rfl (by decide) rfl rfl ?_
  refine J_sub [2, 1, 0] rfl ?_
  exact j_WM_findWays_12  hf
theorem dX6_setByCounts_0 : decode cX6_setByCounts 0 = .ok (.iconst 0, 1) := by decide +kernel
theorem dX6_setByCounts_1 : decode cX6_setByCounts 1 = .ok (.istore_n 2, 1) := by decide +kernel
theorem dX6_setByCounts_2 : decode cX6_setByCounts 2 = .ok (.iconst 1, 1) := by decide +kernel
theorem dX6_setByCounts_3 : decode cX6_setByCounts 3 = .ok (.istore_n 3, 1) := by decide +kernel
theorem dX6_setByCounts_4 : decode cX6_setByCounts 4 = .ok (.iload_n 3, 1) := by decide +kernel
theorem dX6_setByCounts_5 : decode cX6_setByCounts 5 = .ok (.bipush 6, 2) := by decide +kernel
theorem dX6_setByCounts_7 : decode cX6_setByCounts 7 = .ok (.if_icmp .gt 21, 3) := by decide +kernel
theorem dX6_setByCounts_10 : decode cX6_setByCounts 10 = .ok (.iload_n 3, 1) := by decide +kernel
theorem dX6_setByCounts_11 : decode cX6_setByCounts 11 = .ok (.aload_n 1, 1) := by decide +kernel
theorem dX6_setByCounts_12 : decode cX6_setByCounts 12 = .ok (.arraylength, 1) := by decide +kernel
theorem dX6_setByCounts_13 : decode cX6_setByCounts 13 = .ok (.if_icmp .ge 15, 3) := by decide +kernel
theorem dX6_setByCounts_16 : decode cX6_setByCounts 16 = .ok (.iload_n 2, 1) := by decide +kernel
theorem dX6_setByCounts_17 : decode cX6_setByCounts 17 = .ok (.aload_n 1, 1) := by decide +kernel
theorem dX6_setByCounts_18 : decode cX6_setByCounts 18 = .ok (.iload_n 3, 1) := by decide +kernel
theorem dX6_setByCounts_19 : decode cX6_setByCounts 19 = .ok (.iaload, 1) := by decide +kernel
theorem dX6_setByCounts_20 : decode cX6_setByCounts 20 = .ok (.iadd, 1) := by decide +kernel
theorem dX6_setByCounts_21 : decode cX6_setByCounts 21 = .ok (.istore_n 2, 1) := by decide +kernel
theorem dX6_setByCounts_22 : decode cX6_setByCounts 22 = .ok (.iinc 3 1, 3) := by decide +kernel
theorem dX6_setByCounts_25 : decode cX6_setByCounts 25 = .ok (.goto (-21), 3) := by decide +kernel
theorem dX6_setByCounts_28 : decode cX6_setByCounts 28 = .ok (.iload_n 2, 1) := by decide +kernel
theorem dX6_setByCounts_29 : decode cX6_setByCounts 29 = .ok (.ifCond .gt 5, 3) := by decide +kernel
theorem dX6_setByCounts_32 : decode cX6_setByCounts 32 = .ok (.iconst 0, 1) := by decide +kernel
theorem dX6_setByCounts_33 : decode cX6_setByCounts 33 = .ok (.ireturn, 1) := by decide +kernel
theorem dX6_setByCounts_34 : decode cX6_setByCounts 34 = .ok (.iconst 1, 1) := by decide +kernel
theorem dX6_setByCounts_35 : decode cX6_setByCounts 35 = .ok (.istore_n 3, 1) := by decide +kernel
theorem dX6_setByCounts_36 : decode cX6_setByCounts 36 = .ok (.iload_n 3, 1) := by decide +kernel
theorem dX6_setByCounts_37 : decode cX6_setByCounts 37 = .ok (.bipush 6, 2) := by decide +kernel
theorem dX6_setByCounts_39 : decode cX6_setByCounts 39 = .ok (.if_icmp .gt 34, 3) := by decide +kernel
theorem dX6_setByCounts_42 : decode cX6_setByCounts 42 = .ok (.iload_n 3, 1) := by decide +kernel
theorem dX6_setByCounts_43 : decode cX6_setByCounts 43 = .ok (.aload_n 1, 1) := by decide +kernel
theorem dX6_setByCounts_44 : decode cX6_setByCounts 44 = .ok (.arraylength, 1) := by decide +kernel
theorem dX6_setByCounts_45 : decode cX6_setByCounts 45 = .ok (.if_icmp .ge 28, 3) := by decide +kernel
theorem dX6_setByCounts_48 : decode cX6_setByCounts 48 = .ok (.aload_n 0, 1) := by decide +kernel
theorem dX6_setByCounts_49 : decode cX6_setByCounts 49 = .ok (.getfield 9, 3) := by decide +kernel
theorem dX6_setByCounts_52 : decode cX6_setByCounts 52 = .ok (.iload_n 3, 1) := by decide +kernel
theorem dX6_setByCounts_53 : decode cX6_setByCounts 53 = .ok (.sipush 200, 3) := by decide +kernel
theorem dX6_setByCounts_56 : decode cX6_setByCounts 56 = .ok (.sipush 180, 3) := by decide +kernel
theorem dX6_setByCounts_59 : decode cX6_setByCounts 59 = .ok (.aload_n 1, 1) := by decide +kernel
theorem dX6_setByCounts_60 : decode cX6_setByCounts 60 = .ok (.iload_n 3, 1) := by decide +kernel
theorem dX6_setByCounts_61 : decode cX6_setByCounts 61 = .ok (.iaload, 1) := by decide +kernel
theorem dX6_setByCounts_62 : decode cX6_setByCounts 62 = .ok (.imul, 1) := by decide +kernel
theorem dX6_setByCounts_63 : decode cX6_setByCounts 63 = .ok (.iload_n 2, 1) := by decide +kernel
theorem dX6_setByCounts_64 : decode cX6_setByCounts 64 = .ok (.idiv, 1) := by decide +kernel
theorem dX6_setByCounts_65 : decode cX6_setByCounts 65 = .ok (.isub, 1) := by decide +kernel
theorem dX6_setByCounts_66 : decode cX6_setByCounts 66 = .ok (.iastore, 1) := by decide +kernel
theorem dX6_setByCounts_67 : decode cX6_setByCounts 67 = .ok (.iinc 3 1, 3) := by decide +kernel
theorem dX6_setByCounts_70 : decode cX6_setByCounts 70 = .ok (.goto (-34), 3) := by decide +kernel
theorem dX6_setByCounts_73 : decode cX6_setByCounts 73 = .ok (.iconst 1, 1) := by decide +kernel
theorem dX6_setByCounts_74 : decode cX6_setByCounts 74 = .ok (.ireturn, 1) := by decide +kernel
theorem j_Slips_setByCounts_73  {h : xH} {r0 : Int} {h0 : xH}  (hf : f_Slips_setByCounts_73 h = some (r0, h0))  : J mX6_setByCounts true 0 0 73 xKn [] [] h (xEq (some r0) h0) := by
  unfold f_Slips_setByCounts_73 at hf
  refine J_iconst dX6_setByCounts_73 (by decide) ?_
  exact J_iretz dX6_setByCounts_74 rfl (by decide) (xq_i hf)
theorem j_Slips_setByCounts_s36 {l1 : Int} {l2 : Int} {l3 : Int} {h : xH} {x : ((Int × xH) ⊕ xH)} {Q : xQ} (kl1 : xK l1 = 1) (hf : f_Slips_setByCounts_s36 l1 l2 l3 h = some x) (kb : ∀ (l3' : Int) (h' : xH), x = Sum.inl (l3', h') → J mX6_setByCounts true 0 0 36 xKn [(0, xR 9), (1, xR l1), (2, xI l2), (3, xI l3')] [] h' Q) (ke : ∀  (h' : xH), x = (Sum.inr h') → J mX6_setByCounts true 0 0 73 xKn [] [] h' Q) : J mX6_setByCounts true 0 0 36 xKn [(0, xR 9), (1, xR l1), (2, xI l2), (3, xI l3)] [] h Q := by
  unfold f_Slips_setByCounts_s36 at hf
  refine J_iload_n 3 dX6_setByCounts_36 rfl rfl ?_
  refine J_bip dX6_setByCounts_37 (by decide) ?_
  refine J_ic_gt (tgt := 73) dX6_setByCounts_39 (by decide) (fun hc => ?_) (fun hc => ?_)
  · have hf := xip hc hf
    refine J_sub [] rfl ?_
    exact ke _ (xinl hf)
  · have hf := xin' hc hf
    refine J_iload_n 3 dX6_setByCounts_42 rfl rfl ?_
    refine J_aload_n 1 dX6_setByCounts_43 rfl rfl ?_
    refine J_alen dX6_setByCounts_44 (xK_r1 kl1) (Or.inl kl1) (xNok l1) rfl ?_
    refine J_ic_ge (tgt := 73) dX6_setByCounts_45 (by decide) (fun hc => ?_) (fun hc => ?_)
    · have hf := xip hc hf
      refine J_aload_n 0 dX6_setByCounts_48 rfl rfl ?_
      refine J_getRl (j := 0) xcf6 dX6_setByCounts_49 kO9 (Or.inl xq216) (by decide) (by decide) rf_9_0 ?_
      refine J_iload_n 3 dX6_setByCounts_52 rfl rfl ?_
      refine J_sip dX6_setByCounts_53 (by decide) ?_
      refine J_sip dX6_setByCounts_56 (by decide) ?_
      refine J_aload_n 1 dX6_setByCounts_59 rfl rfl ?_
      refine J_iload_n 3 dX6_setByCounts_60 rfl rfl ?_
      obtain ⟨hg, hf⟩ := xgd_e hf
      refine J_iald dX6_setByCounts_61 (xK_r1 kl1) kl1 hg rfl ?_
      refine J_imul dX6_setByCounts_62 ?_
      refine J_iload_n 2 dX6_setByCounts_63 rfl rfl ?_
      obtain ⟨hy, hf⟩ := xgp_e hf
      refine J_idiv dX6_setByCounts_64 hy ?_
      refine J_isub dX6_setByCounts_65 ?_
      obtain ⟨hg, hf⟩ := xgd_e hf
      obtain ⟨h1, eh1, hf⟩ := xlet_e hf
      refine J_iast dX6_setByCounts_66 (xK_r1 kO10) kO10 hg nA10 eh1 ?_
      obtain ⟨x2, ex2, hf⟩ := xlet_e hf
      refine J_iinc (ls' := [(3, xI x2), (0, xR 9), (1, xR l1), (2, xI l2)]) 3 dX6_setByCounts_67 rfl (by decide) ex2 rfl ?_
      refine J_goto (tgt := 36) dX6_setByCounts_70 (by decide) ?_
      refine J_sub [1, 2, 3, 0] rfl ?_
      exact kb _ _ (xinl hf)
    · have hf := xin' hc hf
      refine J_sub [] rfl ?_
      exact ke _ (xinl hf)
theorem j_Slips_setByCounts_36 {l1 : Int} {l2 : Int} {l3 : Int} {h : xH} {r0 : Int} {h0 : xH} (kl1 : xK l1 = 1) (hf : f_Slips_setByCounts_36 l1 l2 l3 h = some (r0, h0))  : J mX6_setByCounts true 0 0 36 xKn [(0, xR 9), (1, xR l1), (2, xI l2), (3, xI l3)] [] h (xEq (some r0) h0) := by
  unfold f_Slips_setByCounts_36 at hf
  obtain ⟨b0, hb0, hf⟩ := xc1_e hf
  refine xloop_ind (P := fun s : (Int × xH) => J mX6_setByCounts true 0 0 36 xKn [(0, xR 9), (1, xR l1), (2, xI l2), (3, xI s.1)] [] s.2 (xEq (some r0) h0)) hb0 (fun s x1 hs ib ie => ?_)
  exact j_Slips_setByCounts_s36 kl1 hs (fun _ _ e => ib _ e) (fun _ e => by have := ie _ e; subst this; exact j_Slips_setByCounts_73  hf)
theorem j_Slips_setByCounts_28 {l1 : Int} {l2 : Int} {h : xH} {r0 : Int} {h0 : xH} (kl1 : xK l1 = 1) (hf : f_Slips_setByCounts_28 l1 l2 h = some (r0, h0))  : J mX6_setByCounts true 0 0 28 xKn [(0, xR 9), (1, xR l1), (2, xI l2)] [] h (xEq (some r0) h0) := by
  unfold f_Slips_setByCounts_28 at hf
  refine J_iload_n 2 dX6_setByCounts_28 rfl rfl ?_
  refine J_if_gt (tgt := 34) dX6_setByCounts_29 (by decide) (fun hc => ?_) (fun hc => ?_)
  · have hf := xip hc hf
    refine J_iconst dX6_setByCounts_34 (by decide) ?_
    refine J_istore_n (ls' := [(3, xI 1), (0, xR 9), (1, xR l1), (2, xI l2)]) dX6_setByCounts_35 rfl (by decide) rfl rfl ?_
    refine J_sub [1, 2, 3, 0] rfl ?_
    exact j_Slips_setByCounts_36 kl1 hf
  · have hf := xin' hc hf
    refine J_iconst dX6_setByCounts_32 (by decide) ?_
    exact J_iretz dX6_setByCounts_33 rfl (by decide) (xq_i hf)
theorem j_Slips_setByCounts_s4 {l1 : Int} {l2 : Int} {l3 : Int} {h : xH} {x : ((Int × Int) ⊕ Int)} {Q : xQ} (kl1 : xK l1 = 1) (hf : f_Slips_setByCounts_s4 l1 l2 l3 h = some x) (kb : ∀ (l2' : Int) (l3' : Int), x = Sum.inl (l2', l3') → J mX6_setByCounts true 0 0 4 xKn [(0, xR 9), (1, xR l1), (2, xI l2'), (3, xI l3')] [] h Q) (ke : ∀ (l2' : Int), x = (Sum.inr l2') → J mX6_setByCounts true 0 0 28 xKn [(0, xR 9), (1, xR l1), (2, xI l2')] [] h Q) : J mX6_setByCounts true 0 0 4 xKn [(0, xR 9), (1, xR l1), (2, xI l2), (3, xI l3)] [] h Q := by
  unfold f_Slips_setByCounts_s4 at hf
  refine J_iload_n 3 dX6_setByCounts_4 rfl rfl ?_
  refine J_bip dX6_setByCounts_5 (by decide) ?_
  refine J_ic_gt (tgt := 28) dX6_setByCounts_7 (by decide) (fun hc => ?_) (fun hc => ?_)
  · have hf := xip hc hf
    refine J_sub [0, 1, 2] rfl ?_
    exact ke _ (xinl hf)
  · have hf := xin' hc hf
    refine J_iload_n 3 dX6_setByCounts_10 rfl rfl ?_
    refine J_aload_n 1 dX6_setByCounts_11 rfl rfl ?_
    refine J_alen dX6_setByCounts_12 (xK_r1 kl1) (Or.inl kl1) (xNok l1) rfl ?_
    refine J_ic_ge (tgt := 28) dX6_setByCounts_13 (by decide) (fun hc => ?_) (fun hc => ?_)
    · have hf := xip hc hf
      refine J_iload_n 2 dX6_setByCounts_16 rfl rfl ?_
      refine J_aload_n 1 dX6_setByCounts_17 rfl rfl ?_
      refine J_iload_n 3 dX6_setByCounts_18 rfl rfl ?_
      obtain ⟨hg, hf⟩ := xgd_e hf
      refine J_iald dX6_setByCounts_19 (xK_r1 kl1) kl1 hg rfl ?_
      refine J_iadd dX6_setByCounts_20 ?_
      obtain ⟨x1, ex1, hf⟩ := xlet_e hf
      refine J_istore_n (ls' := [(2, xI x1), (0, xR 9), (1, xR l1), (3, xI l3)]) dX6_setByCounts_21 rfl (by decide) ex1 rfl ?_
      obtain ⟨x2, ex2, hf⟩ := xlet_e hf
      refine J_iinc (ls' := [(3, xI x2), (2, xI x1), (0, xR 9), (1, xR l1)]) 3 dX6_setByCounts_22 rfl (by decide) ex2 rfl ?_
      refine J_goto (tgt := 4) dX6_setByCounts_25 (by decide) ?_
      refine J_sub [2, 3, 1, 0] rfl ?_
      exact kb _ _ (xinl hf)
    · have hf := xin' hc hf
      refine J_sub [0, 1, 2] rfl ?_
      exact ke _ (xinl hf)
theorem j_Slips_setByCounts_4 {l1 : Int} {l2 : Int} {l3 : Int} {h : xH} {r0 : Int} {h0 : xH} (kl1 : xK l1 = 1) (hf : f_Slips_setByCounts_4 l1 l2 l3 h = some (r0, h0))  : J mX6_setByCounts true 0 0 4 xKn [(0, xR 9), (1, xR l1), (2, xI l2), (3, xI l3)] [] h (xEq (some r0) h0) := by
  unfold f_Slips_setByCounts_4 at hf
  obtain ⟨b0, hb0, hf⟩ := xc1_e hf
  refine xloop_ind (P := fun s : (Int × Int) => J mX6_setByCounts true 0 0 4 xKn [(0, xR 9), (1, xR l1), (2, xI s.1), (3, xI s.2)] [] h (xEq (some r0) h0)) hb0 (fun s x1 hs ib ie => ?_)
  exact j_Slips_setByCounts_s4 kl1 hs (fun _ _ e => ib _ e) (fun _ e => by have := ie _ e; subst this; exact j_Slips_setByCounts_28 kl1 hf)
theorem jm_Slips_setByCounts {l1 : Int} {h : xH} {r0 : Int} {h0 : xH} (kl1 : xK l1 = 1) (hf : f_Slips_setByCounts l1 h = some (r0, h0)) : J mX6_setByCounts true 0 0 0 xKn (xen 0 [xR 9, xR l1]) [] h (xEq (some r0) h0) := by
  unfold f_Slips_setByCounts at hf
  refine J_cong (ls2 := [(0, xR 9), (1, xR l1)]) (st2 := []) rfl rfl ?_
  refine J_iconst dX6_setByCounts_0 (by decide) ?_
  refine J_istore_n (ls' := [(2, xI 0), (0, xR 9), (1, xR l1)]) dX6_setByCounts_1 rfl (by decide) rfl rfl ?_
  refine J_iconst dX6_setByCounts_2 (by decide) ?_
  refine J_istore_n (ls' := [(3, xI 1), (2, xI 0), (0, xR 9), (1, xR l1)]) dX6_setByCounts_3 rfl (by decide) rfl rfl ?_
  refine J_sub [2, 3, 1, 0] rfl ?_
  exact j_Slips_setByCounts_4 kl1 hf
theorem dX11_learn_0 : decode cX11_learn 0 = .ok (.aload_n 0, 1) := by decide +kernel
theorem dX11_learn_1 : decode cX11_learn 1 = .ok (.getfield 67, 3) := by decide +kernel
theorem dX11_learn_4 : decode cX11_learn 4 = .ok (.iconst (-1), 1) := by decide +kernel
theorem dX11_learn_5 : decode cX11_learn 5 = .ok (.invokestatic 224, 3) := by decide +kernel
theorem dX11_learn_8 : decode cX11_learn 8 = .ok (.iconst 0, 1) := by decide +kernel
theorem dX11_learn_9 : decode cX11_learn 9 = .ok (.istore_n 1, 1) := by decide +kernel
theorem dX11_learn_10 : decode cX11_learn 10 = .ok (.aload_n 0, 1) := by decide +kernel
theorem dX11_learn_11 : decode cX11_learn 11 = .ok (.getfield 61, 3) := by decide +kernel
theorem dX11_learn_14 : decode cX11_learn 14 = .ok (.getfield 132, 3) := by decide +kernel
theorem dX11_learn_17 : decode cX11_learn 17 = .ok (.ifCond .le 7, 3) := by decide +kernel
theorem dX11_learn_20 : decode cX11_learn 20 = .ok (.iconst 1, 1) := by decide +kernel
theorem dX11_learn_21 : decode cX11_learn 21 = .ok (.goto 4, 3) := by decide +kernel
theorem dX11_learn_24 : decode cX11_learn 24 = .ok (.iconst 0, 1) := by decide +kernel
theorem dX11_learn_25 : decode cX11_learn 25 = .ok (.istore_n 2, 1) := by decide +kernel
theorem dX11_learn_26 : decode cX11_learn 26 = .ok (.iload_n 2, 1) := by decide +kernel
theorem dX11_learn_27 : decode cX11_learn 27 = .ok (.ifCond .eq 48, 3) := by decide +kernel
theorem dX11_learn_30 : decode cX11_learn 30 = .ok (.iload_n 1, 1) := by decide +kernel
theorem dX11_learn_31 : decode cX11_learn 31 = .ok (.bipush 20, 2) := by decide +kernel
theorem dX11_learn_33 : decode cX11_learn 33 = .ok (.if_icmp .ge 42, 3) := by decide +kernel
theorem dX11_learn_36 : decode cX11_learn 36 = .ok (.aload_n 0, 1) := by decide +kernel
theorem dX11_learn_37 : decode cX11_learn 37 = .ok (.invokevirtual 230, 3) := by decide +kernel
theorem dX11_learn_40 : decode cX11_learn 40 = .ok (.istore_n 3, 1) := by decide +kernel
theorem dX11_learn_41 : decode cX11_learn 41 = .ok (.aload_n 0, 1) := by decide +kernel
theorem dX11_learn_42 : decode cX11_learn 42 = .ok (.getfield 26, 3) := by decide +kernel
theorem dX11_learn_45 : decode cX11_learn 45 = .ok (.aload_n 0, 1) := by decide +kernel
theorem dX11_learn_46 : decode cX11_learn 46 = .ok (.getfield 71, 3) := by decide +kernel
theorem dX11_learn_49 : decode cX11_learn 49 = .ok (.invokevirtual 233, 3) := by decide +kernel
theorem dX11_learn_52 : decode cX11_learn 52 = .ok (.istore 4, 2) := by decide +kernel
theorem dX11_learn_54 : decode cX11_learn 54 = .ok (.iload 4, 2) := by decide +kernel
theorem dX11_learn_56 : decode cX11_learn 56 = .ok (.ifCond .eq 11, 3) := by decide +kernel
theorem dX11_learn_59 : decode cX11_learn 59 = .ok (.iload_n 3, 1) := by decide +kernel
theorem dX11_learn_60 : decode cX11_learn 60 = .ok (.ifCond .ne 7, 3) := by decide +kernel
theorem dX11_learn_63 : decode cX11_learn 63 = .ok (.iconst 1, 1) := by decide +kernel
theorem dX11_learn_64 : decode cX11_learn 64 = .ok (.goto 4, 3) := by decide +kernel
theorem dX11_learn_67 : decode cX11_learn 67 = .ok (.iconst 0, 1) := by decide +kernel
theorem dX11_learn_68 : decode cX11_learn 68 = .ok (.istore_n 2, 1) := by decide +kernel
theorem dX11_learn_69 : decode cX11_learn 69 = .ok (.iinc 1 1, 3) := by decide +kernel
theorem dX11_learn_72 : decode cX11_learn 72 = .ok (.goto (-46), 3) := by decide +kernel
theorem dX11_learn_75 : decode cX11_learn 75 = .ok (.iload_n 1, 1) := by decide +kernel
theorem dX11_learn_76 : decode cX11_learn 76 = .ok (.ireturn, 1) := by decide +kernel
theorem j_WM_learn_75 {l1 : Int} {h : xH} {r0 : Int} {h0 : xH}  (hf : f_WM_learn_75 l1 h = some (r0, h0))  : J mX11_learn true 0 0 75 xKn [(1, xI l1)] [] h (xEq (some r0) h0) := by
  unfold f_WM_learn_75 at hf
  refine J_iload_n 0 dX11_learn_75 rfl rfl ?_
  exact J_ireti dX11_learn_76 rfl (xq_i hf)
theorem j_WM_learn_68 {l1 : Int} {s0 : Int} {h : xH} {x : ((Int × Int × xH) ⊕ (Int × xH))} {Q : xQ}  (hf : f_WM_learn_68 l1 s0 h = some x) (kb : ∀ (l1' : Int) (l2' : Int) (h' : xH), x = Sum.inl (l1', l2', h') → J mX11_learn true 0 0 26 xKn [(0, xR 1), (1, xI l1'), (2, xI l2')] [] h' Q) (ke : ∀ (l1' : Int) (h' : xH), x = (Sum.inr (l1', h')) → J mX11_learn true 0 0 75 xKn [(1, xI l1')] [] h' Q) : J mX11_learn true 0 0 68 xKn [(0, xR 1), (1, xI l1)] [xI s0] h Q := by
  unfold f_WM_learn_68 at hf
  refine J_istore_n (ls' := [(2, xI s0), (0, xR 1), (1, xI l1)]) dX11_learn_68 rfl (by decide) rfl rfl ?_
  obtain ⟨x1, ex1, hf⟩ := xlet_e hf
  refine J_iinc (ls' := [(1, xI x1), (2, xI s0), (0, xR 1)]) 2 dX11_learn_69 rfl (by decide) ex1 rfl ?_
  refine J_goto (tgt := 26) dX11_learn_72 (by decide) ?_
  refine J_sub [2, 0, 1] rfl ?_
  exact kb _ _ _ (xinl hf)
theorem j_WM_learn_67 {l1 : Int} {h : xH} {x : ((Int × Int × xH) ⊕ (Int × xH))} {Q : xQ}  (hf : f_WM_learn_67 l1 h = some x) (kb : ∀ (l1' : Int) (l2' : Int) (h' : xH), x = Sum.inl (l1', l2', h') → J mX11_learn true 0 0 26 xKn [(0, xR 1), (1, xI l1'), (2, xI l2')] [] h' Q) (ke : ∀ (l1' : Int) (h' : xH), x = (Sum.inr (l1', h')) → J mX11_learn true 0 0 75 xKn [(1, xI l1')] [] h' Q) : J mX11_learn true 0 0 67 xKn [(0, xR 1), (1, xI l1)] [] h Q := by
  unfold f_WM_learn_67 at hf
  refine J_iconst dX11_learn_67 (by decide) ?_
  exact j_WM_learn_68  hf kb ke
theorem j_WM_learn_s26 {l1 : Int} {l2 : Int} {h : xH} {x : ((Int × Int × xH) ⊕ (Int × xH))} {Q : xQ}  (hf : f_WM_learn_s26 l1 l2 h = some x) (kb : ∀ (l1' : Int) (l2' : Int) (h' : xH), x = Sum.inl (l1', l2', h') → J mX11_learn true 0 0 26 xKn [(0, xR 1), (1, xI l1'), (2, xI l2')] [] h' Q) (ke : ∀ (l1' : Int) (h' : xH), x = (Sum.inr (l1', h')) → J mX11_learn true 0 0 75 xKn [(1, xI l1')] [] h' Q) : J mX11_learn true 0 0 26 xKn [(0, xR 1), (1, xI l1), (2, xI l2)] [] h Q := by
  unfold f_WM_learn_s26 at hf
  refine J_iload_n 2 dX11_learn_26 rfl rfl ?_
  refine J_if_eq (tgt := 75) dX11_learn_27 (by decide) (fun hc => ?_) (fun hc => ?_)
  · have hf := xip hc hf
    refine J_sub [1] rfl ?_
    exact ke _ _ (xinl hf)
  · have hf := xin' hc hf
    refine J_iload_n 1 dX11_learn_30 rfl rfl ?_
    refine J_bip dX11_learn_31 (by decide) ?_
    refine J_ic_ge (tgt := 75) dX11_learn_33 (by decide) (fun hc => ?_) (fun hc => ?_)
    · have hf := xip hc hf
      refine J_aload_n 0 dX11_learn_36 rfl rfl ?_
      obtain ⟨r1, h2, hq, hf⟩ := xc2_e hf
      refine J_cVi (Mc := mX11_findWays) [] dX11_learn_37 (fc_WM_findWays.fit ⟨xbl rfl, xbl rfl⟩) rfl ⟨Or.inl xq846, xq848, xq57⟩ kO1 (ci := 11) rfl rfl (xbl rfl) (xbl rfl) (jm_WM_findWays  hq) ?_
      refine J_istore_n (ls' := [(3, xI r1), (0, xR 1), (1, xI l1), (2, xI l2)]) dX11_learn_40 rfl (by decide) rfl rfl ?_
      refine J_aload_n 1 dX11_learn_41 rfl rfl ?_
      refine J_getRl (j := 2) xcf11 dX11_learn_42 kO1 (Or.inl xq437) (by decide) (by decide) rf_1_2 ?_
      refine J_aload_n 1 dX11_learn_45 rfl rfl ?_
      refine J_getRl (j := 11) xcf11 dX11_learn_46 kO1 (Or.inl xq446) (by decide) (by decide) rf_1_11 ?_
      obtain ⟨r3, h4, hq, hf⟩ := xc2_e hf
      refine J_cVi (Mc := mX6_setByCounts) [xR 47] dX11_learn_49 (fc_Slips_setByCounts.fit ⟨xbl rfl, xbl rfl⟩) rfl ⟨Or.inr ⟨_, xq860⟩, xq862, xq60⟩ kO9 (ci := 6) rfl rfl (xbl rfl) (xbl rfl) (jm_Slips_setByCounts kO47 hq) ?_
      refine J_istore (ls' := [(4, xI r3), (3, xI r1), (0, xR 1), (1, xI l1), (2, xI l2)]) dX11_learn_52 (by decide) rfl rfl ?_
      refine J_iload 0 dX11_learn_54 rfl ?_
      refine J_if_eq (tgt := 67) dX11_learn_56 (by decide) (fun hc => ?_) (fun hc => ?_)
      · have hf := xip hc hf
        refine J_sub [2, 3] rfl ?_
        exact j_WM_learn_67  hf kb ke
      · have hf := xin' hc hf
        refine J_iload_n 1 dX11_learn_59 rfl rfl ?_
        refine J_if_ne (tgt := 67) dX11_learn_60 (by decide) (fun hc => ?_) (fun hc => ?_)
        · have hf := xip hc hf
          refine J_iconst dX11_learn_63 (by decide) ?_
          refine J_goto (tgt := 68) dX11_learn_64 (by decide) ?_
          refine J_sub [2, 3] rfl ?_
          exact j_WM_learn_68  hf kb ke
        · have hf := xin' hc hf
          refine J_sub [2, 3] rfl ?_
          exact j_WM_learn_67  hf kb ke
    · have hf := xin' hc hf
      refine J_sub [1] rfl ?_
      exact ke _ _ (xinl hf)
theorem j_WM_learn_26 {l1 : Int} {l2 : Int} {h : xH} {r0 : Int} {h0 : xH}  (hf : f_WM_learn_26 l1 l2 h = some (r0, h0))  : J mX11_learn true 0 0 26 xKn [(0, xR 1), (1, xI l1), (2, xI l2)] [] h (xEq (some r0) h0) := by
  unfold f_WM_learn_26 at hf
  obtain ⟨b0, hb0, hf⟩ := xc1_e hf
  refine xloop_ind (P := fun s : (Int × Int × xH) => J mX11_learn true 0 0 26 xKn [(0, xR 1), (1, xI s.1), (2, xI s.2.1)] [] s.2.2 (xEq (some r0) h0)) hb0 (fun s x1 hs ib ie => ?_)
  exact j_WM_learn_s26  hs (fun _ _ _ e => ib _ e) (fun _ _ e => by have := ie _ e; subst this; exact j_WM_learn_75  hf)
theorem j_WM_learn_25 {l1 : Int} {s0 : Int} {h : xH} {r0 : Int} {h0 : xH}  (hf : f_WM_learn_25 l1 s0 h = some (r0, h0))  : J mX11_learn true 0 0 25 xKn [(0, xR 1), (1, xI l1)] [xI s0] h (xEq (some r0) h0) := by
  unfold f_WM_learn_25 at hf
  refine J_istore_n (ls' := [(2, xI s0), (0, xR 1), (1, xI l1)]) dX11_learn_25 rfl (by decide) rfl rfl ?_
  refine J_sub [1, 2, 0] rfl ?_
  exact j_WM_learn_26  hf
theorem jm_WM_learn  {h : xH} {r0 : Int} {h0 : xH}  (hf : f_WM_learn h = some (r0, h0)) : J mX11_learn true 0 0 0 xKn (xen 0 [xR 1]) [] h (xEq (some r0) h0) := by
  unfold f_WM_learn at hf
  refine J_cong (ls2 := [(0, xR 1)]) (st2 := []) rfl rfl ?_
  refine J_aload_n 0 dX11_learn_0 rfl rfl ?_
  refine J_getRl (j := 10) xcf11 dX11_learn_1 kO1 (Or.inl xq445) (by decide) (by decide) rf_1_10 ?_
  refine J_iconst dX11_learn_4 (by decide) ?_
  obtain ⟨h1, hq, hf⟩ := xc1_e hf
  refine J_cSv (Mc := mJ7_fill_53178) [xR 46, xI (-1)] dX11_learn_5 (fc_Arr_fill.fit ⟨xbl rfl, xbl rfl⟩) rfl ⟨Or.inl xq843, xq844⟩ rfl (xbl rfl) (xbl rfl) (jm_Arr_fill kO46 hq) ?_
  refine J_iconst dX11_learn_8 (by decide) ?_
  refine J_istore_n (ls' := [(1, xI 0), (0, xR 1)]) dX11_learn_9 rfl (by decide) rfl rfl ?_
  refine J_aload_n 1 dX11_learn_10 rfl rfl ?_
  refine J_getRl (j := 8) xcf11 dX11_learn_11 kO1 (Or.inl xq443) (by decide) (by decide) rf_1_8 ?_
  refine J_getI (j := 2) xcf5 dX11_learn_14 (xK_rg kO40) kO40 (Or.inr ⟨_, xq185⟩) (by decide) (by decide) ?_
  refine J_if_le (tgt := 24) dX11_learn_17 (by decide) (fun hc => ?_) (fun hc => ?_)
  · have hf := xip hc hf
    refine J_iconst dX11_learn_20 (by decide) ?_
    refine J_goto (tgt := 25) dX11_learn_21 (by decide) ?_
    refine J_sub [1, 0] rfl ?_
    exact j_WM_learn_25  hf
  · have hf := xin' hc hf
    refine J_iconst dX11_learn_24 (by decide) ?_
    refine J_sub [1, 0] rfl ?_
    exact j_WM_learn_25  hf
theorem dX11_spread_0 : decode cX11_spread 0 = .ok (.iconst 0, 1) := by decide +kernel
theorem dX11_spread_1 : decode cX11_spread 1 = .ok (.istore_n 1, 1) := by decide +kernel
theorem dX11_spread_2 : decode cX11_spread 2 = .ok (.iconst 0, 1) := by decide +kernel
theorem dX11_spread_3 : decode cX11_spread 3 = .ok (.istore_n 2, 1) := by decide +kernel
theorem dX11_spread_4 : decode cX11_spread 4 = .ok (.iload_n 2, 1) := by decide +kernel
theorem dX11_spread_5 : decode cX11_spread 5 = .ok (.aload_n 0, 1) := by decide +kernel
theorem dX11_spread_6 : decode cX11_spread 6 = .ok (.getfield 61, 3) := by decide +kernel
theorem dX11_spread_9 : decode cX11_spread 9 = .ok (.getfield 132, 3) := by decide +kernel
theorem dX11_spread_12 : decode cX11_spread 12 = .ok (.if_icmp .ge 32, 3) := by decide +kernel
theorem dX11_spread_15 : decode cX11_spread 15 = .ok (.aload_n 0, 1) := by decide +kernel
theorem dX11_spread_16 : decode cX11_spread 16 = .ok (.iload_n 2, 1) := by decide +kernel
theorem dX11_spread_17 : decode cX11_spread 17 = .ok (.invokevirtual 237, 3) := by decide +kernel
theorem dX11_spread_20 : decode cX11_spread 20 = .ok (.iload_n 1, 1) := by decide +kernel
theorem dX11_spread_21 : decode cX11_spread 21 = .ok (.aload_n 0, 1) := by decide +kernel
theorem dX11_spread_22 : decode cX11_spread 22 = .ok (.getfield 58, 3) := by decide +kernel
theorem dX11_spread_25 : decode cX11_spread 25 = .ok (.aload_n 0, 1) := by decide +kernel
theorem dX11_spread_26 : decode cX11_spread 26 = .ok (.getfield 33, 3) := by decide +kernel
theorem dX11_spread_29 : decode cX11_spread 29 = .ok (.aload_n 0, 1) := by decide +kernel
theorem dX11_spread_30 : decode cX11_spread 30 = .ok (.getfield 37, 3) := by decide +kernel
theorem dX11_spread_33 : decode cX11_spread 33 = .ok (.invokevirtual 184, 3) := by decide +kernel
theorem dX11_spread_36 : decode cX11_spread 36 = .ok (.iadd, 1) := by decide +kernel
theorem dX11_spread_37 : decode cX11_spread 37 = .ok (.istore_n 1, 1) := by decide +kernel
theorem dX11_spread_38 : decode cX11_spread 38 = .ok (.iinc 2 1, 3) := by decide +kernel
theorem dX11_spread_41 : decode cX11_spread 41 = .ok (.goto (-37), 3) := by decide +kernel
theorem dX11_spread_44 : decode cX11_spread 44 = .ok (.iload_n 1, 1) := by decide +kernel
theorem dX11_spread_45 : decode cX11_spread 45 = .ok (.ireturn, 1) := by decide +kernel
theorem j_WM_spread_44 {l1 : Int} {h : xH} {r0 : Int} {h0 : xH}  (hf : f_WM_spread_44 l1 h = some (r0, h0))  : J mX11_spread true 0 0 44 xKn [(1, xI l1)] [] h (xEq (some r0) h0) := by
  unfold f_WM_spread_44 at hf
  refine J_iload_n 0 dX11_spread_44 rfl rfl ?_
  exact J_ireti dX11_spread_45 rfl (xq_i hf)
theorem j_WM_spread_s4 {l1 : Int} {l2 : Int} {h : xH} {x : ((Int × Int × xH) ⊕ (Int × xH))} {Q : xQ}  (hf : f_WM_spread_s4 l1 l2 h = some x) (kb : ∀ (l1' : Int) (l2' : Int) (h' : xH), x = Sum.inl (l1', l2', h') → J mX11_spread true 0 0 4 xKn [(0, xR 1), (1, xI l1'), (2, xI l2')] [] h' Q) (ke : ∀ (l1' : Int) (h' : xH), x = (Sum.inr (l1', h')) → J mX11_spread true 0 0 44 xKn [(1, xI l1')] [] h' Q) : J mX11_spread true 0 0 4 xKn [(0, xR 1), (1, xI l1), (2, xI l2)] [] h Q := by
  unfold f_WM_spread_s4 at hf
  refine J_iload_n 2 dX11_spread_4 rfl rfl ?_
  refine J_aload_n 0 dX11_spread_5 rfl rfl ?_
  refine J_getRl (j := 8) xcf11 dX11_spread_6 kO1 (Or.inl xq443) (by decide) (by decide) rf_1_8 ?_
  refine J_getI (j := 2) xcf5 dX11_spread_9 (xK_rg kO40) kO40 (Or.inr ⟨_, xq185⟩) (by decide) (by decide) ?_
  refine J_ic_ge (tgt := 44) dX11_spread_12 (by decide) (fun hc => ?_) (fun hc => ?_)
  · have hf := xip hc hf
    refine J_aload_n 0 dX11_spread_15 rfl rfl ?_
    refine J_iload_n 2 dX11_spread_16 rfl rfl ?_
    obtain ⟨h1, hq, hf⟩ := xc1_e hf
    refine J_cVv (Mc := mX11_readPair) [xI l2] dX11_spread_17 (fc_WM_readPair.fit ⟨xbl rfl, xbl rfl⟩) rfl ⟨Or.inl xq850, xq852, xq58⟩ kO1 (ci := 11) rfl rfl (xbl rfl) (xbl rfl) (jm_WM_readPair  hq) ?_
    refine J_iload_n 1 dX11_spread_20 rfl rfl ?_
    refine J_aload_n 0 dX11_spread_21 rfl rfl ?_
    refine J_getRl (j := 7) xcf11 dX11_spread_22 kO1 (Or.inl xq442) (by decide) (by decide) rf_1_7 ?_
    refine J_aload_n 0 dX11_spread_25 rfl rfl ?_
    refine J_getRl (j := 3) xcf11 dX11_spread_26 kO1 (Or.inl xq438) (by decide) (by decide) rf_1_3 ?_
    refine J_aload_n 0 dX11_spread_29 rfl rfl ?_
    refine J_getRl (j := 4) xcf11 dX11_spread_30 kO1 (Or.inl xq439) (by decide) (by decide) rf_1_4 ?_
    obtain ⟨r2, h3, hq, hf⟩ := xc2_e hf
    refine J_cVi (Mc := mX10_measure) [xR 21, xR 23] dX11_spread_33 (fc_Way_measure.fit ⟨xbl rfl, xbl rfl⟩) rfl ⟨Or.inr ⟨_, xq646⟩, xq648, xq25⟩ kO34 (ci := 10) rfl rfl (xbl rfl) (xbl rfl) (jm_Way_measure kO34 kO21 kO23 hq) ?_
    refine J_iadd dX11_spread_36 ?_
    obtain ⟨x4, ex4, hf⟩ := xlet_e hf
    refine J_istore_n (ls' := [(1, xI x4), (0, xR 1), (2, xI l2)]) dX11_spread_37 rfl (by decide) ex4 rfl ?_
    obtain ⟨x5, ex5, hf⟩ := xlet_e hf
    refine J_iinc (ls' := [(2, xI x5), (1, xI x4), (0, xR 1)]) 2 dX11_spread_38 rfl (by decide) ex5 rfl ?_
    refine J_goto (tgt := 4) dX11_spread_41 (by decide) ?_
    refine J_sub [2, 1, 0] rfl ?_
    exact kb _ _ _ (xinl hf)
  · have hf := xin' hc hf
    refine J_sub [1] rfl ?_
    exact ke _ _ (xinl hf)
theorem j_WM_spread_4 {l1 : Int} {l2 : Int} {h : xH} {r0 : Int} {h0 : xH}  (hf : f_WM_spread_4 l1 l2 h = some (r0, h0))  : J mX11_spread true 0 0 4 xKn [(0, xR 1), (1, xI l1), (2, xI l2)] [] h (xEq (some r0) h0) := by
  unfold f_WM_spread_4 at hf
  obtain ⟨b0, hb0, hf⟩ := xc1_e hf
  refine xloop_ind (P := fun s : (Int × Int × xH) => J mX11_spread true 0 0 4 xKn [(0, xR 1), (1, xI s.1), (2, xI s.2.1)] [] s.2.2 (xEq (some r0) h0)) hb0 (fun s x1 hs ib ie => ?_)
  exact j_WM_spread_s4  hs (fun _ _ _ e => ib _ e) (fun _ _ e => by have := ie _ e; subst this; exact j_WM_spread_44  hf)
theorem jm_WM_spread  {h : xH} {r0 : Int} {h0 : xH}  (hf : f_WM_spread h = some (r0, h0)) : J mX11_spread true 0 0 0 xKn (xen 0 [xR 1]) [] h (xEq (some r0) h0) := by
  unfold f_WM_spread at hf
  refine J_cong (ls2 := [(0, xR 1)]) (st2 := []) rfl rfl ?_
  refine J_iconst dX11_spread_0 (by decide) ?_
  refine J_istore_n (ls' := [(1, xI 0), (0, xR 1)]) dX11_spread_1 rfl (by decide) rfl rfl ?_
  refine J_iconst dX11_spread_2 (by decide) ?_
  refine J_istore_n (ls' := [(2, xI 0), (1, xI 0), (0, xR 1)]) dX11_spread_3 rfl (by decide) rfl rfl ?_
  refine J_sub [2, 1, 0] rfl ?_
  exact j_WM_spread_4  hf
theorem dX5_clear_0 : decode cX5_clear 0 = .ok (.aload_n 0, 1) := by decide +kernel
theorem dX5_clear_1 : decode cX5_clear 1 = .ok (.iconst 0, 1) := by decide +kernel
theorem dX5_clear_2 : decode cX5_clear 2 = .ok (.putfield 24, 3) := by decide +kernel
theorem dX5_clear_5 : decode cX5_clear 5 = .ok (.return_, 1) := by decide +kernel
theorem jm_Rows_clear {l0 : Int} {h : xH} {h0 : xH} (kl0 : xK l0 = 3 + 5) (hf : f_Rows_clear l0 h = some h0) : J mX5_clear true 0 0 0 xKn (xen 0 [xR l0]) [] h (xEq none h0) := by
  unfold f_Rows_clear at hf
  refine J_cong (ls2 := [(0, xR l0)]) (st2 := []) rfl rfl ?_
  refine J_aload_n 0 dX5_clear_0 rfl rfl ?_
  refine J_iconst dX5_clear_1 (by decide) ?_
  obtain ⟨h1, eh1, hf⟩ := xlet_e hf
  refine J_putI (j := 2) xcf5 dX5_clear_2 (xK_rg kl0) kl0 (Or.inl xq181) (by decide) (by decide) eh1 ?_
  exact J_rt dX5_clear_5 rfl (xq_v hf)
theorem dX7_takeText_0 : decode cX7_takeText 0 = .ok (.aload_n 0, 1) := by decide +kernel
theorem dX7_takeText_1 : decode cX7_takeText 1 = .ok (.getfield 15, 3) := by decide +kernel
theorem dX7_takeText_4 : decode cX7_takeText 4 = .ok (.istore_n 3, 1) := by decide +kernel
theorem dX7_takeText_5 : decode cX7_takeText 5 = .ok (.aload_n 0, 1) := by decide +kernel
theorem dX7_takeText_6 : decode cX7_takeText 6 = .ok (.iconst 0, 1) := by decide +kernel
theorem dX7_takeText_7 : decode cX7_takeText 7 = .ok (.putfield 15, 3) := by decide +kernel
theorem dX7_takeText_10 : decode cX7_takeText 10 = .ok (.aload_n 1, 1) := by decide +kernel
theorem dX7_takeText_11 : decode cX7_takeText 11 = .ok (.invokevirtual 27, 3) := by decide +kernel
theorem dX7_takeText_14 : decode cX7_takeText 14 = .ok (.iconst 0, 1) := by decide +kernel
theorem dX7_takeText_15 : decode cX7_takeText 15 = .ok (.istore 4, 2) := by decide +kernel
theorem dX7_takeText_17 : decode cX7_takeText 17 = .ok (.iconst 0, 1) := by decide +kernel
theorem dX7_takeText_18 : decode cX7_takeText 18 = .ok (.istore 5, 2) := by decide +kernel
theorem dX7_takeText_20 : decode cX7_takeText 20 = .ok (.iload 5, 2) := by decide +kernel
theorem dX7_takeText_22 : decode cX7_takeText 22 = .ok (.bipush 12, 2) := by decide +kernel
theorem dX7_takeText_24 : decode cX7_takeText 24 = .ok (.if_icmp .ge 53, 3) := by decide +kernel
theorem dX7_takeText_27 : decode cX7_takeText 27 = .ok (.iload 4, 2) := by decide +kernel
theorem dX7_takeText_29 : decode cX7_takeText 29 = .ok (.iload_n 3, 1) := by decide +kernel
theorem dX7_takeText_30 : decode cX7_takeText 30 = .ok (.if_icmp .gt 47, 3) := by decide +kernel
theorem dX7_takeText_33 : decode cX7_takeText 33 = .ok (.aload_n 0, 1) := by decide +kernel
theorem dX7_takeText_34 : decode cX7_takeText 34 = .ok (.bipush 32, 2) := by decide +kernel
theorem dX7_takeText_36 : decode cX7_takeText 36 = .ok (.iload 4, 2) := by decide +kernel
theorem dX7_takeText_38 : decode cX7_takeText 38 = .ok (.iload_n 3, 1) := by decide +kernel
theorem dX7_takeText_39 : decode cX7_takeText 39 = .ok (.invokevirtual 23, 3) := by decide +kernel
theorem dX7_takeText_42 : decode cX7_takeText 42 = .ok (.istore 6, 2) := by decide +kernel
theorem dX7_takeText_44 : decode cX7_takeText 44 = .ok (.aload_n 0, 1) := by decide +kernel
theorem dX7_takeText_45 : decode cX7_takeText 45 = .ok (.iload 4, 2) := by decide +kernel
theorem dX7_takeText_47 : decode cX7_takeText 47 = .ok (.iload 6, 2) := by decide +kernel
theorem dX7_takeText_49 : decode cX7_takeText 49 = .ok (.bipush 12, 2) := by decide +kernel
theorem dX7_takeText_51 : decode cX7_takeText 51 = .ok (.aload_n 2, 1) := by decide +kernel
theorem dX7_takeText_52 : decode cX7_takeText 52 = .ok (.invokevirtual 19, 3) := by decide +kernel
theorem dX7_takeText_55 : decode cX7_takeText 55 = .ok (.ifCond .ne 5, 3) := by decide +kernel
theorem dX7_takeText_58 : decode cX7_takeText 58 = .ok (.iconst 0, 1) := by decide +kernel
theorem dX7_takeText_59 : decode cX7_takeText 59 = .ok (.ireturn, 1) := by decide +kernel
theorem dX7_takeText_60 : decode cX7_takeText 60 = .ok (.aload_n 1, 1) := by decide +kernel
theorem dX7_takeText_61 : decode cX7_takeText 61 = .ok (.aload_n 2, 1) := by decide +kernel
theorem dX7_takeText_62 : decode cX7_takeText 62 = .ok (.invokevirtual 32, 3) := by decide +kernel
theorem dX7_takeText_65 : decode cX7_takeText 65 = .ok (.iload 6, 2) := by decide +kernel
theorem dX7_takeText_67 : decode cX7_takeText 67 = .ok (.iconst 1, 1) := by decide +kernel
theorem dX7_takeText_68 : decode cX7_takeText 68 = .ok (.iadd, 1) := by decide +kernel
theorem dX7_takeText_69 : decode cX7_takeText 69 = .ok (.istore 4, 2) := by decide +kernel
theorem dX7_takeText_71 : decode cX7_takeText 71 = .ok (.iinc 5 1, 3) := by decide +kernel
theorem dX7_takeText_74 : decode cX7_takeText 74 = .ok (.goto (-54), 3) := by decide +kernel
theorem dX7_takeText_77 : decode cX7_takeText 77 = .ok (.iload 4, 2) := by decide +kernel
theorem dX7_takeText_79 : decode cX7_takeText 79 = .ok (.iload_n 3, 1) := by decide +kernel
theorem dX7_takeText_80 : decode cX7_takeText 80 = .ok (.if_icmp .le 7, 3) := by decide +kernel
theorem dX7_takeText_83 : decode cX7_takeText 83 = .ok (.iconst 1, 1) := by decide +kernel
theorem dX7_takeText_84 : decode cX7_takeText 84 = .ok (.goto 4, 3) := by decide +kernel
theorem dX7_takeText_87 : decode cX7_takeText 87 = .ok (.iconst 0, 1) := by decide +kernel
theorem dX7_takeText_88 : decode cX7_takeText 88 = .ok (.ireturn, 1) := by decide +kernel
theorem j_Tape_takeText_77 {l3 : Int} {l4 : Int} {h : xH} {r0 : Int} {h0 : xH}  (hf : f_Tape_takeText_77 l3 l4 h = some (r0, h0))  : J mX7_takeText true 0 0 77 xKn [(3, xI l3), (4, xI l4)] [] h (xEq (some r0) h0) := by
  unfold f_Tape_takeText_77 at hf
  refine J_iload 1 dX7_takeText_77 rfl ?_
  refine J_iload_n 0 dX7_takeText_79 rfl rfl ?_
  refine J_ic_le (tgt := 87) dX7_takeText_80 (by decide) (fun hc => ?_) (fun hc => ?_)
  · have hf := xip hc hf
    refine J_iconst dX7_takeText_83 (by decide) ?_
    refine J_goto (tgt := 88) dX7_takeText_84 (by decide) ?_
    exact J_iretz dX7_takeText_88 rfl (by decide) (xq_i hf)
  · have hf := xin' hc hf
    refine J_iconst dX7_takeText_87 (by decide) ?_
    exact J_iretz dX7_takeText_88 rfl (by decide) (xq_i hf)
theorem j_Tape_takeText_s20 {l1 : Int} {l2 : Int} {l3 : Int} {l4 : Int} {l5 : Int} {h : xH} {x : ((Int × Int × xH) ⊕ ((Int × xH) ⊕ (Int × xH)))} {Q : xQ} (kl1 : xK l1 = 3 + 5) (kl2 : xK l2 = 3 + 4) (hf : f_Tape_takeText_s20 l1 l2 l3 l4 l5 h = some x) (kb : ∀ (l4' : Int) (l5' : Int) (h' : xH), x = Sum.inl (l4', l5', h') → J mX7_takeText true 0 0 20 xKn [(0, xR 2), (1, xR l1), (2, xR l2), (3, xI l3), (4, xI l4'), (5, xI l5')] [] h' Q) (ke : ∀ (l4' : Int) (h' : xH), x = (Sum.inr (Sum.inl (l4', h'))) → J mX7_takeText true 0 0 77 xKn [(3, xI l3), (4, xI l4')] [] h' Q) (kr : ∀ (v : Int) (h' : xH), x = (Sum.inr (Sum.inr (v, h'))) → Q (some v) xKn h') : J mX7_takeText true 0 0 20 xKn [(0, xR 2), (1, xR l1), (2, xR l2), (3, xI l3), (4, xI l4), (5, xI l5)] [] h Q := by
  unfold f_Tape_takeText_s20 at hf
  refine J_iload 5 dX7_takeText_20 rfl ?_
  refine J_bip dX7_takeText_22 (by decide) ?_
  refine J_ic_ge (tgt := 77) dX7_takeText_24 (by decide) (fun hc => ?_) (fun hc => ?_)
  · have hf := xip hc hf
    refine J_iload 4 dX7_takeText_27 rfl ?_
    refine J_iload_n 3 dX7_takeText_29 rfl rfl ?_
    refine J_ic_gt (tgt := 77) dX7_takeText_30 (by decide) (fun hc => ?_) (fun hc => ?_)
    · have hf := xip hc hf
      refine J_sub [3, 4] rfl ?_
      exact ke _ _ (xinl hf)
    · have hf := xin' hc hf
      refine J_aload_n 0 dX7_takeText_33 rfl rfl ?_
      refine J_bip dX7_takeText_34 (by decide) ?_
      refine J_iload 4 dX7_takeText_36 rfl ?_
      refine J_iload_n 3 dX7_takeText_38 rfl rfl ?_
      obtain ⟨r1, hq, hf⟩ := xc1_e hf
      refine J_cVi (Mc := mX7_seek) [xI 32, xI l4, xI l3] dX7_takeText_39 (fc_Tape_seek.fit ⟨xbl rfl, xbl rfl⟩) rfl ⟨Or.inl xq624, xq626, xq22⟩ kO2 (ci := 7) rfl rfl (xbl rfl) (xbl rfl) (jm_Tape_seek  hq) ?_
      refine J_istore (ls' := [(6, xI r1), (0, xR 2), (1, xR l1), (2, xR l2), (3, xI l3), (4, xI l4), (5, xI l5)]) dX7_takeText_42 (by decide) rfl rfl ?_
      refine J_aload_n 1 dX7_takeText_44 rfl rfl ?_
      refine J_iload 5 dX7_takeText_45 rfl ?_
      refine J_iload 0 dX7_takeText_47 rfl ?_
      refine J_bip dX7_takeText_49 (by decide) ?_
      refine J_aload_n 3 dX7_takeText_51 rfl rfl ?_
      obtain ⟨r2, h3, hq, hf⟩ := xc2_e hf
      refine J_cVi (Mc := mX7_read) [xI l4, xI r1, xI 12, xR l2] dX7_takeText_52 (fc_Tape_read.fit ⟨xbl rfl, xbl rfl⟩) rfl ⟨Or.inl xq503, xq505, xq2⟩ kO2 (ci := 7) rfl rfl (xbl rfl) (xbl rfl) (jm_Tape_read kl2 hq) ?_
      refine J_if_ne (tgt := 60) dX7_takeText_55 (by decide) (fun hc => ?_) (fun hc => ?_)
      · have hf := xip hc hf
        refine J_iconst dX7_takeText_58 (by decide) ?_
        exact J_iretz dX7_takeText_59 rfl (by decide) (kr _ _ (xinl hf))
      · have hf := xin' hc hf
        refine J_aload_n 2 dX7_takeText_60 rfl rfl ?_
        refine J_aload_n 3 dX7_takeText_61 rfl rfl ?_
        obtain ⟨h4, hq, hf⟩ := xc1_e hf
        refine J_cVv (Mc := mX5_append) [xR l2] dX7_takeText_62 (fc_Rows_append.fit ⟨xbl rfl, xbl rfl⟩) rfl ⟨Or.inr ⟨_, xq880⟩, xq635, xq24⟩ kl1 (ci := 5) rfl rfl (xbl rfl) (xbl rfl) (jm_Rows_append kl1 kl2 hq) ?_
        refine J_iload 0 dX7_takeText_65 rfl ?_
        refine J_iconst dX7_takeText_67 (by decide) ?_
        refine J_iadd dX7_takeText_68 ?_
        obtain ⟨x5, ex5, hf⟩ := xlet_e hf
        refine J_istore (ls' := [(4, xI x5), (6, xI r1), (0, xR 2), (1, xR l1), (2, xR l2), (3, xI l3), (5, xI l5)]) dX7_takeText_69 (by decide) ex5 rfl ?_
        obtain ⟨x6, ex6, hf⟩ := xlet_e hf
        refine J_iinc (ls' := [(5, xI x6), (4, xI x5), (6, xI r1), (0, xR 2), (1, xR l1), (2, xR l2), (3, xI l3)]) 6 dX7_takeText_71 rfl (by decide) ex6 rfl ?_
        refine J_goto (tgt := 20) dX7_takeText_74 (by decide) ?_
        refine J_sub [3, 4, 5, 6, 1, 0] rfl ?_
        exact kb _ _ _ (xinl hf)
  · have hf := xin' hc hf
    refine J_sub [3, 4] rfl ?_
    exact ke _ _ (xinl hf)
theorem j_Tape_takeText_20 {l1 : Int} {l2 : Int} {l3 : Int} {l4 : Int} {l5 : Int} {h : xH} {r0 : Int} {h0 : xH} (kl1 : xK l1 = 3 + 5) (kl2 : xK l2 = 3 + 4) (hf : f_Tape_takeText_20 l1 l2 l3 l4 l5 h = some (r0, h0))  : J mX7_takeText true 0 0 20 xKn [(0, xR 2), (1, xR l1), (2, xR l2), (3, xI l3), (4, xI l4), (5, xI l5)] [] h (xEq (some r0) h0) := by
  unfold f_Tape_takeText_20 at hf
  obtain ⟨b0, hb0, hf⟩ := xc1_e hf
  refine xloop_ind (P := fun s : (Int × Int × xH) => J mX7_takeText true 0 0 20 xKn [(0, xR 2), (1, xR l1), (2, xR l2), (3, xI l3), (4, xI s.1), (5, xI s.2.1)] [] s.2.2 (xEq (some r0) h0)) hb0 (fun s x1 hs ib ie => ?_)
  exact j_Tape_takeText_s20 kl1 kl2 hs (fun _ _ _ e => ib _ e) (fun _ _ e => by have := ie _ e; subst this; exact j_Tape_takeText_77  hf) (fun _ _ e => by have := ie _ e; subst this; exact xq_i hf)
theorem jm_Tape_takeText {l1 : Int} {l2 : Int} {h : xH} {r0 : Int} {h0 : xH} (kl1 : xK l1 = 3 + 5) (kl2 : xK l2 = 3 + 4) (hf : f_Tape_takeText l1 l2 h = some (r0, h0)) : J mX7_takeText true 0 0 0 xKn (xen 0 [xR 2, xR l1, xR l2]) [] h (xEq (some r0) h0) := by
  unfold f_Tape_takeText at hf
  refine J_cong (ls2 := [(0, xR 2), (1, xR l1), (2, xR l2)]) (st2 := []) rfl rfl ?_
  refine J_aload_n 0 dX7_takeText_0 rfl rfl ?_
  refine J_getI (j := 1) xcf7 dX7_takeText_1 (xK_rg kO2) kO2 (Or.inl xq156) (by decide) (by decide) ?_
  obtain ⟨x1, ex1, hf⟩ := xlet_e hf
  refine J_istore_n (ls' := [(3, xI x1), (0, xR 2), (1, xR l1), (2, xR l2)]) dX7_takeText_4 rfl (by decide) ex1 rfl ?_
  refine J_aload_n 1 dX7_takeText_5 rfl rfl ?_
  refine J_iconst dX7_takeText_6 (by decide) ?_
  obtain ⟨h2, eh2, hf⟩ := xlet_e hf
  refine J_putI (j := 1) xcf7 dX7_takeText_7 (xK_rg kO2) kO2 (Or.inl xq156) (by decide) (by decide) eh2 ?_
  refine J_aload_n 2 dX7_takeText_10 rfl rfl ?_
  obtain ⟨h3, hq, hf⟩ := xc1_e hf
  refine J_cVv (Mc := mX5_clear) [] dX7_takeText_11 (fc_Rows_clear.fit ⟨xbl rfl, xbl rfl⟩) rfl ⟨Or.inr ⟨_, xq876⟩, xq878, xq62⟩ kl1 (ci := 5) rfl rfl (xbl rfl) (xbl rfl) (jm_Rows_clear kl1 hq) ?_
  refine J_iconst dX7_takeText_14 (by decide) ?_
  refine J_istore (ls' := [(4, xI 0), (3, xI x1), (0, xR 2), (1, xR l1), (2, xR l2)]) dX7_takeText_15 (by decide) rfl rfl ?_
  refine J_iconst dX7_takeText_17 (by decide) ?_
  refine J_istore (ls' := [(5, xI 0), (4, xI 0), (3, xI x1), (0, xR 2), (1, xR l1), (2, xR l2)]) dX7_takeText_18 (by decide) rfl rfl ?_
  refine J_sub [3, 4, 5, 2, 1, 0] rfl ?_
  exact j_Tape_takeText_20 kl1 kl2 hf
theorem dX2_clear_0 : decode cX2_clear 0 = .ok (.aload_n 0, 1) := by decide +kernel
theorem dX2_clear_1 : decode cX2_clear 1 = .ok (.iconst 0, 1) := by decide +kernel
theorem dX2_clear_2 : decode cX2_clear 2 = .ok (.iload_n 1, 1) := by decide +kernel
theorem dX2_clear_3 : decode cX2_clear 3 = .ok (.bipush 12, 2) := by decide +kernel
theorem dX2_clear_5 : decode cX2_clear 5 = .ok (.invokestatic 30, 3) := by decide +kernel
theorem dX2_clear_8 : decode cX2_clear 8 = .ok (.invokestatic 36, 3) := by decide +kernel
theorem dX2_clear_11 : decode cX2_clear 11 = .ok (.putfield 39, 3) := by decide +kernel
theorem dX2_clear_14 : decode cX2_clear 14 = .ok (.aload_n 0, 1) := by decide +kernel
theorem dX2_clear_15 : decode cX2_clear 15 = .ok (.iconst 0, 1) := by decide +kernel
theorem dX2_clear_16 : decode cX2_clear 16 = .ok (.putfield 43, 3) := by decide +kernel
theorem dX2_clear_19 : decode cX2_clear 19 = .ok (.aload_n 0, 1) := by decide +kernel
theorem dX2_clear_20 : decode cX2_clear 20 = .ok (.getfield 9, 3) := by decide +kernel
theorem dX2_clear_23 : decode cX2_clear 23 = .ok (.iconst (-1), 1) := by decide +kernel
theorem dX2_clear_24 : decode cX2_clear 24 = .ok (.invokestatic 46, 3) := by decide +kernel
theorem dX2_clear_27 : decode cX2_clear 27 = .ok (.aload_n 0, 1) := by decide +kernel
theorem dX2_clear_28 : decode cX2_clear 28 = .ok (.getfield 21, 3) := by decide +kernel
theorem dX2_clear_31 : decode cX2_clear 31 = .ok (.iconst 0, 1) := by decide +kernel
theorem dX2_clear_32 : decode cX2_clear 32 = .ok (.invokestatic 46, 3) := by decide +kernel
theorem dX2_clear_35 : decode cX2_clear 35 = .ok (.return_, 1) := by decide +kernel
theorem jm_Mend_clear {l1 : Int} {h : xH} {h0 : xH}  (hf : f_Mend_clear l1 h = some h0) : J mX2_clear true 0 0 0 xKn (xen 0 [xR 70, xI l1]) [] h (xEq none h0) := by
  unfold f_Mend_clear at hf
  refine J_cong (ls2 := [(0, xR 70), (1, xI l1)]) (st2 := []) rfl rfl ?_
  refine J_aload_n 0 dX2_clear_0 rfl rfl ?_
  refine J_iconst dX2_clear_1 (by decide) ?_
  refine J_iload_n 1 dX2_clear_2 rfl rfl ?_
  refine J_bip dX2_clear_3 (by decide) ?_
  refine J_mmin dX2_clear_5 ⟨xq885, xq542, xq129, xq543⟩ (xbl rfl) (xbl rfl) ?_
  refine J_mmax dX2_clear_8 ⟨xq886, xq177, xq129, xq178⟩ (xbl rfl) (xbl rfl) ?_
  obtain ⟨h1, eh1, hf⟩ := xlet_e hf
  refine J_putI (j := 6) xcf2 dX2_clear_11 (xK_rg kO70) kO70 (Or.inl xq396) (by decide) (by decide) eh1 ?_
  refine J_aload_n 0 dX2_clear_14 rfl rfl ?_
  refine J_iconst dX2_clear_15 (by decide) ?_
  obtain ⟨h2, eh2, hf⟩ := xlet_e hf
  refine J_putI (j := 7) xcf2 dX2_clear_16 (xK_rg kO70) kO70 (Or.inl xq397) (by decide) (by decide) eh2 ?_
  refine J_aload_n 0 dX2_clear_19 rfl rfl ?_
  refine J_getRl (j := 0) xcf2 dX2_clear_20 kO70 (Or.inl xq390) (by decide) (by decide) rf_70_0 ?_
  refine J_iconst dX2_clear_23 (by decide) ?_
  obtain ⟨h3, hq, hf⟩ := xc1_e hf
  refine J_cSv (Mc := mJ7_fill_53178) [xR 71, xI (-1)] dX2_clear_24 (fc_Arr_fill.fit ⟨xbl rfl, xbl rfl⟩) rfl ⟨Or.inl xq887, xq844⟩ rfl (xbl rfl) (xbl rfl) (jm_Arr_fill kO71 hq) ?_
  refine J_aload_n 0 dX2_clear_27 rfl rfl ?_
  refine J_getRl (j := 3) xcf2 dX2_clear_28 kO70 (Or.inl xq393) (by decide) (by decide) rf_70_3 ?_
  refine J_iconst dX2_clear_31 (by decide) ?_
  obtain ⟨h4, hq, hf⟩ := xc1_e hf
  refine J_cSv (Mc := mJ7_fill_53178) [xR 74, xI 0] dX2_clear_32 (fc_Arr_fill.fit ⟨xbl rfl, xbl rfl⟩) rfl ⟨Or.inl xq887, xq844⟩ rfl (xbl rfl) (xbl rfl) (jm_Arr_fill kO74 hq) ?_
  exact J_rt dX2_clear_35 rfl (xq_v hf)
theorem dX2_cellOf_0 : decode cX2_cellOf 0 = .ok (.iload_n 1, 1) := by decide +kernel
theorem dX2_cellOf_1 : decode cX2_cellOf 1 = .ok (.ifCond .lt 35, 3) := by decide +kernel
theorem dX2_cellOf_4 : decode cX2_cellOf 4 = .ok (.iload_n 1, 1) := by decide +kernel
theorem dX2_cellOf_5 : decode cX2_cellOf 5 = .ok (.iconst 5, 1) := by decide +kernel
theorem dX2_cellOf_6 : decode cX2_cellOf 6 = .ok (.if_icmp .ge 30, 3) := by decide +kernel
theorem dX2_cellOf_9 : decode cX2_cellOf 9 = .ok (.iload_n 2, 1) := by decide +kernel
theorem dX2_cellOf_10 : decode cX2_cellOf 10 = .ok (.ifCond .lt 26, 3) := by decide +kernel
theorem dX2_cellOf_13 : decode cX2_cellOf 13 = .ok (.iload_n 2, 1) := by decide +kernel
theorem dX2_cellOf_14 : decode cX2_cellOf 14 = .ok (.aload_n 0, 1) := by decide +kernel
theorem dX2_cellOf_15 : decode cX2_cellOf 15 = .ok (.getfield 39, 3) := by decide +kernel
theorem dX2_cellOf_18 : decode cX2_cellOf 18 = .ok (.if_icmp .ge 18, 3) := by decide +kernel
theorem dX2_cellOf_21 : decode cX2_cellOf 21 = .ok (.iload_n 2, 1) := by decide +kernel
theorem dX2_cellOf_22 : decode cX2_cellOf 22 = .ok (.bipush 12, 2) := by decide +kernel
theorem dX2_cellOf_24 : decode cX2_cellOf 24 = .ok (.if_icmp .ge 12, 3) := by decide +kernel
theorem dX2_cellOf_27 : decode cX2_cellOf 27 = .ok (.iload_n 1, 1) := by decide +kernel
theorem dX2_cellOf_28 : decode cX2_cellOf 28 = .ok (.bipush 12, 2) := by decide +kernel
theorem dX2_cellOf_30 : decode cX2_cellOf 30 = .ok (.imul, 1) := by decide +kernel
theorem dX2_cellOf_31 : decode cX2_cellOf 31 = .ok (.iload_n 2, 1) := by decide +kernel
theorem dX2_cellOf_32 : decode cX2_cellOf 32 = .ok (.iadd, 1) := by decide +kernel
theorem dX2_cellOf_33 : decode cX2_cellOf 33 = .ok (.goto 4, 3) := by decide +kernel
theorem dX2_cellOf_36 : decode cX2_cellOf 36 = .ok (.iconst (-1), 1) := by decide +kernel
theorem dX2_cellOf_37 : decode cX2_cellOf 37 = .ok (.ireturn, 1) := by decide +kernel
theorem jm_Mend_cellOf {l1 : Int} {l2 : Int} {h : xH} {r0 : Int}  (hf : f_Mend_cellOf l1 l2 h = some r0) : J mX2_cellOf true 0 0 0 xKn (xen 0 [xR 70, xI l1, xI l2]) [] h (xEq (some r0) h) := by
  unfold f_Mend_cellOf at hf
  refine J_cong (ls2 := [(0, xR 70), (1, xI l1), (2, xI l2)]) (st2 := []) rfl rfl ?_
  refine J_iload_n 1 dX2_cellOf_0 rfl rfl ?_
  refine J_if_lt (tgt := 36) dX2_cellOf_1 (by decide) (fun hc => ?_) (fun hc => ?_)
  · have hf := xip hc hf
    refine J_iconst dX2_cellOf_36 (by decide) ?_
    exact J_ireti dX2_cellOf_37 rfl (xq_p hf)
  · have hf := xin' hc hf
    refine J_iload_n 1 dX2_cellOf_4 rfl rfl ?_
    refine J_iconst dX2_cellOf_5 (by decide) ?_
    refine J_ic_ge (tgt := 36) dX2_cellOf_6 (by decide) (fun hc => ?_) (fun hc => ?_)
    · have hf := xip hc hf
      refine J_iload_n 2 dX2_cellOf_9 rfl rfl ?_
      refine J_if_lt (tgt := 36) dX2_cellOf_10 (by decide) (fun hc => ?_) (fun hc => ?_)
      · have hf := xip hc hf
        refine J_iconst dX2_cellOf_36 (by decide) ?_
        exact J_ireti dX2_cellOf_37 rfl (xq_p hf)
      · have hf := xin' hc hf
        refine J_iload_n 2 dX2_cellOf_13 rfl rfl ?_
        refine J_aload_n 0 dX2_cellOf_14 rfl rfl ?_
        refine J_getI (j := 6) xcf2 dX2_cellOf_15 (xK_rg kO70) kO70 (Or.inl xq396) (by decide) (by decide) ?_
        refine J_ic_ge (tgt := 36) dX2_cellOf_18 (by decide) (fun hc => ?_) (fun hc => ?_)
        · have hf := xip hc hf
          refine J_iload_n 2 dX2_cellOf_21 rfl rfl ?_
          refine J_bip dX2_cellOf_22 (by decide) ?_
          refine J_ic_ge (tgt := 36) dX2_cellOf_24 (by decide) (fun hc => ?_) (fun hc => ?_)
          · have hf := xip hc hf
            refine J_iload_n 1 dX2_cellOf_27 rfl rfl ?_
            refine J_bip dX2_cellOf_28 (by decide) ?_
            refine J_imul dX2_cellOf_30 ?_
            refine J_iload_n 2 dX2_cellOf_31 rfl rfl ?_
            refine J_iadd dX2_cellOf_32 ?_
            refine J_goto (tgt := 37) dX2_cellOf_33 (by decide) ?_
            exact J_ireti dX2_cellOf_37 rfl (xq_p hf)
          · have hf := xin' hc hf
            refine J_iconst dX2_cellOf_36 (by decide) ?_
            exact J_ireti dX2_cellOf_37 rfl (xq_p hf)
        · have hf := xin' hc hf
          refine J_iconst dX2_cellOf_36 (by decide) ?_
          exact J_ireti dX2_cellOf_37 rfl (xq_p hf)
    · have hf := xin' hc hf
      refine J_iconst dX2_cellOf_36 (by decide) ?_
      exact J_ireti dX2_cellOf_37 rfl (xq_p hf)
theorem dX2_offer_0 : decode cX2_offer 0 = .ok (.aload_n 0, 1) := by decide +kernel
theorem dX2_offer_1 : decode cX2_offer 1 = .ok (.iload_n 1, 1) := by decide +kernel
theorem dX2_offer_2 : decode cX2_offer 2 = .ok (.iload_n 2, 1) := by decide +kernel
theorem dX2_offer_3 : decode cX2_offer 3 = .ok (.invokevirtual 52, 3) := by decide +kernel
theorem dX2_offer_6 : decode cX2_offer 6 = .ok (.istore 6, 2) := by decide +kernel
theorem dX2_offer_8 : decode cX2_offer 8 = .ok (.iload 6, 2) := by decide +kernel
theorem dX2_offer_10 : decode cX2_offer 10 = .ok (.iconst (-1), 1) := by decide +kernel
theorem dX2_offer_11 : decode cX2_offer 11 = .ok (.if_icmp .eq 29, 3) := by decide +kernel
theorem dX2_offer_14 : decode cX2_offer 14 = .ok (.aload_n 0, 1) := by decide +kernel
theorem dX2_offer_15 : decode cX2_offer 15 = .ok (.getfield 9, 3) := by decide +kernel
theorem dX2_offer_18 : decode cX2_offer 18 = .ok (.iload 6, 2) := by decide +kernel
theorem dX2_offer_20 : decode cX2_offer 20 = .ok (.iload_n 3, 1) := by decide +kernel
theorem dX2_offer_21 : decode cX2_offer 21 = .ok (.iastore, 1) := by decide +kernel
theorem dX2_offer_22 : decode cX2_offer 22 = .ok (.aload_n 0, 1) := by decide +kernel
theorem dX2_offer_23 : decode cX2_offer 23 = .ok (.getfield 15, 3) := by decide +kernel
theorem dX2_offer_26 : decode cX2_offer 26 = .ok (.iload 6, 2) := by decide +kernel
theorem dX2_offer_28 : decode cX2_offer 28 = .ok (.iload 4, 2) := by decide +kernel
theorem dX2_offer_30 : decode cX2_offer 30 = .ok (.iastore, 1) := by decide +kernel
theorem dX2_offer_31 : decode cX2_offer 31 = .ok (.aload_n 0, 1) := by decide +kernel
theorem dX2_offer_32 : decode cX2_offer 32 = .ok (.getfield 18, 3) := by decide +kernel
theorem dX2_offer_35 : decode cX2_offer 35 = .ok (.iload 6, 2) := by decide +kernel
theorem dX2_offer_37 : decode cX2_offer 37 = .ok (.iload 5, 2) := by decide +kernel
theorem dX2_offer_39 : decode cX2_offer 39 = .ok (.iastore, 1) := by decide +kernel
theorem dX2_offer_40 : decode cX2_offer 40 = .ok (.return_, 1) := by decide +kernel
theorem jm_Mend_offer {l1 : Int} {l2 : Int} {l3 : Int} {l4 : Int} {l5 : Int} {h : xH} {h0 : xH}  (hf : f_Mend_offer l1 l2 l3 l4 l5 h = some h0) : J mX2_offer true 0 0 0 xKn (xen 0 [xR 70, xI l1, xI l2, xI l3, xI l4, xI l5]) [] h (xEq none h0) := by
  unfold f_Mend_offer at hf
  refine J_cong (ls2 := [(0, xR 70), (1, xI l1), (2, xI l2), (3, xI l3), (4, xI l4), (5, xI l5)]) (st2 := []) rfl rfl ?_
  refine J_aload_n 0 dX2_offer_0 rfl rfl ?_
  refine J_iload_n 1 dX2_offer_1 rfl rfl ?_
  refine J_iload_n 2 dX2_offer_2 rfl rfl ?_
  obtain ⟨r1, hq, hf⟩ := xc1_e hf
  refine J_cVi (Mc := mX2_cellOf) [xI l1, xI l2] dX2_offer_3 (fc_Mend_cellOf.fit ⟨xbl rfl, xbl rfl⟩) rfl ⟨Or.inl xq892, xq894, xq65⟩ kO70 (ci := 2) rfl rfl (xbl rfl) (xbl rfl) (jm_Mend_cellOf  hq) ?_
  refine J_istore (ls' := [(6, xI r1), (0, xR 70), (1, xI l1), (2, xI l2), (3, xI l3), (4, xI l4), (5, xI l5)]) dX2_offer_6 (by decide) rfl rfl ?_
  refine J_iload 0 dX2_offer_8 rfl ?_
  refine J_iconst dX2_offer_10 (by decide) ?_
  refine J_ic_eq (tgt := 40) dX2_offer_11 (by decide) (fun hc => ?_) (fun hc => ?_)
  · have hf := xip hc hf
    exact J_rt dX2_offer_40 rfl (xq_v hf)
  · have hf := xin' hc hf
    refine J_aload_n 1 dX2_offer_14 rfl rfl ?_
    refine J_getRl (j := 0) xcf2 dX2_offer_15 kO70 (Or.inl xq390) (by decide) (by decide) rf_70_0 ?_
    refine J_iload 0 dX2_offer_18 rfl ?_
    refine J_iload_n 4 dX2_offer_20 rfl rfl ?_
    obtain ⟨hg, hf⟩ := xgd_e hf
    obtain ⟨h2, eh2, hf⟩ := xlet_e hf
    refine J_iast dX2_offer_21 (xK_r1 kO71) kO71 hg nA71 eh2 ?_
    refine J_aload_n 1 dX2_offer_22 rfl rfl ?_
    refine J_getRl (j := 1) xcf2 dX2_offer_23 kO70 (Or.inl xq391) (by decide) (by decide) rf_70_1 ?_
    refine J_iload 0 dX2_offer_26 rfl ?_
    refine J_iload 5 dX2_offer_28 rfl ?_
    obtain ⟨hg, hf⟩ := xgd_e hf
    obtain ⟨h3, eh3, hf⟩ := xlet_e hf
    refine J_iast dX2_offer_30 (xK_r1 kO72) kO72 hg nA72 eh3 ?_
    refine J_aload_n 1 dX2_offer_31 rfl rfl ?_
    refine J_getRl (j := 2) xcf2 dX2_offer_32 kO70 (Or.inl xq392) (by decide) (by decide) rf_70_2 ?_
    refine J_iload 0 dX2_offer_35 rfl ?_
    refine J_iload 6 dX2_offer_37 rfl ?_
    obtain ⟨hg, hf⟩ := xgd_e hf
    obtain ⟨h4, eh4, hf⟩ := xlet_e hf
    refine J_iast dX2_offer_39 (xK_r1 kO73) kO73 hg nA73 eh4 ?_
    exact J_rt dX2_offer_40 rfl (xq_v hf)
theorem dX2_offers_0 : decode cX2_offers 0 = .ok (.aload_n 0, 1) := by decide +kernel
theorem dX2_offers_1 : decode cX2_offers 1 = .ok (.iload_n 1, 1) := by decide +kernel
theorem dX2_offers_2 : decode cX2_offers 2 = .ok (.iload_n 2, 1) := by decide +kernel
theorem dX2_offers_3 : decode cX2_offers 3 = .ok (.invokevirtual 52, 3) := by decide +kernel
theorem dX2_offers_6 : decode cX2_offers 6 = .ok (.istore_n 3, 1) := by decide +kernel
theorem dX2_offers_7 : decode cX2_offers 7 = .ok (.iload_n 3, 1) := by decide +kernel
theorem dX2_offers_8 : decode cX2_offers 8 = .ok (.iconst (-1), 1) := by decide +kernel
theorem dX2_offers_9 : decode cX2_offers 9 = .ok (.if_icmp .eq 17, 3) := by decide +kernel
theorem dX2_offers_12 : decode cX2_offers 12 = .ok (.aload_n 0, 1) := by decide +kernel
theorem dX2_offers_13 : decode cX2_offers 13 = .ok (.getfield 9, 3) := by decide +kernel
theorem dX2_offers_16 : decode cX2_offers 16 = .ok (.iload_n 3, 1) := by decide +kernel
theorem dX2_offers_17 : decode cX2_offers 17 = .ok (.iaload, 1) := by decide +kernel
theorem dX2_offers_18 : decode cX2_offers 18 = .ok (.iconst (-1), 1) := by decide +kernel
theorem dX2_offers_19 : decode cX2_offers 19 = .ok (.if_icmp .eq 7, 3) := by decide +kernel
theorem dX2_offers_22 : decode cX2_offers 22 = .ok (.iconst 1, 1) := by decide +kernel
theorem dX2_offers_23 : decode cX2_offers 23 = .ok (.goto 4, 3) := by decide +kernel
theorem dX2_offers_26 : decode cX2_offers 26 = .ok (.iconst 0, 1) := by decide +kernel
theorem dX2_offers_27 : decode cX2_offers 27 = .ok (.ireturn, 1) := by decide +kernel
theorem jm_Mend_offers {l1 : Int} {l2 : Int} {h : xH} {r0 : Int}  (hf : f_Mend_offers l1 l2 h = some r0) : J mX2_offers true 0 0 0 xKn (xen 0 [xR 70, xI l1, xI l2]) [] h (xEq (some r0) h) := by
  unfold f_Mend_offers at hf
  refine J_cong (ls2 := [(0, xR 70), (1, xI l1), (2, xI l2)]) (st2 := []) rfl rfl ?_
  refine J_aload_n 0 dX2_offers_0 rfl rfl ?_
  refine J_iload_n 1 dX2_offers_1 rfl rfl ?_
  refine J_iload_n 2 dX2_offers_2 rfl rfl ?_
  obtain ⟨r1, hq, hf⟩ := xc1_e hf
  refine J_cVi (Mc := mX2_cellOf) [xI l1, xI l2] dX2_offers_3 (fc_Mend_cellOf.fit ⟨xbl rfl, xbl rfl⟩) rfl ⟨Or.inl xq892, xq894, xq65⟩ kO70 (ci := 2) rfl rfl (xbl rfl) (xbl rfl) (jm_Mend_cellOf  hq) ?_
  refine J_istore_n (ls' := [(3, xI r1), (0, xR 70), (1, xI l1), (2, xI l2)]) dX2_offers_6 rfl (by decide) rfl rfl ?_
  refine J_iload_n 0 dX2_offers_7 rfl rfl ?_
  refine J_iconst dX2_offers_8 (by decide) ?_
  refine J_ic_eq (tgt := 26) dX2_offers_9 (by decide) (fun hc => ?_) (fun hc => ?_)
  · have hf := xip hc hf
    refine J_iconst dX2_offers_26 (by decide) ?_
    exact J_iretz dX2_offers_27 rfl (by decide) (xq_p hf)
  · have hf := xin' hc hf
    refine J_aload_n 1 dX2_offers_12 rfl rfl ?_
    refine J_getRl (j := 0) xcf2 dX2_offers_13 kO70 (Or.inl xq390) (by decide) (by decide) rf_70_0 ?_
    refine J_iload_n 0 dX2_offers_16 rfl rfl ?_
    obtain ⟨hg, hf⟩ := xgd_e hf
    refine J_iald dX2_offers_17 (xK_r1 kO71) kO71 hg nA71 ?_
    refine J_iconst dX2_offers_18 (by decide) ?_
    refine J_ic_eq (tgt := 26) dX2_offers_19 (by decide) (fun hc => ?_) (fun hc => ?_)
    · have hf := xip hc hf
      refine J_iconst dX2_offers_26 (by decide) ?_
      exact J_iretz dX2_offers_27 rfl (by decide) (xq_p hf)
    · have hf := xin' hc hf
      refine J_iconst dX2_offers_22 (by decide) ?_
      refine J_goto (tgt := 27) dX2_offers_23 (by decide) ?_
      exact J_iretz dX2_offers_27 rfl (by decide) (xq_p hf)
theorem dX6_kindPrice_0 : decode cX6_kindPrice 0 = .ok (.iload_n 1, 1) := by decide +kernel
theorem dX6_kindPrice_1 : decode cX6_kindPrice 1 = .ok (.ifCond .lt 21, 3) := by decide +kernel
theorem dX6_kindPrice_4 : decode cX6_kindPrice 4 = .ok (.iload_n 1, 1) := by decide +kernel
theorem dX6_kindPrice_5 : decode cX6_kindPrice 5 = .ok (.aload_n 0, 1) := by decide +kernel
theorem dX6_kindPrice_6 : decode cX6_kindPrice 6 = .ok (.getfield 9, 3) := by decide +kernel
theorem dX6_kindPrice_9 : decode cX6_kindPrice 9 = .ok (.arraylength, 1) := by decide +kernel
theorem dX6_kindPrice_10 : decode cX6_kindPrice 10 = .ok (.if_icmp .ge 12, 3) := by decide +kernel
theorem dX6_kindPrice_13 : decode cX6_kindPrice 13 = .ok (.aload_n 0, 1) := by decide +kernel
theorem dX6_kindPrice_14 : decode cX6_kindPrice 14 = .ok (.getfield 9, 3) := by decide +kernel
theorem dX6_kindPrice_17 : decode cX6_kindPrice 17 = .ok (.iload_n 1, 1) := by decide +kernel
theorem dX6_kindPrice_18 : decode cX6_kindPrice 18 = .ok (.iaload, 1) := by decide +kernel
theorem dX6_kindPrice_19 : decode cX6_kindPrice 19 = .ok (.goto 4, 3) := by decide +kernel
theorem dX6_kindPrice_22 : decode cX6_kindPrice 22 = .ok (.iconst 0, 1) := by decide +kernel
theorem dX6_kindPrice_23 : decode cX6_kindPrice 23 = .ok (.ireturn, 1) := by decide +kernel
theorem jm_Slips_kindPrice {l1 : Int} {h : xH} {r0 : Int}  (hf : f_Slips_kindPrice l1 h = some r0) : J mX6_kindPrice true 0 0 0 xKn (xen 0 [xR 9, xI l1]) [] h (xEq (some r0) h) := by
  unfold f_Slips_kindPrice at hf
  refine J_cong (ls2 := [(0, xR 9), (1, xI l1)]) (st2 := []) rfl rfl ?_
  refine J_iload_n 1 dX6_kindPrice_0 rfl rfl ?_
  refine J_if_lt (tgt := 22) dX6_kindPrice_1 (by decide) (fun hc => ?_) (fun hc => ?_)
  · have hf := xip hc hf
    refine J_iconst dX6_kindPrice_22 (by decide) ?_
    exact J_ireti dX6_kindPrice_23 rfl (xq_p hf)
  · have hf := xin' hc hf
    refine J_iload_n 1 dX6_kindPrice_4 rfl rfl ?_
    refine J_aload_n 0 dX6_kindPrice_5 rfl rfl ?_
    refine J_getRl (j := 0) xcf6 dX6_kindPrice_6 kO9 (Or.inl xq216) (by decide) (by decide) rf_9_0 ?_
    refine J_alen dX6_kindPrice_9 (xK_r1 kO10) (Or.inl kO10) (by decide) nA10 ?_
    refine J_ic_ge (tgt := 22) dX6_kindPrice_10 (by decide) (fun hc => ?_) (fun hc => ?_)
    · have hf := xip hc hf
      refine J_aload_n 0 dX6_kindPrice_13 rfl rfl ?_
      refine J_getRl (j := 0) xcf6 dX6_kindPrice_14 kO9 (Or.inl xq216) (by decide) (by decide) rf_9_0 ?_
      refine J_iload_n 1 dX6_kindPrice_17 rfl rfl ?_
      obtain ⟨hg, hf⟩ := xgd_e hf
      refine J_iald dX6_kindPrice_18 (xK_r1 kO10) kO10 hg nA10 ?_
      refine J_goto (tgt := 23) dX6_kindPrice_19 (by decide) ?_
      exact J_ireti dX6_kindPrice_23 rfl (xq_p hf)
    · have hf := xin' hc hf
      refine J_iconst dX6_kindPrice_22 (by decide) ?_
      exact J_ireti dX6_kindPrice_23 rfl (xq_p hf)
theorem dX11_offerSplit_0 : decode cX11_offerSplit 0 = .ok (.iload_n 1, 1) := by decide +kernel
theorem dX11_offerSplit_1 : decode cX11_offerSplit 1 = .ok (.iconst 1, 1) := by decide +kernel
theorem dX11_offerSplit_2 : decode cX11_offerSplit 2 = .ok (.iadd, 1) := by decide +kernel
theorem dX11_offerSplit_3 : decode cX11_offerSplit 3 = .ok (.aload_n 0, 1) := by decide +kernel
theorem dX11_offerSplit_4 : decode cX11_offerSplit 4 = .ok (.getfield 45, 3) := by decide +kernel
theorem dX11_offerSplit_7 : decode cX11_offerSplit 7 = .ok (.getfield 132, 3) := by decide +kernel
theorem dX11_offerSplit_10 : decode cX11_offerSplit 10 = .ok (.if_icmp .ge 53, 3) := by decide +kernel
theorem dX11_offerSplit_13 : decode cX11_offerSplit 13 = .ok (.aload_n 0, 1) := by decide +kernel
theorem dX11_offerSplit_14 : decode cX11_offerSplit 14 = .ok (.getfield 98, 3) := by decide +kernel
theorem dX11_offerSplit_17 : decode cX11_offerSplit 17 = .ok (.iconst 0, 1) := by decide +kernel
theorem dX11_offerSplit_18 : decode cX11_offerSplit 18 = .ok (.iload_n 1, 1) := by decide +kernel
theorem dX11_offerSplit_19 : decode cX11_offerSplit 19 = .ok (.invokevirtual 258, 3) := by decide +kernel
theorem dX11_offerSplit_22 : decode cX11_offerSplit 22 = .ok (.ifCond .eq 17, 3) := by decide +kernel
theorem dX11_offerSplit_25 : decode cX11_offerSplit 25 = .ok (.aload_n 0, 1) := by decide +kernel
theorem dX11_offerSplit_26 : decode cX11_offerSplit 26 = .ok (.getfield 98, 3) := by decide +kernel
theorem dX11_offerSplit_29 : decode cX11_offerSplit 29 = .ok (.iconst 0, 1) := by decide +kernel
theorem dX11_offerSplit_30 : decode cX11_offerSplit 30 = .ok (.iload_n 1, 1) := by decide +kernel
theorem dX11_offerSplit_31 : decode cX11_offerSplit 31 = .ok (.iconst 1, 1) := by decide +kernel
theorem dX11_offerSplit_32 : decode cX11_offerSplit 32 = .ok (.iadd, 1) := by decide +kernel
theorem dX11_offerSplit_33 : decode cX11_offerSplit 33 = .ok (.invokevirtual 258, 3) := by decide +kernel
theorem dX11_offerSplit_36 : decode cX11_offerSplit 36 = .ok (.ifCond .ne 27, 3) := by decide +kernel
theorem dX11_offerSplit_39 : decode cX11_offerSplit 39 = .ok (.aload_n 0, 1) := by decide +kernel
theorem dX11_offerSplit_40 : decode cX11_offerSplit 40 = .ok (.getfield 45, 3) := by decide +kernel
theorem dX11_offerSplit_43 : decode cX11_offerSplit 43 = .ok (.iload_n 1, 1) := by decide +kernel
theorem dX11_offerSplit_44 : decode cX11_offerSplit 44 = .ok (.invokevirtual 140, 3) := by decide +kernel
theorem dX11_offerSplit_47 : decode cX11_offerSplit 47 = .ok (.aload_n 0, 1) := by decide +kernel
theorem dX11_offerSplit_48 : decode cX11_offerSplit 48 = .ok (.getfield 45, 3) := by decide +kernel
theorem dX11_offerSplit_51 : decode cX11_offerSplit 51 = .ok (.iload_n 1, 1) := by decide +kernel
theorem dX11_offerSplit_52 : decode cX11_offerSplit 52 = .ok (.iconst 1, 1) := by decide +kernel
theorem dX11_offerSplit_53 : decode cX11_offerSplit 53 = .ok (.iadd, 1) := by decide +kernel
theorem dX11_offerSplit_54 : decode cX11_offerSplit 54 = .ok (.invokevirtual 140, 3) := by decide +kernel
theorem dX11_offerSplit_57 : decode cX11_offerSplit 57 = .ok (.iadd, 1) := by decide +kernel
theorem dX11_offerSplit_58 : decode cX11_offerSplit 58 = .ok (.bipush 12, 2) := by decide +kernel
theorem dX11_offerSplit_60 : decode cX11_offerSplit 60 = .ok (.if_icmp .le 4, 3) := by decide +kernel
theorem dX11_offerSplit_63 : decode cX11_offerSplit 63 = .ok (.return_, 1) := by decide +kernel
theorem dX11_offerSplit_64 : decode cX11_offerSplit 64 = .ok (.aload_n 0, 1) := by decide +kernel
theorem dX11_offerSplit_65 : decode cX11_offerSplit 65 = .ok (.getfield 45, 3) := by decide +kernel
theorem dX11_offerSplit_68 : decode cX11_offerSplit 68 = .ok (.iload_n 1, 1) := by decide +kernel
theorem dX11_offerSplit_69 : decode cX11_offerSplit 69 = .ok (.aload_n 0, 1) := by decide +kernel
theorem dX11_offerSplit_70 : decode cX11_offerSplit 70 = .ok (.getfield 33, 3) := by decide +kernel
theorem dX11_offerSplit_73 : decode cX11_offerSplit 73 = .ok (.invokevirtual 247, 3) := by decide +kernel
theorem dX11_offerSplit_76 : decode cX11_offerSplit 76 = .ok (.iconst 0, 1) := by decide +kernel
theorem dX11_offerSplit_77 : decode cX11_offerSplit 77 = .ok (.istore_n 2, 1) := by decide +kernel
theorem dX11_offerSplit_78 : decode cX11_offerSplit 78 = .ok (.iload_n 2, 1) := by decide +kernel
theorem dX11_offerSplit_79 : decode cX11_offerSplit 79 = .ok (.aload_n 0, 1) := by decide +kernel
theorem dX11_offerSplit_80 : decode cX11_offerSplit 80 = .ok (.getfield 45, 3) := by decide +kernel
theorem dX11_offerSplit_83 : decode cX11_offerSplit 83 = .ok (.iload_n 1, 1) := by decide +kernel
theorem dX11_offerSplit_84 : decode cX11_offerSplit 84 = .ok (.iconst 1, 1) := by decide +kernel
theorem dX11_offerSplit_85 : decode cX11_offerSplit 85 = .ok (.iadd, 1) := by decide +kernel
theorem dX11_offerSplit_86 : decode cX11_offerSplit 86 = .ok (.invokevirtual 140, 3) := by decide +kernel
theorem dX11_offerSplit_89 : decode cX11_offerSplit 89 = .ok (.if_icmp .ge 28, 3) := by decide +kernel
theorem dX11_offerSplit_92 : decode cX11_offerSplit 92 = .ok (.aload_n 0, 1) := by decide +kernel
theorem dX11_offerSplit_93 : decode cX11_offerSplit 93 = .ok (.getfield 33, 3) := by decide +kernel
theorem dX11_offerSplit_96 : decode cX11_offerSplit 96 = .ok (.aload_n 0, 1) := by decide +kernel
theorem dX11_offerSplit_97 : decode cX11_offerSplit 97 = .ok (.getfield 45, 3) := by decide +kernel
theorem dX11_offerSplit_100 : decode cX11_offerSplit 100 = .ok (.iload_n 1, 1) := by decide +kernel
theorem dX11_offerSplit_101 : decode cX11_offerSplit 101 = .ok (.iconst 1, 1) := by decide +kernel
theorem dX11_offerSplit_102 : decode cX11_offerSplit 102 = .ok (.iadd, 1) := by decide +kernel
theorem dX11_offerSplit_103 : decode cX11_offerSplit 103 = .ok (.iload_n 2, 1) := by decide +kernel
theorem dX11_offerSplit_104 : decode cX11_offerSplit 104 = .ok (.invokevirtual 143, 3) := by decide +kernel
theorem dX11_offerSplit_107 : decode cX11_offerSplit 107 = .ok (.invokevirtual 310, 3) := by decide +kernel
theorem dX11_offerSplit_110 : decode cX11_offerSplit 110 = .ok (.pop, 1) := by decide +kernel
theorem dX11_offerSplit_111 : decode cX11_offerSplit 111 = .ok (.iinc 2 1, 3) := by decide +kernel
theorem dX11_offerSplit_114 : decode cX11_offerSplit 114 = .ok (.goto (-36), 3) := by decide +kernel
theorem dX11_offerSplit_117 : decode cX11_offerSplit 117 = .ok (.aload_n 0, 1) := by decide +kernel
theorem dX11_offerSplit_118 : decode cX11_offerSplit 118 = .ok (.getfield 19, 3) := by decide +kernel
theorem dX11_offerSplit_121 : decode cX11_offerSplit 121 = .ok (.aload_n 0, 1) := by decide +kernel
theorem dX11_offerSplit_122 : decode cX11_offerSplit 122 = .ok (.getfield 33, 3) := by decide +kernel
theorem dX11_offerSplit_125 : decode cX11_offerSplit 125 = .ok (.invokevirtual 126, 3) := by decide +kernel
theorem dX11_offerSplit_128 : decode cX11_offerSplit 128 = .ok (.istore_n 2, 1) := by decide +kernel
theorem dX11_offerSplit_129 : decode cX11_offerSplit 129 = .ok (.iload_n 2, 1) := by decide +kernel
theorem dX11_offerSplit_130 : decode cX11_offerSplit 130 = .ok (.iconst (-1), 1) := by decide +kernel
theorem dX11_offerSplit_131 : decode cX11_offerSplit 131 = .ok (.if_icmp .eq 23, 3) := by decide +kernel
theorem dX11_offerSplit_134 : decode cX11_offerSplit 134 = .ok (.aload_n 0, 1) := by decide +kernel
theorem dX11_offerSplit_135 : decode cX11_offerSplit 135 = .ok (.getfield 98, 3) := by decide +kernel
theorem dX11_offerSplit_138 : decode cX11_offerSplit 138 = .ok (.iconst 2, 1) := by decide +kernel
theorem dX11_offerSplit_139 : decode cX11_offerSplit 139 = .ok (.iload_n 1, 1) := by decide +kernel
theorem dX11_offerSplit_140 : decode cX11_offerSplit 140 = .ok (.aload_n 0, 1) := by decide +kernel
theorem dX11_offerSplit_141 : decode cX11_offerSplit 141 = .ok (.getfield 26, 3) := by decide +kernel
theorem dX11_offerSplit_144 : decode cX11_offerSplit 144 = .ok (.bipush 8, 2) := by decide +kernel
theorem dX11_offerSplit_146 : decode cX11_offerSplit 146 = .ok (.invokevirtual 312, 3) := by decide +kernel
theorem dX11_offerSplit_149 : decode cX11_offerSplit 149 = .ok (.iload_n 2, 1) := by decide +kernel
theorem dX11_offerSplit_150 : decode cX11_offerSplit 150 = .ok (.iconst (-1), 1) := by decide +kernel
theorem dX11_offerSplit_151 : decode cX11_offerSplit 151 = .ok (.invokevirtual 251, 3) := by decide +kernel
theorem dX11_offerSplit_154 : decode cX11_offerSplit 154 = .ok (.return_, 1) := by decide +kernel
theorem j_WM_offerSplit_117 {l1 : Int} {h : xH} {h0 : xH}  (hf : f_WM_offerSplit_117 l1 h = some h0)  : J mX11_offerSplit true 0 0 117 xKn [(0, xR 1), (1, xI l1)] [] h (xEq none h0) := by
  unfold f_WM_offerSplit_117 at hf
  refine J_aload_n 0 dX11_offerSplit_117 rfl rfl ?_
  refine J_getRl (j := 1) xcf11 dX11_offerSplit_118 kO1 (Or.inl xq436) (by decide) (by decide) rf_1_1 ?_
  refine J_aload_n 0 dX11_offerSplit_121 rfl rfl ?_
  refine J_getRl (j := 3) xcf11 dX11_offerSplit_122 kO1 (Or.inl xq438) (by decide) (by decide) rf_1_3 ?_
  obtain ⟨r1, hq, hf⟩ := xc1_e hf
  refine J_cVi (Mc := mX1_numberOf) [xR 21] dX11_offerSplit_125 (fc_Lex_numberOf.fit ⟨xbl rfl, xbl rfl⟩) rfl ⟨Or.inr ⟨_, xq573⟩, xq522, xq6⟩ kO4 (ci := 1) rfl rfl (xbl rfl) (xbl rfl) (jm_Lex_numberOf kO21 hq) ?_
  refine J_istore_n (ls' := [(2, xI r1), (0, xR 1), (1, xI l1)]) dX11_offerSplit_128 rfl (by decide) rfl rfl ?_
  refine J_iload_n 0 dX11_offerSplit_129 rfl rfl ?_
  refine J_iconst dX11_offerSplit_130 (by decide) ?_
  refine J_ic_eq (tgt := 154) dX11_offerSplit_131 (by decide) (fun hc => ?_) (fun hc => ?_)
  · have hf := xip hc hf
    exact J_rt dX11_offerSplit_154 rfl (xq_v hf)
  · have hf := xin' hc hf
    refine J_aload_n 1 dX11_offerSplit_134 rfl rfl ?_
    refine J_getRl (j := 15) xcf11 dX11_offerSplit_135 kO1 (Or.inl xq450) (by decide) (by decide) rf_1_15 ?_
    refine J_iconst dX11_offerSplit_138 (by decide) ?_
    refine J_iload_n 2 dX11_offerSplit_139 rfl rfl ?_
    refine J_aload_n 1 dX11_offerSplit_140 rfl rfl ?_
    refine J_getRl (j := 2) xcf11 dX11_offerSplit_141 kO1 (Or.inl xq437) (by decide) (by decide) rf_1_2 ?_
    refine J_bip dX11_offerSplit_144 (by decide) ?_
    obtain ⟨r2, hq, hf⟩ := xc1_e hf
    refine J_cVi (Mc := mX6_kindPrice) [xI 8] dX11_offerSplit_146 (fc_Slips_kindPrice.fit ⟨xbl rfl, xbl rfl⟩) rfl ⟨Or.inr ⟨_, xq905⟩, xq907, xq68⟩ kO9 (ci := 6) rfl rfl (xbl rfl) (xbl rfl) (jm_Slips_kindPrice  hq) ?_
    refine J_iload_n 0 dX11_offerSplit_149 rfl rfl ?_
    refine J_iconst dX11_offerSplit_150 (by decide) ?_
    obtain ⟨h3, hq, hf⟩ := xc1_e hf
    refine J_cVv (Mc := mX2_offer) [xI 2, xI l1, xI r2, xI r1, xI (-1)] dX11_offerSplit_151 (fc_Mend_offer.fit ⟨xbl rfl, xbl rfl⟩) rfl ⟨Or.inr ⟨_, xq888⟩, xq890, xq64⟩ kO70 (ci := 2) rfl rfl (xbl rfl) (xbl rfl) (jm_Mend_offer  hq) ?_
    exact J_rt dX11_offerSplit_154 rfl (xq_v hf)
theorem j_WM_offerSplit_s78 {l1 : Int} {l2 : Int} {h : xH} {x : ((Int × xH) ⊕ xH)} {Q : xQ}  (hf : f_WM_offerSplit_s78 l1 l2 h = some x) (kb : ∀ (l2' : Int) (h' : xH), x = Sum.inl (l2', h') → J mX11_offerSplit true 0 0 78 xKn [(0, xR 1), (1, xI l1), (2, xI l2')] [] h' Q) (ke : ∀  (h' : xH), x = (Sum.inr h') → J mX11_offerSplit true 0 0 117 xKn [(0, xR 1), (1, xI l1)] [] h' Q) : J mX11_offerSplit true 0 0 78 xKn [(0, xR 1), (1, xI l1), (2, xI l2)] [] h Q := by
  unfold f_WM_offerSplit_s78 at hf
  refine J_iload_n 2 dX11_offerSplit_78 rfl rfl ?_
  refine J_aload_n 0 dX11_offerSplit_79 rfl rfl ?_
  refine J_getRl (j := 5) xcf11 dX11_offerSplit_80 kO1 (Or.inl xq440) (by decide) (by decide) rf_1_5 ?_
  refine J_iload_n 1 dX11_offerSplit_83 rfl rfl ?_
  refine J_iconst dX11_offerSplit_84 (by decide) ?_
  refine J_iadd dX11_offerSplit_85 ?_
  obtain ⟨r1, hq, hf⟩ := xc1_e hf
  refine J_cVi (Mc := mX5_sizeOf) [xI (w32 (l1 + 1))] dX11_offerSplit_86 (fc_Rows_sizeOf.fit ⟨xbl rfl, xbl rfl⟩) rfl ⟨Or.inr ⟨_, xq582⟩, xq584, xq16⟩ kO25 (ci := 5) rfl rfl (xbl rfl) (xbl rfl) (jm_Rows_sizeOf kO25 hq) ?_
  refine J_ic_ge (tgt := 117) dX11_offerSplit_89 (by decide) (fun hc => ?_) (fun hc => ?_)
  · have hf := xip hc hf
    refine J_aload_n 0 dX11_offerSplit_92 rfl rfl ?_
    refine J_getRl (j := 3) xcf11 dX11_offerSplit_93 kO1 (Or.inl xq438) (by decide) (by decide) rf_1_3 ?_
    refine J_aload_n 0 dX11_offerSplit_96 rfl rfl ?_
    refine J_getRl (j := 5) xcf11 dX11_offerSplit_97 kO1 (Or.inl xq440) (by decide) (by decide) rf_1_5 ?_
    refine J_iload_n 1 dX11_offerSplit_100 rfl rfl ?_
    refine J_iconst dX11_offerSplit_101 (by decide) ?_
    refine J_iadd dX11_offerSplit_102 ?_
    refine J_iload_n 2 dX11_offerSplit_103 rfl rfl ?_
    obtain ⟨r2, hq, hf⟩ := xc1_e hf
    refine J_cVi (Mc := mX5_at) [xI (w32 (l1 + 1)), xI l2] dX11_offerSplit_104 (fc_Rows_at.fit ⟨xbl rfl, xbl rfl⟩) rfl ⟨Or.inr ⟨_, xq586⟩, xq534, xq9⟩ kO25 (ci := 5) rfl rfl (xbl rfl) (xbl rfl) (jm_Rows_at kO25 hq) ?_
    obtain ⟨r3, h4, hq, hf⟩ := xc2_e hf
    refine J_cVi (Mc := mX4_append) [xI r2] dX11_offerSplit_107 (fc_Row_append.fit ⟨xbl rfl, xbl rfl⟩) rfl ⟨Or.inr ⟨_, xq904⟩, xq513, xq4⟩ kO21 (ci := 4) rfl rfl (xbl rfl) (xbl rfl) (jm_Row_append kO21 hq) ?_
    refine J_pop dX11_offerSplit_110 rfl ?_
    obtain ⟨x5, ex5, hf⟩ := xlet_e hf
    refine J_iinc (ls' := [(2, xI x5), (0, xR 1), (1, xI l1)]) 2 dX11_offerSplit_111 rfl (by decide) ex5 rfl ?_
    refine J_goto (tgt := 78) dX11_offerSplit_114 (by decide) ?_
    refine J_sub [1, 2, 0] rfl ?_
    exact kb _ _ (xinl hf)
  · have hf := xin' hc hf
    refine J_sub [0, 1] rfl ?_
    exact ke _ (xinl hf)
theorem j_WM_offerSplit_78 {l1 : Int} {l2 : Int} {h : xH} {h0 : xH}  (hf : f_WM_offerSplit_78 l1 l2 h = some h0)  : J mX11_offerSplit true 0 0 78 xKn [(0, xR 1), (1, xI l1), (2, xI l2)] [] h (xEq none h0) := by
  unfold f_WM_offerSplit_78 at hf
  obtain ⟨b0, hb0, hf⟩ := xc1_e hf
  refine xloop_ind (P := fun s : (Int × xH) => J mX11_offerSplit true 0 0 78 xKn [(0, xR 1), (1, xI l1), (2, xI s.1)] [] s.2 (xEq none h0)) hb0 (fun s x1 hs ib ie => ?_)
  exact j_WM_offerSplit_s78  hs (fun _ _ e => ib _ e) (fun _ e => by have := ie _ e; subst this; exact j_WM_offerSplit_117  hf)
theorem j_WM_offerSplit_39 {l1 : Int} {h : xH} {h0 : xH}  (hf : f_WM_offerSplit_39 l1 h = some h0)  : J mX11_offerSplit true 0 0 39 xKn [(0, xR 1), (1, xI l1)] [] h (xEq none h0) := by
  unfold f_WM_offerSplit_39 at hf
  refine J_aload_n 0 dX11_offerSplit_39 rfl rfl ?_
  refine J_getRl (j := 5) xcf11 dX11_offerSplit_40 kO1 (Or.inl xq440) (by decide) (by decide) rf_1_5 ?_
  refine J_iload_n 1 dX11_offerSplit_43 rfl rfl ?_
  obtain ⟨r1, hq, hf⟩ := xc1_e hf
  refine J_cVi (Mc := mX5_sizeOf) [xI l1] dX11_offerSplit_44 (fc_Rows_sizeOf.fit ⟨xbl rfl, xbl rfl⟩) rfl ⟨Or.inr ⟨_, xq582⟩, xq584, xq16⟩ kO25 (ci := 5) rfl rfl (xbl rfl) (xbl rfl) (jm_Rows_sizeOf kO25 hq) ?_
  refine J_aload_n 0 dX11_offerSplit_47 rfl rfl ?_
  refine J_getRl (j := 5) xcf11 dX11_offerSplit_48 kO1 (Or.inl xq440) (by decide) (by decide) rf_1_5 ?_
  refine J_iload_n 1 dX11_offerSplit_51 rfl rfl ?_
  refine J_iconst dX11_offerSplit_52 (by decide) ?_
  refine J_iadd dX11_offerSplit_53 ?_
  obtain ⟨r2, hq, hf⟩ := xc1_e hf
  refine J_cVi (Mc := mX5_sizeOf) [xI (w32 (l1 + 1))] dX11_offerSplit_54 (fc_Rows_sizeOf.fit ⟨xbl rfl, xbl rfl⟩) rfl ⟨Or.inr ⟨_, xq582⟩, xq584, xq16⟩ kO25 (ci := 5) rfl rfl (xbl rfl) (xbl rfl) (jm_Rows_sizeOf kO25 hq) ?_
  refine J_iadd dX11_offerSplit_57 ?_
  refine J_bip dX11_offerSplit_58 (by decide) ?_
  refine J_ic_le (tgt := 64) dX11_offerSplit_60 (by decide) (fun hc => ?_) (fun hc => ?_)
  · have hf := xip hc hf
    exact J_rt dX11_offerSplit_63 rfl (xq_v hf)
  · have hf := xin' hc hf
    refine J_aload_n 0 dX11_offerSplit_64 rfl rfl ?_
    refine J_getRl (j := 5) xcf11 dX11_offerSplit_65 kO1 (Or.inl xq440) (by decide) (by decide) rf_1_5 ?_
    refine J_iload_n 1 dX11_offerSplit_68 rfl rfl ?_
    refine J_aload_n 0 dX11_offerSplit_69 rfl rfl ?_
    refine J_getRl (j := 3) xcf11 dX11_offerSplit_70 kO1 (Or.inl xq438) (by decide) (by decide) rf_1_3 ?_
    obtain ⟨h3, hq, hf⟩ := xc1_e hf
    refine J_cVv (Mc := mX5_copyTo) [xI l1, xR 21] dX11_offerSplit_73 (fc_Rows_copyTo.fit ⟨xbl rfl, xbl rfl⟩) rfl ⟨Or.inr ⟨_, xq854⟩, xq733, xq40⟩ kO25 (ci := 5) rfl rfl (xbl rfl) (xbl rfl) (jm_Rows_copyTo kO25 kO21 hq) ?_
    refine J_iconst dX11_offerSplit_76 (by decide) ?_
    refine J_istore_n (ls' := [(2, xI 0), (0, xR 1), (1, xI l1)]) dX11_offerSplit_77 rfl (by decide) rfl rfl ?_
    refine J_sub [1, 2, 0] rfl ?_
    exact j_WM_offerSplit_78  hf
theorem jm_WM_offerSplit {l1 : Int} {h : xH} {h0 : xH}  (hf : f_WM_offerSplit l1 h = some h0) : J mX11_offerSplit true 0 0 0 xKn (xen 0 [xR 1, xI l1]) [] h (xEq none h0) := by
  unfold f_WM_offerSplit at hf
  refine J_cong (ls2 := [(0, xR 1), (1, xI l1)]) (st2 := []) rfl rfl ?_
  refine J_iload_n 1 dX11_offerSplit_0 rfl rfl ?_
  refine J_iconst dX11_offerSplit_1 (by decide) ?_
  refine J_iadd dX11_offerSplit_2 ?_
  refine J_aload_n 0 dX11_offerSplit_3 rfl rfl ?_
  refine J_getRl (j := 5) xcf11 dX11_offerSplit_4 kO1 (Or.inl xq440) (by decide) (by decide) rf_1_5 ?_
  refine J_getI (j := 2) xcf5 dX11_offerSplit_7 (xK_rg kO25) kO25 (Or.inr ⟨_, xq185⟩) (by decide) (by decide) ?_
  refine J_ic_ge (tgt := 63) dX11_offerSplit_10 (by decide) (fun hc => ?_) (fun hc => ?_)
  · have hf := xip hc hf
    refine J_aload_n 0 dX11_offerSplit_13 rfl rfl ?_
    refine J_getRl (j := 15) xcf11 dX11_offerSplit_14 kO1 (Or.inl xq450) (by decide) (by decide) rf_1_15 ?_
    refine J_iconst dX11_offerSplit_17 (by decide) ?_
    refine J_iload_n 1 dX11_offerSplit_18 rfl rfl ?_
    obtain ⟨r1, hq, hf⟩ := xc1_e hf
    refine J_cVi (Mc := mX2_offers) [xI 0, xI l1] dX11_offerSplit_19 (fc_Mend_offers.fit ⟨xbl rfl, xbl rfl⟩) rfl ⟨Or.inr ⟨_, xq900⟩, xq902, xq67⟩ kO70 (ci := 2) rfl rfl (xbl rfl) (xbl rfl) (jm_Mend_offers  hq) ?_
    refine J_if_eq (tgt := 39) dX11_offerSplit_22 (by decide) (fun hc => ?_) (fun hc => ?_)
    · have hf := xip hc hf
      exact j_WM_offerSplit_39  hf
    · have hf := xin' hc hf
      refine J_aload_n 0 dX11_offerSplit_25 rfl rfl ?_
      refine J_getRl (j := 15) xcf11 dX11_offerSplit_26 kO1 (Or.inl xq450) (by decide) (by decide) rf_1_15 ?_
      refine J_iconst dX11_offerSplit_29 (by decide) ?_
      refine J_iload_n 1 dX11_offerSplit_30 rfl rfl ?_
      refine J_iconst dX11_offerSplit_31 (by decide) ?_
      refine J_iadd dX11_offerSplit_32 ?_
      obtain ⟨r2, hq, hf⟩ := xc1_e hf
      refine J_cVi (Mc := mX2_offers) [xI 0, xI (w32 (l1 + 1))] dX11_offerSplit_33 (fc_Mend_offers.fit ⟨xbl rfl, xbl rfl⟩) rfl ⟨Or.inr ⟨_, xq900⟩, xq902, xq67⟩ kO70 (ci := 2) rfl rfl (xbl rfl) (xbl rfl) (jm_Mend_offers  hq) ?_
      refine J_if_ne (tgt := 63) dX11_offerSplit_36 (by decide) (fun hc => ?_) (fun hc => ?_)
      · have hf := xip hc hf
        exact j_WM_offerSplit_39  hf
      · have hf := xin' hc hf
        exact J_rt dX11_offerSplit_63 rfl (xq_v hf)
  · have hf := xin' hc hf
    exact J_rt dX11_offerSplit_63 rfl (xq_v hf)
theorem dX11_offerJoin_0 : decode cX11_offerJoin 0 = .ok (.iconst 1, 1) := by decide +kernel
theorem dX11_offerJoin_1 : decode cX11_offerJoin 1 = .ok (.istore_n 2, 1) := by decide +kernel
theorem dX11_offerJoin_2 : decode cX11_offerJoin 2 = .ok (.iload_n 2, 1) := by decide +kernel
theorem dX11_offerJoin_3 : decode cX11_offerJoin 3 = .ok (.aload_n 0, 1) := by decide +kernel
theorem dX11_offerJoin_4 : decode cX11_offerJoin 4 = .ok (.getfield 45, 3) := by decide +kernel
theorem dX11_offerJoin_7 : decode cX11_offerJoin 7 = .ok (.iload_n 1, 1) := by decide +kernel
theorem dX11_offerJoin_8 : decode cX11_offerJoin 8 = .ok (.invokevirtual 140, 3) := by decide +kernel
theorem dX11_offerJoin_11 : decode cX11_offerJoin 11 = .ok (.if_icmp .ge 134, 3) := by decide +kernel
theorem dX11_offerJoin_14 : decode cX11_offerJoin 14 = .ok (.aload_n 0, 1) := by decide +kernel
theorem dX11_offerJoin_15 : decode cX11_offerJoin 15 = .ok (.getfield 33, 3) := by decide +kernel
theorem dX11_offerJoin_18 : decode cX11_offerJoin 18 = .ok (.invokevirtual 315, 3) := by decide +kernel
theorem dX11_offerJoin_21 : decode cX11_offerJoin 21 = .ok (.aload_n 0, 1) := by decide +kernel
theorem dX11_offerJoin_22 : decode cX11_offerJoin 22 = .ok (.getfield 37, 3) := by decide +kernel
theorem dX11_offerJoin_25 : decode cX11_offerJoin 25 = .ok (.invokevirtual 315, 3) := by decide +kernel
theorem dX11_offerJoin_28 : decode cX11_offerJoin 28 = .ok (.iconst 0, 1) := by decide +kernel
theorem dX11_offerJoin_29 : decode cX11_offerJoin 29 = .ok (.istore_n 3, 1) := by decide +kernel
theorem dX11_offerJoin_30 : decode cX11_offerJoin 30 = .ok (.iload_n 3, 1) := by decide +kernel
theorem dX11_offerJoin_31 : decode cX11_offerJoin 31 = .ok (.aload_n 0, 1) := by decide +kernel
theorem dX11_offerJoin_32 : decode cX11_offerJoin 32 = .ok (.getfield 45, 3) := by decide +kernel
theorem dX11_offerJoin_35 : decode cX11_offerJoin 35 = .ok (.iload_n 1, 1) := by decide +kernel
theorem dX11_offerJoin_36 : decode cX11_offerJoin 36 = .ok (.invokevirtual 140, 3) := by decide +kernel
theorem dX11_offerJoin_39 : decode cX11_offerJoin 39 = .ok (.if_icmp .ge 42, 3) := by decide +kernel
theorem dX11_offerJoin_42 : decode cX11_offerJoin 42 = .ok (.iload_n 3, 1) := by decide +kernel
theorem dX11_offerJoin_43 : decode cX11_offerJoin 43 = .ok (.iload_n 2, 1) := by decide +kernel
theorem dX11_offerJoin_44 : decode cX11_offerJoin 44 = .ok (.if_icmp .ge 10, 3) := by decide +kernel
theorem dX11_offerJoin_47 : decode cX11_offerJoin 47 = .ok (.aload_n 0, 1) := by decide +kernel
theorem dX11_offerJoin_48 : decode cX11_offerJoin 48 = .ok (.getfield 33, 3) := by decide +kernel
theorem dX11_offerJoin_51 : decode cX11_offerJoin 51 = .ok (.goto 7, 3) := by decide +kernel
theorem dX11_offerJoin_54 : decode cX11_offerJoin 54 = .ok (.aload_n 0, 1) := by decide +kernel
theorem dX11_offerJoin_55 : decode cX11_offerJoin 55 = .ok (.getfield 37, 3) := by decide +kernel
theorem dX11_offerJoin_58 : decode cX11_offerJoin 58 = .ok (.astore 4, 2) := by decide +kernel
theorem dX11_offerJoin_60 : decode cX11_offerJoin 60 = .ok (.aload 4, 2) := by decide +kernel
theorem dX11_offerJoin_62 : decode cX11_offerJoin 62 = .ok (.aload_n 0, 1) := by decide +kernel
theorem dX11_offerJoin_63 : decode cX11_offerJoin 63 = .ok (.getfield 45, 3) := by decide +kernel
theorem dX11_offerJoin_66 : decode cX11_offerJoin 66 = .ok (.iload_n 1, 1) := by decide +kernel
theorem dX11_offerJoin_67 : decode cX11_offerJoin 67 = .ok (.iload_n 3, 1) := by decide +kernel
theorem dX11_offerJoin_68 : decode cX11_offerJoin 68 = .ok (.invokevirtual 143, 3) := by decide +kernel
theorem dX11_offerJoin_71 : decode cX11_offerJoin 71 = .ok (.invokevirtual 310, 3) := by decide +kernel
theorem dX11_offerJoin_74 : decode cX11_offerJoin 74 = .ok (.pop, 1) := by decide +kernel
theorem dX11_offerJoin_75 : decode cX11_offerJoin 75 = .ok (.iinc 3 1, 3) := by decide +kernel
theorem dX11_offerJoin_78 : decode cX11_offerJoin 78 = .ok (.goto (-48), 3) := by decide +kernel
theorem dX11_offerJoin_81 : decode cX11_offerJoin 81 = .ok (.aload_n 0, 1) := by decide +kernel
theorem dX11_offerJoin_82 : decode cX11_offerJoin 82 = .ok (.getfield 19, 3) := by decide +kernel
theorem dX11_offerJoin_85 : decode cX11_offerJoin 85 = .ok (.aload_n 0, 1) := by decide +kernel
theorem dX11_offerJoin_86 : decode cX11_offerJoin 86 = .ok (.getfield 33, 3) := by decide +kernel
theorem dX11_offerJoin_89 : decode cX11_offerJoin 89 = .ok (.invokevirtual 126, 3) := by decide +kernel
theorem dX11_offerJoin_92 : decode cX11_offerJoin 92 = .ok (.istore_n 3, 1) := by decide +kernel
theorem dX11_offerJoin_93 : decode cX11_offerJoin 93 = .ok (.aload_n 0, 1) := by decide +kernel
theorem dX11_offerJoin_94 : decode cX11_offerJoin 94 = .ok (.getfield 19, 3) := by decide +kernel
theorem dX11_offerJoin_97 : decode cX11_offerJoin 97 = .ok (.aload_n 0, 1) := by decide +kernel
theorem dX11_offerJoin_98 : decode cX11_offerJoin 98 = .ok (.getfield 37, 3) := by decide +kernel
theorem dX11_offerJoin_101 : decode cX11_offerJoin 101 = .ok (.invokevirtual 126, 3) := by decide +kernel
theorem dX11_offerJoin_104 : decode cX11_offerJoin 104 = .ok (.istore 4, 2) := by decide +kernel
theorem dX11_offerJoin_106 : decode cX11_offerJoin 106 = .ok (.iload_n 3, 1) := by decide +kernel
theorem dX11_offerJoin_107 : decode cX11_offerJoin 107 = .ok (.iconst (-1), 1) := by decide +kernel
theorem dX11_offerJoin_108 : decode cX11_offerJoin 108 = .ok (.if_icmp .eq 31, 3) := by decide +kernel
theorem dX11_offerJoin_111 : decode cX11_offerJoin 111 = .ok (.iload 4, 2) := by decide +kernel
theorem dX11_offerJoin_113 : decode cX11_offerJoin 113 = .ok (.iconst (-1), 1) := by decide +kernel
theorem dX11_offerJoin_114 : decode cX11_offerJoin 114 = .ok (.if_icmp .eq 25, 3) := by decide +kernel
theorem dX11_offerJoin_117 : decode cX11_offerJoin 117 = .ok (.aload_n 0, 1) := by decide +kernel
theorem dX11_offerJoin_118 : decode cX11_offerJoin 118 = .ok (.getfield 98, 3) := by decide +kernel
theorem dX11_offerJoin_121 : decode cX11_offerJoin 121 = .ok (.iconst 3, 1) := by decide +kernel
theorem dX11_offerJoin_122 : decode cX11_offerJoin 122 = .ok (.iload_n 1, 1) := by decide +kernel
theorem dX11_offerJoin_123 : decode cX11_offerJoin 123 = .ok (.aload_n 0, 1) := by decide +kernel
theorem dX11_offerJoin_124 : decode cX11_offerJoin 124 = .ok (.getfield 26, 3) := by decide +kernel
theorem dX11_offerJoin_127 : decode cX11_offerJoin 127 = .ok (.bipush 9, 2) := by decide +kernel
theorem dX11_offerJoin_129 : decode cX11_offerJoin 129 = .ok (.invokevirtual 312, 3) := by decide +kernel
theorem dX11_offerJoin_132 : decode cX11_offerJoin 132 = .ok (.iload_n 3, 1) := by decide +kernel
theorem dX11_offerJoin_133 : decode cX11_offerJoin 133 = .ok (.iload 4, 2) := by decide +kernel
theorem dX11_offerJoin_135 : decode cX11_offerJoin 135 = .ok (.invokevirtual 251, 3) := by decide +kernel
theorem dX11_offerJoin_138 : decode cX11_offerJoin 138 = .ok (.return_, 1) := by decide +kernel
theorem dX11_offerJoin_139 : decode cX11_offerJoin 139 = .ok (.iinc 2 1, 3) := by decide +kernel
theorem dX11_offerJoin_142 : decode cX11_offerJoin 142 = .ok (.goto (-140), 3) := by decide +kernel
theorem dX11_offerJoin_145 : decode cX11_offerJoin 145 = .ok (.return_, 1) := by decide +kernel
theorem j_WM_offerJoin_145  {h : xH} {h0 : xH}  (hf : f_WM_offerJoin_145 h = some h0)  : J mX11_offerJoin true 0 0 145 xKn [] [] h (xEq none h0) := by
  unfold f_WM_offerJoin_145 at hf
  exact J_rt dX11_offerJoin_145 rfl (xq_v hf)
theorem j_WM_offerJoin_139 {l1 : Int} {l2 : Int} {h : xH} {x : ((Int × xH) ⊕ (xH ⊕ xH))} {Q : xQ}  (hf : f_WM_offerJoin_139 l1 l2 h = some x) (kb : ∀ (l2' : Int) (h' : xH), x = Sum.inl (l2', h') → J mX11_offerJoin true 0 0 2 xKn [(0, xR 1), (1, xI l1), (2, xI l2')] [] h' Q) (ke : ∀  (h' : xH), x = (Sum.inr (Sum.inl h')) → J mX11_offerJoin true 0 0 145 xKn [] [] h' Q) (kr : ∀ h' : xH, x = (Sum.inr (Sum.inr h')) → Q none xKn h') : J mX11_offerJoin true 0 0 139 xKn [(0, xR 1), (1, xI l1), (2, xI l2)] [] h Q := by
  unfold f_WM_offerJoin_139 at hf
  obtain ⟨x1, ex1, hf⟩ := xlet_e hf
  refine J_iinc (ls' := [(2, xI x1), (0, xR 1), (1, xI l1)]) 2 dX11_offerJoin_139 rfl (by decide) ex1 rfl ?_
  refine J_goto (tgt := 2) dX11_offerJoin_142 (by decide) ?_
  refine J_sub [1, 2, 0] rfl ?_
  exact kb _ _ (xinl hf)
theorem j_WM_offerJoin_81 {l1 : Int} {l2 : Int} {h : xH} {x : ((Int × xH) ⊕ (xH ⊕ xH))} {Q : xQ}  (hf : f_WM_offerJoin_81 l1 l2 h = some x) (kb : ∀ (l2' : Int) (h' : xH), x = Sum.inl (l2', h') → J mX11_offerJoin true 0 0 2 xKn [(0, xR 1), (1, xI l1), (2, xI l2')] [] h' Q) (ke : ∀  (h' : xH), x = (Sum.inr (Sum.inl h')) → J mX11_offerJoin true 0 0 145 xKn [] [] h' Q) (kr : ∀ h' : xH, x = (Sum.inr (Sum.inr h')) → Q none xKn h') : J mX11_offerJoin true 0 0 81 xKn [(0, xR 1), (1, xI l1), (2, xI l2)] [] h Q := by
  unfold f_WM_offerJoin_81 at hf
  refine J_aload_n 0 dX11_offerJoin_81 rfl rfl ?_
  refine J_getRl (j := 1) xcf11 dX11_offerJoin_82 kO1 (Or.inl xq436) (by decide) (by decide) rf_1_1 ?_
  refine J_aload_n 0 dX11_offerJoin_85 rfl rfl ?_
  refine J_getRl (j := 3) xcf11 dX11_offerJoin_86 kO1 (Or.inl xq438) (by decide) (by decide) rf_1_3 ?_
  obtain ⟨r1, hq, hf⟩ := xc1_e hf
  refine J_cVi (Mc := mX1_numberOf) [xR 21] dX11_offerJoin_89 (fc_Lex_numberOf.fit ⟨xbl rfl, xbl rfl⟩) rfl ⟨Or.inr ⟨_, xq573⟩, xq522, xq6⟩ kO4 (ci := 1) rfl rfl (xbl rfl) (xbl rfl) (jm_Lex_numberOf kO21 hq) ?_
  refine J_istore_n (ls' := [(3, xI r1), (0, xR 1), (1, xI l1), (2, xI l2)]) dX11_offerJoin_92 rfl (by decide) rfl rfl ?_
  refine J_aload_n 1 dX11_offerJoin_93 rfl rfl ?_
  refine J_getRl (j := 1) xcf11 dX11_offerJoin_94 kO1 (Or.inl xq436) (by decide) (by decide) rf_1_1 ?_
  refine J_aload_n 1 dX11_offerJoin_97 rfl rfl ?_
  refine J_getRl (j := 4) xcf11 dX11_offerJoin_98 kO1 (Or.inl xq439) (by decide) (by decide) rf_1_4 ?_
  obtain ⟨r2, hq, hf⟩ := xc1_e hf
  refine J_cVi (Mc := mX1_numberOf) [xR 23] dX11_offerJoin_101 (fc_Lex_numberOf.fit ⟨xbl rfl, xbl rfl⟩) rfl ⟨Or.inr ⟨_, xq573⟩, xq522, xq6⟩ kO4 (ci := 1) rfl rfl (xbl rfl) (xbl rfl) (jm_Lex_numberOf kO23 hq) ?_
  refine J_istore (ls' := [(4, xI r2), (3, xI r1), (0, xR 1), (1, xI l1), (2, xI l2)]) dX11_offerJoin_104 (by decide) rfl rfl ?_
  refine J_iload_n 1 dX11_offerJoin_106 rfl rfl ?_
  refine J_iconst dX11_offerJoin_107 (by decide) ?_
  refine J_ic_eq (tgt := 139) dX11_offerJoin_108 (by decide) (fun hc => ?_) (fun hc => ?_)
  · have hf := xip hc hf
    refine J_sub [2, 3, 4] rfl ?_
    exact j_WM_offerJoin_139  hf kb ke kr
  · have hf := xin' hc hf
    refine J_iload 0 dX11_offerJoin_111 rfl ?_
    refine J_iconst dX11_offerJoin_113 (by decide) ?_
    refine J_ic_eq (tgt := 139) dX11_offerJoin_114 (by decide) (fun hc => ?_) (fun hc => ?_)
    · have hf := xip hc hf
      refine J_sub [2, 3, 4] rfl ?_
      exact j_WM_offerJoin_139  hf kb ke kr
    · have hf := xin' hc hf
      refine J_aload_n 2 dX11_offerJoin_117 rfl rfl ?_
      refine J_getRl (j := 15) xcf11 dX11_offerJoin_118 kO1 (Or.inl xq450) (by decide) (by decide) rf_1_15 ?_
      refine J_iconst dX11_offerJoin_121 (by decide) ?_
      refine J_iload_n 3 dX11_offerJoin_122 rfl rfl ?_
      refine J_aload_n 2 dX11_offerJoin_123 rfl rfl ?_
      refine J_getRl (j := 2) xcf11 dX11_offerJoin_124 kO1 (Or.inl xq437) (by decide) (by decide) rf_1_2 ?_
      refine J_bip dX11_offerJoin_127 (by decide) ?_
      obtain ⟨r3, hq, hf⟩ := xc1_e hf
      refine J_cVi (Mc := mX6_kindPrice) [xI 9] dX11_offerJoin_129 (fc_Slips_kindPrice.fit ⟨xbl rfl, xbl rfl⟩) rfl ⟨Or.inr ⟨_, xq905⟩, xq907, xq68⟩ kO9 (ci := 6) rfl rfl (xbl rfl) (xbl rfl) (jm_Slips_kindPrice  hq) ?_
      refine J_iload_n 1 dX11_offerJoin_132 rfl rfl ?_
      refine J_iload 0 dX11_offerJoin_133 rfl ?_
      obtain ⟨h4, hq, hf⟩ := xc1_e hf
      refine J_cVv (Mc := mX2_offer) [xI 3, xI l1, xI r3, xI r1, xI r2] dX11_offerJoin_135 (fc_Mend_offer.fit ⟨xbl rfl, xbl rfl⟩) rfl ⟨Or.inr ⟨_, xq888⟩, xq890, xq64⟩ kO70 (ci := 2) rfl rfl (xbl rfl) (xbl rfl) (jm_Mend_offer  hq) ?_
      exact J_rt dX11_offerJoin_138 rfl (kr _ (xinl hf))
theorem j_WM_offerJoin_58 {l1 : Int} {l2 : Int} {l3 : Int} {s0 : Int} {h : xH} {x : ((Int × xH) ⊕ xH)} {Q : xQ} (ks0 : xK s0 = 3 + 4) (hf : f_WM_offerJoin_58 l1 l2 l3 s0 h = some x) (kb : ∀ (l3' : Int) (h' : xH), x = Sum.inl (l3', h') → J mX11_offerJoin true 0 0 30 xKn [(0, xR 1), (1, xI l1), (2, xI l2), (3, xI l3')] [] h' Q) (ke : ∀  (h' : xH), x = (Sum.inr h') → J mX11_offerJoin true 0 0 81 xKn [(0, xR 1), (1, xI l1), (2, xI l2)] [] h' Q) : J mX11_offerJoin true 0 0 58 xKn [(0, xR 1), (1, xI l1), (2, xI l2), (3, xI l3)] [xR s0] h Q := by
  unfold f_WM_offerJoin_58 at hf
  refine J_astore (ls' := [(4, xR s0), (0, xR 1), (1, xI l1), (2, xI l2), (3, xI l3)]) dX11_offerJoin_58 (by decide) rfl rfl ?_
  refine J_aload 0 dX11_offerJoin_60 rfl ?_
  refine J_aload_n 1 dX11_offerJoin_62 rfl rfl ?_
  refine J_getRl (j := 5) xcf11 dX11_offerJoin_63 kO1 (Or.inl xq440) (by decide) (by decide) rf_1_5 ?_
  refine J_iload_n 2 dX11_offerJoin_66 rfl rfl ?_
  refine J_iload_n 4 dX11_offerJoin_67 rfl rfl ?_
  obtain ⟨r1, hq, hf⟩ := xc1_e hf
  refine J_cVi (Mc := mX5_at) [xI l1, xI l3] dX11_offerJoin_68 (fc_Rows_at.fit ⟨xbl rfl, xbl rfl⟩) rfl ⟨Or.inr ⟨_, xq586⟩, xq534, xq9⟩ kO25 (ci := 5) rfl rfl (xbl rfl) (xbl rfl) (jm_Rows_at kO25 hq) ?_
  obtain ⟨r2, h3, hq, hf⟩ := xc2_e hf
  refine J_cVi (Mc := mX4_append) [xI r1] dX11_offerJoin_71 (fc_Row_append.fit ⟨xbl rfl, xbl rfl⟩) rfl ⟨Or.inr ⟨_, xq904⟩, xq513, xq4⟩ ks0 (ci := 4) rfl rfl (xbl rfl) (xbl rfl) (jm_Row_append ks0 hq) ?_
  refine J_pop dX11_offerJoin_74 rfl ?_
  obtain ⟨x4, ex4, hf⟩ := xlet_e hf
  refine J_iinc (ls' := [(3, xI x4), (4, xR s0), (0, xR 1), (1, xI l1), (2, xI l2)]) 4 dX11_offerJoin_75 rfl (by decide) ex4 rfl ?_
  refine J_goto (tgt := 30) dX11_offerJoin_78 (by decide) ?_
  refine J_sub [2, 3, 4, 0] rfl ?_
  exact kb _ _ (xinl hf)
theorem j_WM_offerJoin_s30 {l1 : Int} {l2 : Int} {l3 : Int} {h : xH} {x : ((Int × xH) ⊕ xH)} {Q : xQ}  (hf : f_WM_offerJoin_s30 l1 l2 l3 h = some x) (kb : ∀ (l3' : Int) (h' : xH), x = Sum.inl (l3', h') → J mX11_offerJoin true 0 0 30 xKn [(0, xR 1), (1, xI l1), (2, xI l2), (3, xI l3')] [] h' Q) (ke : ∀  (h' : xH), x = (Sum.inr h') → J mX11_offerJoin true 0 0 81 xKn [(0, xR 1), (1, xI l1), (2, xI l2)] [] h' Q) : J mX11_offerJoin true 0 0 30 xKn [(0, xR 1), (1, xI l1), (2, xI l2), (3, xI l3)] [] h Q := by
  unfold f_WM_offerJoin_s30 at hf
  refine J_iload_n 3 dX11_offerJoin_30 rfl rfl ?_
  refine J_aload_n 0 dX11_offerJoin_31 rfl rfl ?_
  refine J_getRl (j := 5) xcf11 dX11_offerJoin_32 kO1 (Or.inl xq440) (by decide) (by decide) rf_1_5 ?_
  refine J_iload_n 1 dX11_offerJoin_35 rfl rfl ?_
  obtain ⟨r1, hq, hf⟩ := xc1_e hf
  refine J_cVi (Mc := mX5_sizeOf) [xI l1] dX11_offerJoin_36 (fc_Rows_sizeOf.fit ⟨xbl rfl, xbl rfl⟩) rfl ⟨Or.inr ⟨_, xq582⟩, xq584, xq16⟩ kO25 (ci := 5) rfl rfl (xbl rfl) (xbl rfl) (jm_Rows_sizeOf kO25 hq) ?_
  refine J_ic_ge (tgt := 81) dX11_offerJoin_39 (by decide) (fun hc => ?_) (fun hc => ?_)
  · have hf := xip hc hf
    refine J_iload_n 3 dX11_offerJoin_42 rfl rfl ?_
    refine J_iload_n 2 dX11_offerJoin_43 rfl rfl ?_
    refine J_ic_ge (tgt := 54) dX11_offerJoin_44 (by decide) (fun hc => ?_) (fun hc => ?_)
    · have hf := xip hc hf
      refine J_aload_n 0 dX11_offerJoin_47 rfl rfl ?_
      refine J_getRl (j := 3) xcf11 dX11_offerJoin_48 kO1 (Or.inl xq438) (by decide) (by decide) rf_1_3 ?_
      refine J_goto (tgt := 58) dX11_offerJoin_51 (by decide) ?_
      exact j_WM_offerJoin_58 kO21 hf kb ke
    · have hf := xin' hc hf
      refine J_aload_n 0 dX11_offerJoin_54 rfl rfl ?_
      refine J_getRl (j := 4) xcf11 dX11_offerJoin_55 kO1 (Or.inl xq439) (by decide) (by decide) rf_1_4 ?_
      exact j_WM_offerJoin_58 kO23 hf kb ke
  · have hf := xin' hc hf
    refine J_sub [0, 1, 2] rfl ?_
    exact ke _ (xinl hf)
theorem j_WM_offerJoin_30 {l1 : Int} {l2 : Int} {l3 : Int} {h : xH} {x : ((Int × xH) ⊕ (xH ⊕ xH))} {Q : xQ}  (hf : f_WM_offerJoin_30 l1 l2 l3 h = some x) (kb : ∀ (l2' : Int) (h' : xH), x = Sum.inl (l2', h') → J mX11_offerJoin true 0 0 2 xKn [(0, xR 1), (1, xI l1), (2, xI l2')] [] h' Q) (ke : ∀  (h' : xH), x = (Sum.inr (Sum.inl h')) → J mX11_offerJoin true 0 0 145 xKn [] [] h' Q) (kr : ∀ h' : xH, x = (Sum.inr (Sum.inr h')) → Q none xKn h') : J mX11_offerJoin true 0 0 30 xKn [(0, xR 1), (1, xI l1), (2, xI l2), (3, xI l3)] [] h Q := by
  unfold f_WM_offerJoin_30 at hf
  obtain ⟨b0, hb0, hf⟩ := xc1_e hf
  refine xloop_ind (P := fun s : (Int × xH) => J mX11_offerJoin true 0 0 30 xKn [(0, xR 1), (1, xI l1), (2, xI l2), (3, xI s.1)] [] s.2 Q) hb0 (fun s x1 hs ib ie => ?_)
  exact j_WM_offerJoin_s30  hs (fun _ _ e => ib _ e) (fun _ e => by have := ie _ e; subst this; exact j_WM_offerJoin_81  hf kb ke kr)
theorem j_WM_offerJoin_s2 {l1 : Int} {l2 : Int} {h : xH} {x : ((Int × xH) ⊕ (xH ⊕ xH))} {Q : xQ}  (hf : f_WM_offerJoin_s2 l1 l2 h = some x) (kb : ∀ (l2' : Int) (h' : xH), x = Sum.inl (l2', h') → J mX11_offerJoin true 0 0 2 xKn [(0, xR 1), (1, xI l1), (2, xI l2')] [] h' Q) (ke : ∀  (h' : xH), x = (Sum.inr (Sum.inl h')) → J mX11_offerJoin true 0 0 145 xKn [] [] h' Q) (kr : ∀ h' : xH, x = (Sum.inr (Sum.inr h')) → Q none xKn h') : J mX11_offerJoin true 0 0 2 xKn [(0, xR 1), (1, xI l1), (2, xI l2)] [] h Q := by
  unfold f_WM_offerJoin_s2 at hf
  refine J_iload_n 2 dX11_offerJoin_2 rfl rfl ?_
  refine J_aload_n 0 dX11_offerJoin_3 rfl rfl ?_
  refine J_getRl (j := 5) xcf11 dX11_offerJoin_4 kO1 (Or.inl xq440) (by decide) (by decide) rf_1_5 ?_
  refine J_iload_n 1 dX11_offerJoin_7 rfl rfl ?_
  obtain ⟨r1, hq, hf⟩ := xc1_e hf
  refine J_cVi (Mc := mX5_sizeOf) [xI l1] dX11_offerJoin_8 (fc_Rows_sizeOf.fit ⟨xbl rfl, xbl rfl⟩) rfl ⟨Or.inr ⟨_, xq582⟩, xq584, xq16⟩ kO25 (ci := 5) rfl rfl (xbl rfl) (xbl rfl) (jm_Rows_sizeOf kO25 hq) ?_
  refine J_ic_ge (tgt := 145) dX11_offerJoin_11 (by decide) (fun hc => ?_) (fun hc => ?_)
  · have hf := xip hc hf
    refine J_aload_n 0 dX11_offerJoin_14 rfl rfl ?_
    refine J_getRl (j := 3) xcf11 dX11_offerJoin_15 kO1 (Or.inl xq438) (by decide) (by decide) rf_1_3 ?_
    obtain ⟨h2, hq, hf⟩ := xc1_e hf
    refine J_cVv (Mc := mX4_clear) [] dX11_offerJoin_18 (fc_Row_clear.fit ⟨xbl rfl, xbl rfl⟩) rfl ⟨Or.inr ⟨_, xq913⟩, xq509, xq3⟩ kO21 (ci := 4) rfl rfl (xbl rfl) (xbl rfl) (jm_Row_clear kO21 hq) ?_
    refine J_aload_n 0 dX11_offerJoin_21 rfl rfl ?_
    refine J_getRl (j := 4) xcf11 dX11_offerJoin_22 kO1 (Or.inl xq439) (by decide) (by decide) rf_1_4 ?_
    obtain ⟨h3, hq, hf⟩ := xc1_e hf
    refine J_cVv (Mc := mX4_clear) [] dX11_offerJoin_25 (fc_Row_clear.fit ⟨xbl rfl, xbl rfl⟩) rfl ⟨Or.inr ⟨_, xq913⟩, xq509, xq3⟩ kO23 (ci := 4) rfl rfl (xbl rfl) (xbl rfl) (jm_Row_clear kO23 hq) ?_
    refine J_iconst dX11_offerJoin_28 (by decide) ?_
    refine J_istore_n (ls' := [(3, xI 0), (0, xR 1), (1, xI l1), (2, xI l2)]) dX11_offerJoin_29 rfl (by decide) rfl rfl ?_
    refine J_sub [1, 2, 3, 0] rfl ?_
    exact j_WM_offerJoin_30  hf kb ke kr
  · have hf := xin' hc hf
    refine J_sub [] rfl ?_
    exact ke _ (xinl hf)
theorem j_WM_offerJoin_2 {l1 : Int} {l2 : Int} {h : xH} {h0 : xH}  (hf : f_WM_offerJoin_2 l1 l2 h = some h0)  : J mX11_offerJoin true 0 0 2 xKn [(0, xR 1), (1, xI l1), (2, xI l2)] [] h (xEq none h0) := by
  unfold f_WM_offerJoin_2 at hf
  obtain ⟨b0, hb0, hf⟩ := xc1_e hf
  refine xloop_ind (P := fun s : (Int × xH) => J mX11_offerJoin true 0 0 2 xKn [(0, xR 1), (1, xI l1), (2, xI s.1)] [] s.2 (xEq none h0)) hb0 (fun s x1 hs ib ie => ?_)
  exact j_WM_offerJoin_s2  hs (fun _ _ e => ib _ e) (fun _ e => by have := ie _ e; subst this; exact j_WM_offerJoin_145  hf) (fun _ e => by have := ie _ e; subst this; exact xq_v hf)
theorem jm_WM_offerJoin {l1 : Int} {h : xH} {h0 : xH}  (hf : f_WM_offerJoin l1 h = some h0) : J mX11_offerJoin true 0 0 0 xKn (xen 0 [xR 1, xI l1]) [] h (xEq none h0) := by
  unfold f_WM_offerJoin at hf
  refine J_cong (ls2 := [(0, xR 1), (1, xI l1)]) (st2 := []) rfl rfl ?_
  refine J_iconst dX11_offerJoin_0 (by decide) ?_
  refine J_istore_n (ls' := [(2, xI 1), (0, xR 1), (1, xI l1)]) dX11_offerJoin_1 rfl (by decide) rfl rfl ?_
  refine J_sub [1, 2, 0] rfl ?_
  exact j_WM_offerJoin_2  hf
theorem dX11_offerMended_0 : decode cX11_offerMended 0 = .ok (.aload_n 0, 1) := by decide +kernel
theorem dX11_offerMended_1 : decode cX11_offerMended 1 = .ok (.getfield 92, 3) := by decide +kernel
theorem dX11_offerMended_4 : decode cX11_offerMended 4 = .ok (.aload_n 0, 1) := by decide +kernel
theorem dX11_offerMended_5 : decode cX11_offerMended 5 = .ok (.getfield 79, 3) := by decide +kernel
theorem dX11_offerMended_8 : decode cX11_offerMended 8 = .ok (.getfield 204, 3) := by decide +kernel
theorem dX11_offerMended_11 : decode cX11_offerMended 11 = .ok (.iload_n 2, 1) := by decide +kernel
theorem dX11_offerMended_12 : decode cX11_offerMended 12 = .ok (.iconst 1, 1) := by decide +kernel
theorem dX11_offerMended_13 : decode cX11_offerMended 13 = .ok (.invokevirtual 207, 3) := by decide +kernel
theorem dX11_offerMended_16 : decode cX11_offerMended 16 = .ok (.ifCond .le 31, 3) := by decide +kernel
theorem dX11_offerMended_19 : decode cX11_offerMended 19 = .ok (.aload_n 0, 1) := by decide +kernel
theorem dX11_offerMended_20 : decode cX11_offerMended 20 = .ok (.getfield 98, 3) := by decide +kernel
theorem dX11_offerMended_23 : decode cX11_offerMended 23 = .ok (.iconst 1, 1) := by decide +kernel
theorem dX11_offerMended_24 : decode cX11_offerMended 24 = .ok (.iload_n 1, 1) := by decide +kernel
theorem dX11_offerMended_25 : decode cX11_offerMended 25 = .ok (.aload_n 0, 1) := by decide +kernel
theorem dX11_offerMended_26 : decode cX11_offerMended 26 = .ok (.getfield 92, 3) := by decide +kernel
theorem dX11_offerMended_29 : decode cX11_offerMended 29 = .ok (.iconst 0, 1) := by decide +kernel
theorem dX11_offerMended_30 : decode cX11_offerMended 30 = .ok (.iconst 1, 1) := by decide +kernel
theorem dX11_offerMended_31 : decode cX11_offerMended 31 = .ok (.invokevirtual 215, 3) := by decide +kernel
theorem dX11_offerMended_34 : decode cX11_offerMended 34 = .ok (.aload_n 0, 1) := by decide +kernel
theorem dX11_offerMended_35 : decode cX11_offerMended 35 = .ok (.getfield 92, 3) := by decide +kernel
theorem dX11_offerMended_38 : decode cX11_offerMended 38 = .ok (.iconst 0, 1) := by decide +kernel
theorem dX11_offerMended_39 : decode cX11_offerMended 39 = .ok (.iconst 0, 1) := by decide +kernel
theorem dX11_offerMended_40 : decode cX11_offerMended 40 = .ok (.invokevirtual 215, 3) := by decide +kernel
theorem dX11_offerMended_43 : decode cX11_offerMended 43 = .ok (.iconst (-1), 1) := by decide +kernel
theorem dX11_offerMended_44 : decode cX11_offerMended 44 = .ok (.invokevirtual 251, 3) := by decide +kernel
theorem dX11_offerMended_47 : decode cX11_offerMended 47 = .ok (.return_, 1) := by decide +kernel
theorem jm_WM_offerMended {l1 : Int} {l2 : Int} {h : xH} {h0 : xH}  (hf : f_WM_offerMended l1 l2 h = some h0) : J mX11_offerMended true 0 0 0 xKn (xen 0 [xR 1, xI l1, xI l2]) [] h (xEq none h0) := by
  unfold f_WM_offerMended at hf
  refine J_cong (ls2 := [(0, xR 1), (1, xI l1), (2, xI l2)]) (st2 := []) rfl rfl ?_
  refine J_aload_n 0 dX11_offerMended_0 rfl rfl ?_
  refine J_getRl (j := 14) xcf11 dX11_offerMended_1 kO1 (Or.inl xq449) (by decide) (by decide) rf_1_14 ?_
  refine J_aload_n 0 dX11_offerMended_4 rfl rfl ?_
  refine J_getRl (j := 12) xcf11 dX11_offerMended_5 kO1 (Or.inl xq447) (by decide) (by decide) rf_1_12 ?_
  refine J_getRl (j := 7) xcf9 dX11_offerMended_8 kO48 (Or.inr ⟨_, xq339⟩) (by decide) (by decide) rf_48_7 ?_
  refine J_iload_n 2 dX11_offerMended_11 rfl rfl ?_
  refine J_iconst dX11_offerMended_12 (by decide) ?_
  obtain ⟨r1, h2, hq, hf⟩ := xc2_e hf
  refine J_cVi (Mc := mX0_gather) [xR 60, xI l2, xI 1] dX11_offerMended_13 (fc_Found_gather.fit ⟨xbl rfl, xbl rfl⟩) rfl ⟨Or.inr ⟨_, xq775⟩, xq777, xq48⟩ kO66 (ci := 0) rfl rfl (xbl rfl) (xbl rfl) (jm_Found_gather kO66 kO60 hq) ?_
  refine J_if_le (tgt := 47) dX11_offerMended_16 (by decide) (fun hc => ?_) (fun hc => ?_)
  · have hf := xip hc hf
    refine J_aload_n 0 dX11_offerMended_19 rfl rfl ?_
    refine J_getRl (j := 15) xcf11 dX11_offerMended_20 kO1 (Or.inl xq450) (by decide) (by decide) rf_1_15 ?_
    refine J_iconst dX11_offerMended_23 (by decide) ?_
    refine J_iload_n 1 dX11_offerMended_24 rfl rfl ?_
    refine J_aload_n 0 dX11_offerMended_25 rfl rfl ?_
    refine J_getRl (j := 14) xcf11 dX11_offerMended_26 kO1 (Or.inl xq449) (by decide) (by decide) rf_1_14 ?_
    refine J_iconst dX11_offerMended_29 (by decide) ?_
    refine J_iconst dX11_offerMended_30 (by decide) ?_
    obtain ⟨r3, hq, hf⟩ := xc1_e hf
    refine J_cVi (Mc := mX0_tell) [xI 0, xI 1] dX11_offerMended_31 (fc_Found_tell.fit ⟨xbl rfl, xbl rfl⟩) rfl ⟨Or.inr ⟨_, xq812⟩, xq814, xq53⟩ kO66 (ci := 0) rfl rfl (xbl rfl) (xbl rfl) (jm_Found_tell kO66 hq) ?_
    refine J_aload_n 0 dX11_offerMended_34 rfl rfl ?_
    refine J_getRl (j := 14) xcf11 dX11_offerMended_35 kO1 (Or.inl xq449) (by decide) (by decide) rf_1_14 ?_
    refine J_iconst dX11_offerMended_38 (by decide) ?_
    refine J_iconst dX11_offerMended_39 (by decide) ?_
    obtain ⟨r4, hq, hf⟩ := xc1_e hf
    refine J_cVi (Mc := mX0_tell) [xI 0, xI 0] dX11_offerMended_40 (fc_Found_tell.fit ⟨xbl rfl, xbl rfl⟩) rfl ⟨Or.inr ⟨_, xq812⟩, xq814, xq53⟩ kO66 (ci := 0) rfl rfl (xbl rfl) (xbl rfl) (jm_Found_tell kO66 hq) ?_
    refine J_iconst dX11_offerMended_43 (by decide) ?_
    obtain ⟨h5, hq, hf⟩ := xc1_e hf
    refine J_cVv (Mc := mX2_offer) [xI 1, xI l1, xI r3, xI r4, xI (-1)] dX11_offerMended_44 (fc_Mend_offer.fit ⟨xbl rfl, xbl rfl⟩) rfl ⟨Or.inr ⟨_, xq888⟩, xq890, xq64⟩ kO70 (ci := 2) rfl rfl (xbl rfl) (xbl rfl) (jm_Mend_offer  hq) ?_
    exact J_rt dX11_offerMended_47 rfl (xq_v hf)
  · have hf := xin' hc hf
    exact J_rt dX11_offerMended_47 rfl (xq_v hf)
theorem dX2_taken_0 : decode cX2_taken 0 = .ok (.iload_n 0, 1) := by decide +kernel
theorem dX2_taken_1 : decode cX2_taken 1 = .ok (.iconst 2, 1) := by decide +kernel
theorem dX2_taken_2 : decode cX2_taken 2 = .ok (.if_icmp .ne 7, 3) := by decide +kernel
theorem dX2_taken_5 : decode cX2_taken 5 = .ok (.iconst 2, 1) := by decide +kernel
theorem dX2_taken_6 : decode cX2_taken 6 = .ok (.goto 4, 3) := by decide +kernel
theorem dX2_taken_9 : decode cX2_taken 9 = .ok (.iconst 1, 1) := by decide +kernel
theorem dX2_taken_10 : decode cX2_taken 10 = .ok (.ireturn, 1) := by decide +kernel
theorem jm_Mend_taken {l0 : Int} {h : xH} {r0 : Int}  (hf : f_Mend_taken l0 h = some r0) : J mX2_taken true 0 0 0 xKn (xen 0 [xI l0]) [] h (xEq (some r0) h) := by
  unfold f_Mend_taken at hf
  refine J_cong (ls2 := [(0, xI l0)]) (st2 := []) rfl rfl ?_
  refine J_iload_n 0 dX2_taken_0 rfl rfl ?_
  refine J_iconst dX2_taken_1 (by decide) ?_
  refine J_ic_ne (tgt := 9) dX2_taken_2 (by decide) (fun hc => ?_) (fun hc => ?_)
  · have hf := xip hc hf
    refine J_iconst dX2_taken_5 (by decide) ?_
    refine J_goto (tgt := 10) dX2_taken_6 (by decide) ?_
    exact J_ireti dX2_taken_10 rfl (xq_p hf)
  · have hf := xin' hc hf
    refine J_iconst dX2_taken_9 (by decide) ?_
    exact J_ireti dX2_taken_10 rfl (xq_p hf)
theorem dX2_sumBy_0 : decode cX2_sumBy 0 = .ok (.aload_n 0, 1) := by decide +kernel
theorem dX2_sumBy_1 : decode cX2_sumBy 1 = .ok (.iload_n 1, 1) := by decide +kernel
theorem dX2_sumBy_2 : decode cX2_sumBy 2 = .ok (.iload_n 2, 1) := by decide +kernel
theorem dX2_sumBy_3 : decode cX2_sumBy 3 = .ok (.invokevirtual 52, 3) := by decide +kernel
theorem dX2_sumBy_6 : decode cX2_sumBy 6 = .ok (.istore_n 3, 1) := by decide +kernel
theorem dX2_sumBy_7 : decode cX2_sumBy 7 = .ok (.iload_n 2, 1) := by decide +kernel
theorem dX2_sumBy_8 : decode cX2_sumBy 8 = .ok (.iload_n 1, 1) := by decide +kernel
theorem dX2_sumBy_9 : decode cX2_sumBy 9 = .ok (.invokestatic 62, 3) := by decide +kernel
theorem dX2_sumBy_12 : decode cX2_sumBy 12 = .ok (.iadd, 1) := by decide +kernel
theorem dX2_sumBy_13 : decode cX2_sumBy 13 = .ok (.istore 4, 2) := by decide +kernel
theorem dX2_sumBy_15 : decode cX2_sumBy 15 = .ok (.iload_n 3, 1) := by decide +kernel
theorem dX2_sumBy_16 : decode cX2_sumBy 16 = .ok (.iconst (-1), 1) := by decide +kernel
theorem dX2_sumBy_17 : decode cX2_sumBy 17 = .ok (.if_icmp .eq 30, 3) := by decide +kernel
theorem dX2_sumBy_20 : decode cX2_sumBy 20 = .ok (.iload 4, 2) := by decide +kernel
theorem dX2_sumBy_22 : decode cX2_sumBy 22 = .ok (.aload_n 0, 1) := by decide +kernel
theorem dX2_sumBy_23 : decode cX2_sumBy 23 = .ok (.getfield 21, 3) := by decide +kernel
theorem dX2_sumBy_26 : decode cX2_sumBy 26 = .ok (.arraylength, 1) := by decide +kernel
theorem dX2_sumBy_27 : decode cX2_sumBy 27 = .ok (.if_icmp .ge 20, 3) := by decide +kernel
theorem dX2_sumBy_30 : decode cX2_sumBy 30 = .ok (.aload_n 0, 1) := by decide +kernel
theorem dX2_sumBy_31 : decode cX2_sumBy 31 = .ok (.getfield 9, 3) := by decide +kernel
theorem dX2_sumBy_34 : decode cX2_sumBy 34 = .ok (.iload_n 3, 1) := by decide +kernel
theorem dX2_sumBy_35 : decode cX2_sumBy 35 = .ok (.iaload, 1) := by decide +kernel
theorem dX2_sumBy_36 : decode cX2_sumBy 36 = .ok (.aload_n 0, 1) := by decide +kernel
theorem dX2_sumBy_37 : decode cX2_sumBy 37 = .ok (.getfield 21, 3) := by decide +kernel
theorem dX2_sumBy_40 : decode cX2_sumBy 40 = .ok (.iload 4, 2) := by decide +kernel
theorem dX2_sumBy_42 : decode cX2_sumBy 42 = .ok (.iaload, 1) := by decide +kernel
theorem dX2_sumBy_43 : decode cX2_sumBy 43 = .ok (.iadd, 1) := by decide +kernel
theorem dX2_sumBy_44 : decode cX2_sumBy 44 = .ok (.goto 4, 3) := by decide +kernel
theorem dX2_sumBy_47 : decode cX2_sumBy 47 = .ok (.iconst 0, 1) := by decide +kernel
theorem dX2_sumBy_48 : decode cX2_sumBy 48 = .ok (.ireturn, 1) := by decide +kernel
theorem jm_Mend_sumBy {l1 : Int} {l2 : Int} {h : xH} {r0 : Int}  (hf : f_Mend_sumBy l1 l2 h = some r0) : J mX2_sumBy true 0 0 0 xKn (xen 0 [xR 70, xI l1, xI l2]) [] h (xEq (some r0) h) := by
  unfold f_Mend_sumBy at hf
  refine J_cong (ls2 := [(0, xR 70), (1, xI l1), (2, xI l2)]) (st2 := []) rfl rfl ?_
  refine J_aload_n 0 dX2_sumBy_0 rfl rfl ?_
  refine J_iload_n 1 dX2_sumBy_1 rfl rfl ?_
  refine J_iload_n 2 dX2_sumBy_2 rfl rfl ?_
  obtain ⟨r1, hq, hf⟩ := xc1_e hf
  refine J_cVi (Mc := mX2_cellOf) [xI l1, xI l2] dX2_sumBy_3 (fc_Mend_cellOf.fit ⟨xbl rfl, xbl rfl⟩) rfl ⟨Or.inl xq892, xq894, xq65⟩ kO70 (ci := 2) rfl rfl (xbl rfl) (xbl rfl) (jm_Mend_cellOf  hq) ?_
  refine J_istore_n (ls' := [(3, xI r1), (0, xR 70), (1, xI l1), (2, xI l2)]) dX2_sumBy_6 rfl (by decide) rfl rfl ?_
  refine J_iload_n 3 dX2_sumBy_7 rfl rfl ?_
  refine J_iload_n 2 dX2_sumBy_8 rfl rfl ?_
  obtain ⟨r2, hq, hf⟩ := xc1_e hf
  refine J_cSi (Mc := mX2_taken) [xI l1] dX2_sumBy_9 (fc_Mend_taken.fit ⟨xbl rfl, xbl rfl⟩) rfl ⟨Or.inl xq931, xq932⟩ rfl (xbl rfl) (xbl rfl) (jm_Mend_taken  hq) ?_
  refine J_iadd dX2_sumBy_12 ?_
  obtain ⟨x3, ex3, hf⟩ := xlet_e hf
  refine J_istore (ls' := [(4, xI x3), (3, xI r1), (0, xR 70), (1, xI l1), (2, xI l2)]) dX2_sumBy_13 (by decide) ex3 rfl ?_
  refine J_iload_n 1 dX2_sumBy_15 rfl rfl ?_
  refine J_iconst dX2_sumBy_16 (by decide) ?_
  refine J_ic_eq (tgt := 47) dX2_sumBy_17 (by decide) (fun hc => ?_) (fun hc => ?_)
  · have hf := xip hc hf
    refine J_iconst dX2_sumBy_47 (by decide) ?_
    exact J_ireti dX2_sumBy_48 rfl (xq_p hf)
  · have hf := xin' hc hf
    refine J_iload 0 dX2_sumBy_20 rfl ?_
    refine J_aload_n 2 dX2_sumBy_22 rfl rfl ?_
    refine J_getRl (j := 3) xcf2 dX2_sumBy_23 kO70 (Or.inl xq393) (by decide) (by decide) rf_70_3 ?_
    refine J_alen dX2_sumBy_26 (xK_r1 kO74) (Or.inl kO74) (by decide) nA74 ?_
    refine J_ic_ge (tgt := 47) dX2_sumBy_27 (by decide) (fun hc => ?_) (fun hc => ?_)
    · have hf := xip hc hf
      refine J_aload_n 2 dX2_sumBy_30 rfl rfl ?_
      refine J_getRl (j := 0) xcf2 dX2_sumBy_31 kO70 (Or.inl xq390) (by decide) (by decide) rf_70_0 ?_
      refine J_iload_n 1 dX2_sumBy_34 rfl rfl ?_
      obtain ⟨hg, hf⟩ := xgd_e hf
      refine J_iald dX2_sumBy_35 (xK_r1 kO71) kO71 hg nA71 ?_
      refine J_aload_n 2 dX2_sumBy_36 rfl rfl ?_
      refine J_getRl (j := 3) xcf2 dX2_sumBy_37 kO70 (Or.inl xq393) (by decide) (by decide) rf_70_3 ?_
      refine J_iload 0 dX2_sumBy_40 rfl ?_
      obtain ⟨hg, hf⟩ := xgd_e hf
      refine J_iald dX2_sumBy_42 (xK_r1 kO74) kO74 hg nA74 ?_
      refine J_iadd dX2_sumBy_43 ?_
      refine J_goto (tgt := 48) dX2_sumBy_44 (by decide) ?_
      exact J_ireti dX2_sumBy_48 rfl (xq_p hf)
    · have hf := xin' hc hf
      refine J_iconst dX2_sumBy_47 (by decide) ?_
      exact J_ireti dX2_sumBy_48 rfl (xq_p hf)
theorem dX2_bestKind_0 : decode cX2_bestKind 0 = .ok (.iconst (-1), 1) := by decide +kernel
theorem dX2_bestKind_1 : decode cX2_bestKind 1 = .ok (.istore_n 2, 1) := by decide +kernel
theorem dX2_bestKind_2 : decode cX2_bestKind 2 = .ok (.iconst 0, 1) := by decide +kernel
theorem dX2_bestKind_3 : decode cX2_bestKind 3 = .ok (.istore_n 3, 1) := by decide +kernel
theorem dX2_bestKind_4 : decode cX2_bestKind 4 = .ok (.iload_n 3, 1) := by decide +kernel
theorem dX2_bestKind_5 : decode cX2_bestKind 5 = .ok (.iconst 5, 1) := by decide +kernel
theorem dX2_bestKind_6 : decode cX2_bestKind 6 = .ok (.if_icmp .ge 40, 3) := by decide +kernel
theorem dX2_bestKind_9 : decode cX2_bestKind 9 = .ok (.aload_n 0, 1) := by decide +kernel
theorem dX2_bestKind_10 : decode cX2_bestKind 10 = .ok (.iload_n 3, 1) := by decide +kernel
theorem dX2_bestKind_11 : decode cX2_bestKind 11 = .ok (.iload_n 1, 1) := by decide +kernel
theorem dX2_bestKind_12 : decode cX2_bestKind 12 = .ok (.invokevirtual 65, 3) := by decide +kernel
theorem dX2_bestKind_15 : decode cX2_bestKind 15 = .ok (.ifCond .eq 25, 3) := by decide +kernel
theorem dX2_bestKind_18 : decode cX2_bestKind 18 = .ok (.iload_n 2, 1) := by decide +kernel
theorem dX2_bestKind_19 : decode cX2_bestKind 19 = .ok (.iconst (-1), 1) := by decide +kernel
theorem dX2_bestKind_20 : decode cX2_bestKind 20 = .ok (.if_icmp .eq 18, 3) := by decide +kernel
theorem dX2_bestKind_23 : decode cX2_bestKind 23 = .ok (.aload_n 0, 1) := by decide +kernel
theorem dX2_bestKind_24 : decode cX2_bestKind 24 = .ok (.iload_n 3, 1) := by decide +kernel
theorem dX2_bestKind_25 : decode cX2_bestKind 25 = .ok (.iload_n 1, 1) := by decide +kernel
theorem dX2_bestKind_26 : decode cX2_bestKind 26 = .ok (.invokevirtual 59, 3) := by decide +kernel
theorem dX2_bestKind_29 : decode cX2_bestKind 29 = .ok (.aload_n 0, 1) := by decide +kernel
theorem dX2_bestKind_30 : decode cX2_bestKind 30 = .ok (.iload_n 2, 1) := by decide +kernel
theorem dX2_bestKind_31 : decode cX2_bestKind 31 = .ok (.iload_n 1, 1) := by decide +kernel
theorem dX2_bestKind_32 : decode cX2_bestKind 32 = .ok (.invokevirtual 59, 3) := by decide +kernel
theorem dX2_bestKind_35 : decode cX2_bestKind 35 = .ok (.if_icmp .ge 5, 3) := by decide +kernel
theorem dX2_bestKind_38 : decode cX2_bestKind 38 = .ok (.iload_n 3, 1) := by decide +kernel
theorem dX2_bestKind_39 : decode cX2_bestKind 39 = .ok (.istore_n 2, 1) := by decide +kernel
theorem dX2_bestKind_40 : decode cX2_bestKind 40 = .ok (.iinc 3 1, 3) := by decide +kernel
theorem dX2_bestKind_43 : decode cX2_bestKind 43 = .ok (.goto (-39), 3) := by decide +kernel
theorem dX2_bestKind_46 : decode cX2_bestKind 46 = .ok (.iload_n 2, 1) := by decide +kernel
theorem dX2_bestKind_47 : decode cX2_bestKind 47 = .ok (.ireturn, 1) := by decide +kernel
theorem j_Mend_bestKind_46 {l2 : Int} {h : xH} {r0 : Int}  (hf : f_Mend_bestKind_46 l2 h = some r0)  : J mX2_bestKind true 0 0 46 xKn [(2, xI l2)] [] h (xEq (some r0) h) := by
  unfold f_Mend_bestKind_46 at hf
  refine J_iload_n 0 dX2_bestKind_46 rfl rfl ?_
  exact J_ireti dX2_bestKind_47 rfl (xq_p hf)
theorem j_Mend_bestKind_40 {l1 : Int} {l2 : Int} {l3 : Int} {h : xH} {x : ((Int × Int) ⊕ Int)} {Q : xQ}  (hf : f_Mend_bestKind_40 l1 l2 l3 h = some x) (kb : ∀ (l2' : Int) (l3' : Int), x = Sum.inl (l2', l3') → J mX2_bestKind true 0 0 4 xKn [(0, xR 70), (1, xI l1), (2, xI l2'), (3, xI l3')] [] h Q) (ke : ∀ (l2' : Int), x = (Sum.inr l2') → J mX2_bestKind true 0 0 46 xKn [(2, xI l2')] [] h Q) : J mX2_bestKind true 0 0 40 xKn [(0, xR 70), (1, xI l1), (2, xI l2), (3, xI l3)] [] h Q := by
  unfold f_Mend_bestKind_40 at hf
  obtain ⟨x1, ex1, hf⟩ := xlet_e hf
  refine J_iinc (ls' := [(3, xI x1), (0, xR 70), (1, xI l1), (2, xI l2)]) 3 dX2_bestKind_40 rfl (by decide) ex1 rfl ?_
  refine J_goto (tgt := 4) dX2_bestKind_43 (by decide) ?_
  refine J_sub [1, 2, 3, 0] rfl ?_
  exact kb _ _ (xinl hf)
theorem j_Mend_bestKind_38 {l1 : Int} {l3 : Int} {h : xH} {x : ((Int × Int) ⊕ Int)} {Q : xQ}  (hf : f_Mend_bestKind_38 l1 l3 h = some x) (kb : ∀ (l2' : Int) (l3' : Int), x = Sum.inl (l2', l3') → J mX2_bestKind true 0 0 4 xKn [(0, xR 70), (1, xI l1), (2, xI l2'), (3, xI l3')] [] h Q) (ke : ∀ (l2' : Int), x = (Sum.inr l2') → J mX2_bestKind true 0 0 46 xKn [(2, xI l2')] [] h Q) : J mX2_bestKind true 0 0 38 xKn [(0, xR 70), (1, xI l1), (3, xI l3)] [] h Q := by
  unfold f_Mend_bestKind_38 at hf
  refine J_iload_n 2 dX2_bestKind_38 rfl rfl ?_
  refine J_istore_n (ls' := [(2, xI l3), (0, xR 70), (1, xI l1), (3, xI l3)]) dX2_bestKind_39 rfl (by decide) rfl rfl ?_
  refine J_sub [1, 2, 0, 3] rfl ?_
  exact j_Mend_bestKind_40  hf kb ke
theorem j_Mend_bestKind_s4 {l1 : Int} {l2 : Int} {l3 : Int} {h : xH} {x : ((Int × Int) ⊕ Int)} {Q : xQ}  (hf : f_Mend_bestKind_s4 l1 l2 l3 h = some x) (kb : ∀ (l2' : Int) (l3' : Int), x = Sum.inl (l2', l3') → J mX2_bestKind true 0 0 4 xKn [(0, xR 70), (1, xI l1), (2, xI l2'), (3, xI l3')] [] h Q) (ke : ∀ (l2' : Int), x = (Sum.inr l2') → J mX2_bestKind true 0 0 46 xKn [(2, xI l2')] [] h Q) : J mX2_bestKind true 0 0 4 xKn [(0, xR 70), (1, xI l1), (2, xI l2), (3, xI l3)] [] h Q := by
  unfold f_Mend_bestKind_s4 at hf
  refine J_iload_n 3 dX2_bestKind_4 rfl rfl ?_
  refine J_iconst dX2_bestKind_5 (by decide) ?_
  refine J_ic_ge (tgt := 46) dX2_bestKind_6 (by decide) (fun hc => ?_) (fun hc => ?_)
  · have hf := xip hc hf
    refine J_aload_n 0 dX2_bestKind_9 rfl rfl ?_
    refine J_iload_n 3 dX2_bestKind_10 rfl rfl ?_
    refine J_iload_n 1 dX2_bestKind_11 rfl rfl ?_
    obtain ⟨r1, hq, hf⟩ := xc1_e hf
    refine J_cVi (Mc := mX2_offers) [xI l3, xI l1] dX2_bestKind_12 (fc_Mend_offers.fit ⟨xbl rfl, xbl rfl⟩) rfl ⟨Or.inl xq926, xq902, xq67⟩ kO70 (ci := 2) rfl rfl (xbl rfl) (xbl rfl) (jm_Mend_offers  hq) ?_
    refine J_if_eq (tgt := 40) dX2_bestKind_15 (by decide) (fun hc => ?_) (fun hc => ?_)
    · have hf := xip hc hf
      exact j_Mend_bestKind_40  hf kb ke
    · have hf := xin' hc hf
      refine J_iload_n 2 dX2_bestKind_18 rfl rfl ?_
      refine J_iconst dX2_bestKind_19 (by decide) ?_
      refine J_ic_eq (tgt := 38) dX2_bestKind_20 (by decide) (fun hc => ?_) (fun hc => ?_)
      · have hf := xip hc hf
        refine J_sub [0, 1, 3] rfl ?_
        exact j_Mend_bestKind_38  hf kb ke
      · have hf := xin' hc hf
        refine J_aload_n 0 dX2_bestKind_23 rfl rfl ?_
        refine J_iload_n 3 dX2_bestKind_24 rfl rfl ?_
        refine J_iload_n 1 dX2_bestKind_25 rfl rfl ?_
        obtain ⟨r2, hq, hf⟩ := xc1_e hf
        refine J_cVi (Mc := mX2_sumBy) [xI l3, xI l1] dX2_bestKind_26 (fc_Mend_sumBy.fit ⟨xbl rfl, xbl rfl⟩) rfl ⟨Or.inl xq927, xq929, xq73⟩ kO70 (ci := 2) rfl rfl (xbl rfl) (xbl rfl) (jm_Mend_sumBy  hq) ?_
        refine J_aload_n 0 dX2_bestKind_29 rfl rfl ?_
        refine J_iload_n 2 dX2_bestKind_30 rfl rfl ?_
        refine J_iload_n 1 dX2_bestKind_31 rfl rfl ?_
        obtain ⟨r3, hq, hf⟩ := xc1_e hf
        refine J_cVi (Mc := mX2_sumBy) [xI l2, xI l1] dX2_bestKind_32 (fc_Mend_sumBy.fit ⟨xbl rfl, xbl rfl⟩) rfl ⟨Or.inl xq927, xq929, xq73⟩ kO70 (ci := 2) rfl rfl (xbl rfl) (xbl rfl) (jm_Mend_sumBy  hq) ?_
        refine J_ic_ge (tgt := 40) dX2_bestKind_35 (by decide) (fun hc => ?_) (fun hc => ?_)
        · have hf := xip hc hf
          refine J_sub [0, 1, 3] rfl ?_
          exact j_Mend_bestKind_38  hf kb ke
        · have hf := xin' hc hf
          exact j_Mend_bestKind_40  hf kb ke
  · have hf := xin' hc hf
    refine J_sub [2] rfl ?_
    exact ke _ (xinl hf)
theorem j_Mend_bestKind_4 {l1 : Int} {l2 : Int} {l3 : Int} {h : xH} {r0 : Int}  (hf : f_Mend_bestKind_4 l1 l2 l3 h = some r0)  : J mX2_bestKind true 0 0 4 xKn [(0, xR 70), (1, xI l1), (2, xI l2), (3, xI l3)] [] h (xEq (some r0) h) := by
  unfold f_Mend_bestKind_4 at hf
  obtain ⟨b0, hb0, hf⟩ := xc1_e hf
  refine xloop_ind (P := fun s : (Int × Int) => J mX2_bestKind true 0 0 4 xKn [(0, xR 70), (1, xI l1), (2, xI s.1), (3, xI s.2)] [] h (xEq (some r0) h)) hb0 (fun s x1 hs ib ie => ?_)
  exact j_Mend_bestKind_s4  hs (fun _ _ e => ib _ e) (fun _ e => by have := ie _ e; subst this; exact j_Mend_bestKind_46  hf)
theorem jm_Mend_bestKind {l1 : Int} {h : xH} {r0 : Int}  (hf : f_Mend_bestKind l1 h = some r0) : J mX2_bestKind true 0 0 0 xKn (xen 0 [xR 70, xI l1]) [] h (xEq (some r0) h) := by
  unfold f_Mend_bestKind at hf
  refine J_cong (ls2 := [(0, xR 70), (1, xI l1)]) (st2 := []) rfl rfl ?_
  refine J_iconst dX2_bestKind_0 (by decide) ?_
  refine J_istore_n (ls' := [(2, xI (-1)), (0, xR 70), (1, xI l1)]) dX2_bestKind_1 rfl (by decide) rfl rfl ?_
  refine J_iconst dX2_bestKind_2 (by decide) ?_
  refine J_istore_n (ls' := [(3, xI 0), (2, xI (-1)), (0, xR 70), (1, xI l1)]) dX2_bestKind_3 rfl (by decide) rfl rfl ?_
  refine J_sub [2, 3, 1, 0] rfl ?_
  exact j_Mend_bestKind_4  hf
