/-! the machine follows the functions -/
theorem dX9_descend_0 : decode cX9_descend 0 = .ok (.iload_n 1, 1) := by decide +kernel
theorem dX9_descend_1 : decode cX9_descend 1 = .ok (.iconst 0, 1) := by decide +kernel
theorem dX9_descend_2 : decode cX9_descend 2 = .ok (.invokestatic 85, 3) := by decide +kernel
theorem dX9_descend_5 : decode cX9_descend 5 = .ok (.istore 5, 2) := by decide +kernel
theorem dX9_descend_7 : decode cX9_descend 7 = .ok (.iload 5, 2) := by decide +kernel
theorem dX9_descend_9 : decode cX9_descend 9 = .ok (.aload_n 0, 1) := by decide +kernel
theorem dX9_descend_10 : decode cX9_descend 10 = .ok (.getfield 21, 3) := by decide +kernel
theorem dX9_descend_13 : decode cX9_descend 13 = .ok (.getfield 49, 3) := by decide +kernel
theorem dX9_descend_16 : decode cX9_descend 16 = .ok (.if_icmp .gt 95, 3) := by decide +kernel
theorem dX9_descend_19 : decode cX9_descend 19 = .ok (.iload 5, 2) := by decide +kernel
theorem dX9_descend_21 : decode cX9_descend 21 = .ok (.bipush 13, 2) := by decide +kernel
theorem dX9_descend_23 : decode cX9_descend 23 = .ok (.if_icmp .ge 88, 3) := by decide +kernel
theorem dX9_descend_26 : decode cX9_descend 26 = .ok (.aload_n 0, 1) := by decide +kernel
theorem dX9_descend_27 : decode cX9_descend 27 = .ok (.iload 5, 2) := by decide +kernel
theorem dX9_descend_29 : decode cX9_descend 29 = .ok (.aload_n 2, 1) := by decide +kernel
theorem dX9_descend_30 : decode cX9_descend 30 = .ok (.invokevirtual 88, 3) := by decide +kernel
theorem dX9_descend_33 : decode cX9_descend 33 = .ok (.aload_n 0, 1) := by decide +kernel
theorem dX9_descend_34 : decode cX9_descend 34 = .ok (.iload 5, 2) := by decide +kernel
theorem dX9_descend_36 : decode cX9_descend 36 = .ok (.aload_n 2, 1) := by decide +kernel
theorem dX9_descend_37 : decode cX9_descend 37 = .ok (.invokevirtual 91, 3) := by decide +kernel
theorem dX9_descend_40 : decode cX9_descend 40 = .ok (.aload_n 0, 1) := by decide +kernel
theorem dX9_descend_41 : decode cX9_descend 41 = .ok (.iload 5, 2) := by decide +kernel
theorem dX9_descend_43 : decode cX9_descend 43 = .ok (.iload_n 3, 1) := by decide +kernel
theorem dX9_descend_44 : decode cX9_descend 44 = .ok (.invokevirtual 94, 3) := by decide +kernel
theorem dX9_descend_47 : decode cX9_descend 47 = .ok (.istore 6, 2) := by decide +kernel
theorem dX9_descend_49 : decode cX9_descend 49 = .ok (.iload 4, 2) := by decide +kernel
theorem dX9_descend_51 : decode cX9_descend 51 = .ok (.ifCond .eq 46, 3) := by decide +kernel
theorem dX9_descend_54 : decode cX9_descend 54 = .ok (.aload_n 0, 1) := by decide +kernel
theorem dX9_descend_55 : decode cX9_descend 55 = .ok (.getfield 12, 3) := by decide +kernel
theorem dX9_descend_58 : decode cX9_descend 58 = .ok (.iload 5, 2) := by decide +kernel
theorem dX9_descend_60 : decode cX9_descend 60 = .ok (.aload_n 0, 1) := by decide +kernel
theorem dX9_descend_61 : decode cX9_descend 61 = .ok (.getfield 21, 3) := by decide +kernel
theorem dX9_descend_64 : decode cX9_descend 64 = .ok (.iload 5, 2) := by decide +kernel
theorem dX9_descend_66 : decode cX9_descend 66 = .ok (.iconst 1, 1) := by decide +kernel
theorem dX9_descend_67 : decode cX9_descend 67 = .ok (.isub, 1) := by decide +kernel
theorem dX9_descend_68 : decode cX9_descend 68 = .ok (.invokevirtual 98, 3) := by decide +kernel
theorem dX9_descend_71 : decode cX9_descend 71 = .ok (.iload 5, 2) := by decide +kernel
theorem dX9_descend_73 : decode cX9_descend 73 = .ok (.aload_n 0, 1) := by decide +kernel
theorem dX9_descend_74 : decode cX9_descend 74 = .ok (.getfield 21, 3) := by decide +kernel
theorem dX9_descend_77 : decode cX9_descend 77 = .ok (.getfield 49, 3) := by decide +kernel
theorem dX9_descend_80 : decode cX9_descend 80 = .ok (.if_icmp .ne 7, 3) := by decide +kernel
theorem dX9_descend_83 : decode cX9_descend 83 = .ok (.iconst 1, 1) := by decide +kernel
theorem dX9_descend_84 : decode cX9_descend 84 = .ok (.goto 4, 3) := by decide +kernel
theorem dX9_descend_87 : decode cX9_descend 87 = .ok (.iconst 0, 1) := by decide +kernel
theorem dX9_descend_88 : decode cX9_descend 88 = .ok (.iload 6, 2) := by decide +kernel
theorem dX9_descend_90 : decode cX9_descend 90 = .ok (.aload_n 0, 1) := by decide +kernel
theorem dX9_descend_91 : decode cX9_descend 91 = .ok (.getfield 25, 3) := by decide +kernel
theorem dX9_descend_94 : decode cX9_descend 94 = .ok (.invokevirtual 101, 3) := by decide +kernel
theorem dX9_descend_97 : decode cX9_descend 97 = .ok (.iload 6, 2) := by decide +kernel
theorem dX9_descend_99 : decode cX9_descend 99 = .ok (.ifCond .eq 6, 3) := by decide +kernel
theorem dX9_descend_102 : decode cX9_descend 102 = .ok (.iload 5, 2) := by decide +kernel
theorem dX9_descend_104 : decode cX9_descend 104 = .ok (.ireturn, 1) := by decide +kernel
theorem dX9_descend_105 : decode cX9_descend 105 = .ok (.iinc 5 1, 3) := by decide +kernel
theorem dX9_descend_108 : decode cX9_descend 108 = .ok (.goto (-101), 3) := by decide +kernel
theorem dX9_descend_111 : decode cX9_descend 111 = .ok (.bipush 13, 2) := by decide +kernel
theorem dX9_descend_113 : decode cX9_descend 113 = .ok (.ireturn, 1) := by decide +kernel
theorem j_Walk_descend_111  {h : xH} {r0 : Int} {h0 : xH}  (hf : f_Walk_descend_111 h = some (r0, h0))  : J mX9_descend true 0 0 111 xKn [] [] h (xEq (some r0) h0) := by
  unfold f_Walk_descend_111 at hf
  refine J_bip dX9_descend_111 (by decide) ?_
  exact J_ireti dX9_descend_113 rfl (xq_i hf)
theorem j_Walk_descend_97 {l2 : Int} {l3 : Int} {l4 : Int} {l5 : Int} {l6 : Int} {h : xH} {x : ((Int × xH) ⊕ (xH ⊕ (Int × xH)))} {Q : xQ} (kl2 : xK l2 = 3 + 4) (hf : f_Walk_descend_97 l2 l3 l4 l5 l6 h = some x) (kb : ∀ (l5' : Int) (h' : xH), x = Sum.inl (l5', h') → J mX9_descend true 0 0 7 xKn [(0, xR 48), (2, xR l2), (3, xI l3), (4, xI l4), (5, xI l5')] [] h' Q) (ke : ∀  (h' : xH), x = (Sum.inr (Sum.inl h')) → J mX9_descend true 0 0 111 xKn [] [] h' Q) (kr : ∀ (v : Int) (h' : xH), x = (Sum.inr (Sum.inr (v, h'))) → Q (some v) xKn h') : J mX9_descend true 0 0 97 xKn [(0, xR 48), (2, xR l2), (3, xI l3), (4, xI l4), (5, xI l5), (6, xI l6)] [] h Q := by
  unfold f_Walk_descend_97 at hf
  refine J_iload 5 dX9_descend_97 rfl ?_
  refine J_if_eq (tgt := 105) dX9_descend_99 (by decide) (fun hc => ?_) (fun hc => ?_)
  · have hf := xip hc hf
    obtain ⟨x1, ex1, hf⟩ := xlet_e hf
    refine J_iinc (ls' := [(5, xI x1), (0, xR 48), (2, xR l2), (3, xI l3), (4, xI l4), (6, xI l6)]) 4 dX9_descend_105 rfl (by decide) ex1 rfl ?_
    refine J_goto (tgt := 7) dX9_descend_108 (by decide) ?_
    refine J_sub [1, 2, 3, 4, 0] rfl ?_
    exact kb _ _ (xinl hf)
  · have hf := xin' hc hf
    refine J_iload 4 dX9_descend_102 rfl ?_
    exact J_ireti dX9_descend_104 rfl (kr _ _ (xinl hf))
theorem j_Walk_descend_88 {l2 : Int} {l3 : Int} {l4 : Int} {l5 : Int} {l6 : Int} {s1 : Int} {s2 : Int} {s3 : Int} {h : xH} {x : ((Int × xH) ⊕ (xH ⊕ (Int × xH)))} {Q : xQ} (kl2 : xK l2 = 3 + 4) (hf : f_Walk_descend_88 l2 l3 l4 l5 l6 s1 s2 s3 h = some x) (kb : ∀ (l5' : Int) (h' : xH), x = Sum.inl (l5', h') → J mX9_descend true 0 0 7 xKn [(0, xR 48), (2, xR l2), (3, xI l3), (4, xI l4), (5, xI l5')] [] h' Q) (ke : ∀  (h' : xH), x = (Sum.inr (Sum.inl h')) → J mX9_descend true 0 0 111 xKn [] [] h' Q) (kr : ∀ (v : Int) (h' : xH), x = (Sum.inr (Sum.inr (v, h'))) → Q (some v) xKn h') : J mX9_descend true 0 0 88 xKn [(0, xR 48), (2, xR l2), (3, xI l3), (4, xI l4), (5, xI l5), (6, xI l6)] [xI s3, xI s2, xI s1, xR 49] h Q := by
  unfold f_Walk_descend_88 at hf
  refine J_iload 5 dX9_descend_88 rfl ?_
  refine J_aload_n 0 dX9_descend_90 rfl rfl ?_
  refine J_getRl (j := 4) xcf9 dX9_descend_91 kO48 (Or.inl xq335) (by decide) (by decide) rf_48_4 ?_
  obtain ⟨h1, hq, hf⟩ := xc1_e hf
  refine J_cVv (Mc := mX3_keep) [xI s1, xI s2, xI s3, xI l6, xR 57] dX9_descend_94 (fc_Met_keep.fit ⟨xbl rfl, xbl rfl⟩) rfl ⟨Or.inr ⟨_, xq770⟩, xq772, xq47⟩ kO49 (ci := 3) rfl rfl (xbl rfl) (xbl rfl) (jm_Met_keep kO57 hq) ?_
  exact j_Walk_descend_97 kl2 hf kb ke kr
theorem j_Walk_descend_s7 {l2 : Int} {l3 : Int} {l4 : Int} {l5 : Int} {h : xH} {x : ((Int × xH) ⊕ (xH ⊕ (Int × xH)))} {Q : xQ} (kl2 : xK l2 = 3 + 4) (hf : f_Walk_descend_s7 l2 l3 l4 l5 h = some x) (kb : ∀ (l5' : Int) (h' : xH), x = Sum.inl (l5', h') → J mX9_descend true 0 0 7 xKn [(0, xR 48), (2, xR l2), (3, xI l3), (4, xI l4), (5, xI l5')] [] h' Q) (ke : ∀  (h' : xH), x = (Sum.inr (Sum.inl h')) → J mX9_descend true 0 0 111 xKn [] [] h' Q) (kr : ∀ (v : Int) (h' : xH), x = (Sum.inr (Sum.inr (v, h'))) → Q (some v) xKn h') : J mX9_descend true 0 0 7 xKn [(0, xR 48), (2, xR l2), (3, xI l3), (4, xI l4), (5, xI l5)] [] h Q := by
  unfold f_Walk_descend_s7 at hf
  refine J_iload 4 dX9_descend_7 rfl ?_
  refine J_aload_n 0 dX9_descend_9 rfl rfl ?_
  refine J_getRl (j := 3) xcf9 dX9_descend_10 kO48 (Or.inl xq334) (by decide) (by decide) rf_48_3 ?_
  refine J_getI (j := 1) xcf4 dX9_descend_13 (xK_rg kO55) kO55 (Or.inr ⟨_, xq249⟩) (by decide) (by decide) ?_
  refine J_ic_gt (tgt := 111) dX9_descend_16 (by decide) (fun hc => ?_) (fun hc => ?_)
  · have hf := xip hc hf
    refine J_sub [] rfl ?_
    exact ke _ (xinl hf)
  · have hf := xin' hc hf
    refine J_iload 4 dX9_descend_19 rfl ?_
    refine J_bip dX9_descend_21 (by decide) ?_
    refine J_ic_ge (tgt := 111) dX9_descend_23 (by decide) (fun hc => ?_) (fun hc => ?_)
    · have hf := xip hc hf
      refine J_aload_n 0 dX9_descend_26 rfl rfl ?_
      refine J_iload 4 dX9_descend_27 rfl ?_
      refine J_aload_n 1 dX9_descend_29 rfl rfl ?_
      obtain ⟨h1, hq, hf⟩ := xc1_e hf
      refine J_cVv (Mc := mX9_fill) [xI l5, xR l2] dX9_descend_30 (fc_Walk_fill.fit ⟨xbl rfl, xbl rfl⟩) rfl ⟨Or.inl xq743, xq745, xq42⟩ kO48 (ci := 9) rfl rfl (xbl rfl) (xbl rfl) (jm_Walk_fill kl2 hq) ?_
      refine J_aload_n 0 dX9_descend_33 rfl rfl ?_
      refine J_iload 4 dX9_descend_34 rfl ?_
      refine J_aload_n 1 dX9_descend_36 rfl rfl ?_
      obtain ⟨h2, hq, hf⟩ := xc1_e hf
      refine J_cVv (Mc := mX9_sumUp) [xI l5, xR l2] dX9_descend_37 (fc_Walk_sumUp.fit ⟨xbl rfl, xbl rfl⟩) rfl ⟨Or.inl xq760, xq762, xq45⟩ kO48 (ci := 9) rfl rfl (xbl rfl) (xbl rfl) (jm_Walk_sumUp kl2 hq) ?_
      refine J_aload_n 0 dX9_descend_40 rfl rfl ?_
      refine J_iload 4 dX9_descend_41 rfl ?_
      refine J_iload_n 2 dX9_descend_43 rfl rfl ?_
      obtain ⟨r3, hq, hf⟩ := xc1_e hf
      refine J_cVi (Mc := mX9_isLeft) [xI l5, xI l3] dX9_descend_44 (fc_Walk_isLeft.fit ⟨xbl rfl, xbl rfl⟩) rfl ⟨Or.inl xq765, xq767, xq46⟩ kO48 (ci := 9) rfl rfl (xbl rfl) (xbl rfl) (jm_Walk_isLeft  hq) ?_
      refine J_istore (ls' := [(6, xI r3), (0, xR 48), (2, xR l2), (3, xI l3), (4, xI l4), (5, xI l5)]) dX9_descend_47 (by decide) rfl rfl ?_
      refine J_iload 4 dX9_descend_49 rfl ?_
      refine J_if_eq (tgt := 97) dX9_descend_51 (by decide) (fun hc => ?_) (fun hc => ?_)
      · have hf := xip hc hf
        refine J_sub [1, 2, 3, 4, 5, 0] rfl ?_
        exact j_Walk_descend_97 kl2 hf kb ke kr
      · have hf := xin' hc hf
        refine J_aload_n 1 dX9_descend_54 rfl rfl ?_
        refine J_getRl (j := 2) xcf9 dX9_descend_55 kO48 (Or.inl xq332) (by decide) (by decide) rf_48_2 ?_
        refine J_iload 5 dX9_descend_58 rfl ?_
        refine J_aload_n 1 dX9_descend_60 rfl rfl ?_
        refine J_getRl (j := 3) xcf9 dX9_descend_61 kO48 (Or.inl xq334) (by decide) (by decide) rf_48_3 ?_
        refine J_iload 5 dX9_descend_64 rfl ?_
        refine J_iconst dX9_descend_66 (by decide) ?_
        refine J_isub dX9_descend_67 ?_
        obtain ⟨r4, hq, hf⟩ := xc1_e hf
        refine J_cVi (Mc := mX4_at) [xI (w32 (l5 - 1))] dX9_descend_68 (fc_Row_at.fit ⟨xbl rfl, xbl rfl⟩) rfl ⟨Or.inr ⟨_, xq769⟩, xq538, xq10⟩ kO55 (ci := 4) rfl rfl (xbl rfl) (xbl rfl) (jm_Row_at kO55 hq) ?_
        refine J_iload 5 dX9_descend_71 rfl ?_
        refine J_aload_n 1 dX9_descend_73 rfl rfl ?_
        refine J_getRl (j := 3) xcf9 dX9_descend_74 kO48 (Or.inl xq334) (by decide) (by decide) rf_48_3 ?_
        refine J_getI (j := 1) xcf4 dX9_descend_77 (xK_rg kO55) kO55 (Or.inr ⟨_, xq249⟩) (by decide) (by decide) ?_
        refine J_ic_ne (tgt := 87) dX9_descend_80 (by decide) (fun hc => ?_) (fun hc => ?_)
        · have hf := xip hc hf
          refine J_iconst dX9_descend_83 (by decide) ?_
          refine J_goto (tgt := 88) dX9_descend_84 (by decide) ?_
          refine J_sub [1, 2, 3, 4, 5, 0] rfl ?_
          exact j_Walk_descend_88 kl2 hf kb ke kr
        · have hf := xin' hc hf
          refine J_iconst dX9_descend_87 (by decide) ?_
          refine J_sub [1, 2, 3, 4, 5, 0] rfl ?_
          exact j_Walk_descend_88 kl2 hf kb ke kr
    · have hf := xin' hc hf
      refine J_sub [] rfl ?_
      exact ke _ (xinl hf)
theorem j_Walk_descend_7 {l2 : Int} {l3 : Int} {l4 : Int} {l5 : Int} {h : xH} {r0 : Int} {h0 : xH} (kl2 : xK l2 = 3 + 4) (hf : f_Walk_descend_7 l2 l3 l4 l5 h = some (r0, h0))  : J mX9_descend true 0 0 7 xKn [(0, xR 48), (2, xR l2), (3, xI l3), (4, xI l4), (5, xI l5)] [] h (xEq (some r0) h0) := by
  unfold f_Walk_descend_7 at hf
  obtain ⟨b0, hb0, hf⟩ := xc1_e hf
  refine xloop_ind (P := fun s : (Int × xH) => J mX9_descend true 0 0 7 xKn [(0, xR 48), (2, xR l2), (3, xI l3), (4, xI l4), (5, xI s.1)] [] s.2 (xEq (some r0) h0)) hb0 (fun s x1 hs ib ie => ?_)
  exact j_Walk_descend_s7 kl2 hs (fun _ _ e => ib _ e) (fun _ e => by have := ie _ e; subst this; exact j_Walk_descend_111  hf) (fun _ _ e => by have := ie _ e; subst this; exact xq_i hf)
theorem jm_Walk_descend {l1 : Int} {l2 : Int} {l3 : Int} {l4 : Int} {h : xH} {r0 : Int} {h0 : xH} (kl2 : xK l2 = 3 + 4) (hf : f_Walk_descend l1 l2 l3 l4 h = some (r0, h0)) : J mX9_descend true 0 0 0 xKn (xen 0 [xR 48, xI l1, xR l2, xI l3, xI l4]) [] h (xEq (some r0) h0) := by
  unfold f_Walk_descend at hf
  refine J_cong (ls2 := [(0, xR 48), (1, xI l1), (2, xR l2), (3, xI l3), (4, xI l4)]) (st2 := []) rfl rfl ?_
  refine J_iload_n 1 dX9_descend_0 rfl rfl ?_
  refine J_iconst dX9_descend_1 (by decide) ?_
  refine J_mmax dX9_descend_2 ⟨xq742, xq177, xq129, xq178⟩ (xbl rfl) (xbl rfl) ?_
  obtain ⟨x1, ex1, hf⟩ := xlet_e hf
  refine J_istore (ls' := [(5, xI x1), (0, xR 48), (1, xI l1), (2, xR l2), (3, xI l3), (4, xI l4)]) dX9_descend_5 (by decide) ex1 rfl ?_
  refine J_sub [1, 3, 4, 5, 0] rfl ?_
  exact j_Walk_descend_7 kl2 hf
theorem dX9_go_0 : decode cX9_go 0 = .ok (.iload_n 3, 1) := by decide +kernel
theorem dX9_go_1 : decode cX9_go 1 = .ok (.ifCond .eq 16, 3) := by decide +kernel
theorem dX9_go_4 : decode cX9_go 4 = .ok (.aload_n 0, 1) := by decide +kernel
theorem dX9_go_5 : decode cX9_go 5 = .ok (.getfield 12, 3) := by decide +kernel
theorem dX9_go_8 : decode cX9_go 8 = .ok (.aload_n 1, 1) := by decide +kernel
theorem dX9_go_9 : decode cX9_go 9 = .ok (.getfield 49, 3) := by decide +kernel
theorem dX9_go_12 : decode cX9_go 12 = .ok (.iconst 1, 1) := by decide +kernel
theorem dX9_go_13 : decode cX9_go 13 = .ok (.iadd, 1) := by decide +kernel
theorem dX9_go_14 : decode cX9_go 14 = .ok (.invokevirtual 53, 3) := by decide +kernel
theorem dX9_go_17 : decode cX9_go 17 = .ok (.bipush 13, 2) := by decide +kernel
theorem dX9_go_19 : decode cX9_go 19 = .ok (.istore 4, 2) := by decide +kernel
theorem dX9_go_21 : decode cX9_go 21 = .ok (.iconst 0, 1) := by decide +kernel
theorem dX9_go_22 : decode cX9_go 22 = .ok (.istore 5, 2) := by decide +kernel
theorem dX9_go_24 : decode cX9_go 24 = .ok (.iload 5, 2) := by decide +kernel
theorem dX9_go_26 : decode cX9_go 26 = .ok (.aload_n 0, 1) := by decide +kernel
theorem dX9_go_27 : decode cX9_go 27 = .ok (.getfield 41, 3) := by decide +kernel
theorem dX9_go_30 : decode cX9_go 30 = .ok (.getfield 57, 3) := by decide +kernel
theorem dX9_go_33 : decode cX9_go 33 = .ok (.getfield 63, 3) := by decide +kernel
theorem dX9_go_36 : decode cX9_go 36 = .ok (.if_icmp .ge 197, 3) := by decide +kernel
theorem dX9_go_39 : decode cX9_go 39 = .ok (.iload 5, 2) := by decide +kernel
theorem dX9_go_41 : decode cX9_go 41 = .ok (.aload_n 0, 1) := by decide +kernel
theorem dX9_go_42 : decode cX9_go 42 = .ok (.getfield 35, 3) := by decide +kernel
theorem dX9_go_45 : decode cX9_go 45 = .ok (.arraylength, 1) := by decide +kernel
theorem dX9_go_46 : decode cX9_go 46 = .ok (.if_icmp .ge 187, 3) := by decide +kernel
theorem dX9_go_49 : decode cX9_go 49 = .ok (.iload 5, 2) := by decide +kernel
theorem dX9_go_51 : decode cX9_go 51 = .ok (.aload_n 0, 1) := by decide +kernel
theorem dX9_go_52 : decode cX9_go 52 = .ok (.getfield 38, 3) := by decide +kernel
theorem dX9_go_55 : decode cX9_go 55 = .ok (.arraylength, 1) := by decide +kernel
theorem dX9_go_56 : decode cX9_go 56 = .ok (.if_icmp .ge 177, 3) := by decide +kernel
theorem dX9_go_59 : decode cX9_go 59 = .ok (.aload_n 0, 1) := by decide +kernel
theorem dX9_go_60 : decode cX9_go 60 = .ok (.getfield 41, 3) := by decide +kernel
theorem dX9_go_63 : decode cX9_go 63 = .ok (.getfield 57, 3) := by decide +kernel
theorem dX9_go_66 : decode cX9_go 66 = .ok (.iload 5, 2) := by decide +kernel
theorem dX9_go_68 : decode cX9_go 68 = .ok (.aload_n 0, 1) := by decide +kernel
theorem dX9_go_69 : decode cX9_go 69 = .ok (.getfield 21, 3) := by decide +kernel
theorem dX9_go_72 : decode cX9_go 72 = .ok (.invokevirtual 66, 3) := by decide +kernel
theorem dX9_go_75 : decode cX9_go 75 = .ok (.aload_n 0, 1) := by decide +kernel
theorem dX9_go_76 : decode cX9_go 76 = .ok (.getfield 41, 3) := by decide +kernel
theorem dX9_go_79 : decode cX9_go 79 = .ok (.getfield 57, 3) := by decide +kernel
theorem dX9_go_82 : decode cX9_go 82 = .ok (.iload 5, 2) := by decide +kernel
theorem dX9_go_84 : decode cX9_go 84 = .ok (.invokevirtual 70, 3) := by decide +kernel
theorem dX9_go_87 : decode cX9_go 87 = .ok (.istore 6, 2) := by decide +kernel
theorem dX9_go_89 : decode cX9_go 89 = .ok (.iload 4, 2) := by decide +kernel
theorem dX9_go_91 : decode cX9_go 91 = .ok (.iload 6, 2) := by decide +kernel
theorem dX9_go_93 : decode cX9_go 93 = .ok (.if_icmp .le 16, 3) := by decide +kernel
theorem dX9_go_96 : decode cX9_go 96 = .ok (.aload_n 0, 1) := by decide +kernel
theorem dX9_go_97 : decode cX9_go 97 = .ok (.iload 6, 2) := by decide +kernel
theorem dX9_go_99 : decode cX9_go 99 = .ok (.iconst 1, 1) := by decide +kernel
theorem dX9_go_100 : decode cX9_go 100 = .ok (.iadd, 1) := by decide +kernel
theorem dX9_go_101 : decode cX9_go 101 = .ok (.aload_n 1, 1) := by decide +kernel
theorem dX9_go_102 : decode cX9_go 102 = .ok (.iload_n 2, 1) := by decide +kernel
theorem dX9_go_103 : decode cX9_go 103 = .ok (.iload_n 3, 1) := by decide +kernel
theorem dX9_go_104 : decode cX9_go 104 = .ok (.invokevirtual 74, 3) := by decide +kernel
theorem dX9_go_107 : decode cX9_go 107 = .ok (.istore 4, 2) := by decide +kernel
theorem dX9_go_109 : decode cX9_go 109 = .ok (.iload 4, 2) := by decide +kernel
theorem dX9_go_111 : decode cX9_go 111 = .ok (.aload_n 0, 1) := by decide +kernel
theorem dX9_go_112 : decode cX9_go 112 = .ok (.getfield 21, 3) := by decide +kernel
theorem dX9_go_115 : decode cX9_go 115 = .ok (.getfield 49, 3) := by decide +kernel
theorem dX9_go_118 : decode cX9_go 118 = .ok (.invokestatic 78, 3) := by decide +kernel
theorem dX9_go_121 : decode cX9_go 121 = .ok (.istore 7, 2) := by decide +kernel
theorem dX9_go_123 : decode cX9_go 123 = .ok (.iload 7, 2) := by decide +kernel
theorem dX9_go_125 : decode cX9_go 125 = .ok (.bipush 13, 2) := by decide +kernel
theorem dX9_go_127 : decode cX9_go 127 = .ok (.imul, 1) := by decide +kernel
theorem dX9_go_128 : decode cX9_go 128 = .ok (.aload_n 1, 1) := by decide +kernel
theorem dX9_go_129 : decode cX9_go 129 = .ok (.getfield 49, 3) := by decide +kernel
theorem dX9_go_132 : decode cX9_go 132 = .ok (.iadd, 1) := by decide +kernel
theorem dX9_go_133 : decode cX9_go 133 = .ok (.istore 8, 2) := by decide +kernel
theorem dX9_go_135 : decode cX9_go 135 = .ok (.iload 7, 2) := by decide +kernel
theorem dX9_go_137 : decode cX9_go 137 = .ok (.aload_n 0, 1) := by decide +kernel
theorem dX9_go_138 : decode cX9_go 138 = .ok (.getfield 21, 3) := by decide +kernel
theorem dX9_go_141 : decode cX9_go 141 = .ok (.getfield 49, 3) := by decide +kernel
theorem dX9_go_144 : decode cX9_go 144 = .ok (.if_icmp .ne 22, 3) := by decide +kernel
theorem dX9_go_147 : decode cX9_go 147 = .ok (.iload 8, 2) := by decide +kernel
theorem dX9_go_149 : decode cX9_go 149 = .ok (.ifCond .lt 17, 3) := by decide +kernel
theorem dX9_go_152 : decode cX9_go 152 = .ok (.iload 8, 2) := by decide +kernel
theorem dX9_go_154 : decode cX9_go 154 = .ok (.aload_n 0, 1) := by decide +kernel
theorem dX9_go_155 : decode cX9_go 155 = .ok (.getfield 25, 3) := by decide +kernel
theorem dX9_go_158 : decode cX9_go 158 = .ok (.arraylength, 1) := by decide +kernel
theorem dX9_go_159 : decode cX9_go 159 = .ok (.if_icmp .ge 7, 3) := by decide +kernel
theorem dX9_go_162 : decode cX9_go 162 = .ok (.iconst 1, 1) := by decide +kernel
theorem dX9_go_163 : decode cX9_go 163 = .ok (.goto 4, 3) := by decide +kernel
theorem dX9_go_166 : decode cX9_go 166 = .ok (.iconst 0, 1) := by decide +kernel
theorem dX9_go_167 : decode cX9_go 167 = .ok (.istore 9, 2) := by decide +kernel
theorem dX9_go_169 : decode cX9_go 169 = .ok (.aload_n 0, 1) := by decide +kernel
theorem dX9_go_170 : decode cX9_go 170 = .ok (.getfield 35, 3) := by decide +kernel
theorem dX9_go_173 : decode cX9_go 173 = .ok (.iload 5, 2) := by decide +kernel
theorem dX9_go_175 : decode cX9_go 175 = .ok (.iload 9, 2) := by decide +kernel
theorem dX9_go_177 : decode cX9_go 177 = .ok (.ifCond .eq 13, 3) := by decide +kernel
theorem dX9_go_180 : decode cX9_go 180 = .ok (.aload_n 0, 1) := by decide +kernel
theorem dX9_go_181 : decode cX9_go 181 = .ok (.getfield 25, 3) := by decide +kernel
theorem dX9_go_184 : decode cX9_go 184 = .ok (.iload 8, 2) := by decide +kernel
theorem dX9_go_186 : decode cX9_go 186 = .ok (.iaload, 1) := by decide +kernel
theorem dX9_go_187 : decode cX9_go 187 = .ok (.goto 5, 3) := by decide +kernel
theorem dX9_go_190 : decode cX9_go 190 = .ok (.ldc 84, 2) := by decide +kernel
theorem dX9_go_192 : decode cX9_go 192 = .ok (.iastore, 1) := by decide +kernel
theorem dX9_go_193 : decode cX9_go 193 = .ok (.aload_n 0, 1) := by decide +kernel
theorem dX9_go_194 : decode cX9_go 194 = .ok (.getfield 38, 3) := by decide +kernel
theorem dX9_go_197 : decode cX9_go 197 = .ok (.iload 5, 2) := by decide +kernel
theorem dX9_go_199 : decode cX9_go 199 = .ok (.iload 7, 2) := by decide +kernel
theorem dX9_go_201 : decode cX9_go 201 = .ok (.ifCond .lt 23, 3) := by decide +kernel
theorem dX9_go_204 : decode cX9_go 204 = .ok (.iload 7, 2) := by decide +kernel
theorem dX9_go_206 : decode cX9_go 206 = .ok (.aload_n 0, 1) := by decide +kernel
theorem dX9_go_207 : decode cX9_go 207 = .ok (.getfield 32, 3) := by decide +kernel
theorem dX9_go_210 : decode cX9_go 210 = .ok (.arraylength, 1) := by decide +kernel
theorem dX9_go_211 : decode cX9_go 211 = .ok (.if_icmp .ge 13, 3) := by decide +kernel
theorem dX9_go_214 : decode cX9_go 214 = .ok (.aload_n 0, 1) := by decide +kernel
theorem dX9_go_215 : decode cX9_go 215 = .ok (.getfield 32, 3) := by decide +kernel
theorem dX9_go_218 : decode cX9_go 218 = .ok (.iload 7, 2) := by decide +kernel
theorem dX9_go_220 : decode cX9_go 220 = .ok (.iaload, 1) := by decide +kernel
theorem dX9_go_221 : decode cX9_go 221 = .ok (.goto 5, 3) := by decide +kernel
theorem dX9_go_224 : decode cX9_go 224 = .ok (.ldc 84, 2) := by decide +kernel
theorem dX9_go_226 : decode cX9_go 226 = .ok (.iastore, 1) := by decide +kernel
theorem dX9_go_227 : decode cX9_go 227 = .ok (.iinc 5 1, 3) := by decide +kernel
theorem dX9_go_230 : decode cX9_go 230 = .ok (.goto (-206), 3) := by decide +kernel
theorem dX9_go_233 : decode cX9_go 233 = .ok (.return_, 1) := by decide +kernel
theorem j_Walk_go_233  {h : xH} {h0 : xH}  (hf : f_Walk_go_233 h = some h0)  : J mX9_go true 0 0 233 xKn [] [] h (xEq none h0) := by
  unfold f_Walk_go_233 at hf
  exact J_rt dX9_go_233 rfl (xq_v hf)
theorem j_Walk_go_226 {l1 : Int} {l2 : Int} {l3 : Int} {l4 : Int} {l5 : Int} {s1 : Int} {s2 : Int} {h : xH} {x : ((Int × Int × xH) ⊕ xH)} {Q : xQ} (kl1 : xK l1 = 3 + 4) (hf : f_Walk_go_226 l1 l2 l3 l4 l5 s1 s2 h = some x) (kb : ∀ (l4' : Int) (l5' : Int) (h' : xH), x = Sum.inl (l4', l5', h') → J mX9_go true 0 0 24 xKn [(0, xR 48), (1, xR l1), (2, xI l2), (3, xI l3), (4, xI l4'), (5, xI l5')] [] h' Q) (ke : ∀  (h' : xH), x = (Sum.inr h') → J mX9_go true 0 0 233 xKn [] [] h' Q) : J mX9_go true 0 0 226 xKn [(0, xR 48), (1, xR l1), (2, xI l2), (3, xI l3), (4, xI l4), (5, xI l5)] [xI s2, xI s1, xR 61] h Q := by
  unfold f_Walk_go_226 at hf
  obtain ⟨hg, hf⟩ := xgd_e hf
  obtain ⟨h1, eh1, hf⟩ := xlet_e hf
  refine J_iast dX9_go_226 (xK_r1 kO61) kO61 hg nA61 eh1 ?_
  obtain ⟨x2, ex2, hf⟩ := xlet_e hf
  refine J_iinc (ls' := [(5, xI x2), (0, xR 48), (1, xR l1), (2, xI l2), (3, xI l3), (4, xI l4)]) 5 dX9_go_227 rfl (by decide) ex2 rfl ?_
  refine J_goto (tgt := 24) dX9_go_230 (by decide) ?_
  refine J_sub [1, 2, 3, 4, 5, 0] rfl ?_
  exact kb _ _ _ (xinl hf)
theorem j_Walk_go_224 {l1 : Int} {l2 : Int} {l3 : Int} {l4 : Int} {l5 : Int} {s1 : Int} {h : xH} {x : ((Int × Int × xH) ⊕ xH)} {Q : xQ} (kl1 : xK l1 = 3 + 4) (hf : f_Walk_go_224 l1 l2 l3 l4 l5 s1 h = some x) (kb : ∀ (l4' : Int) (l5' : Int) (h' : xH), x = Sum.inl (l4', l5', h') → J mX9_go true 0 0 24 xKn [(0, xR 48), (1, xR l1), (2, xI l2), (3, xI l3), (4, xI l4'), (5, xI l5')] [] h' Q) (ke : ∀  (h' : xH), x = (Sum.inr h') → J mX9_go true 0 0 233 xKn [] [] h' Q) : J mX9_go true 0 0 224 xKn [(0, xR 48), (1, xR l1), (2, xI l2), (3, xI l3), (4, xI l4), (5, xI l5)] [xI s1, xR 61] h Q := by
  unfold f_Walk_go_224 at hf
  refine J_ldc (v := 1000000) dX9_go_224 xq747 (by decide) ?_
  exact j_Walk_go_226 kl1 hf kb ke
theorem j_Walk_go_192 {l1 : Int} {l2 : Int} {l3 : Int} {l4 : Int} {l5 : Int} {l7 : Int} {s1 : Int} {s2 : Int} {h : xH} {x : ((Int × Int × xH) ⊕ xH)} {Q : xQ} (kl1 : xK l1 = 3 + 4) (hf : f_Walk_go_192 l1 l2 l3 l4 l5 l7 s1 s2 h = some x) (kb : ∀ (l4' : Int) (l5' : Int) (h' : xH), x = Sum.inl (l4', l5', h') → J mX9_go true 0 0 24 xKn [(0, xR 48), (1, xR l1), (2, xI l2), (3, xI l3), (4, xI l4'), (5, xI l5')] [] h' Q) (ke : ∀  (h' : xH), x = (Sum.inr h') → J mX9_go true 0 0 233 xKn [] [] h' Q) : J mX9_go true 0 0 192 xKn [(0, xR 48), (1, xR l1), (2, xI l2), (3, xI l3), (4, xI l4), (5, xI l5), (7, xI l7)] [xI s2, xI s1, xR 60] h Q := by
  unfold f_Walk_go_192 at hf
  obtain ⟨hg, hf⟩ := xgd_e hf
  obtain ⟨h1, eh1, hf⟩ := xlet_e hf
  refine J_iast dX9_go_192 (xK_r1 kO60) kO60 hg nA60 eh1 ?_
  refine J_aload_n 0 dX9_go_193 rfl rfl ?_
  refine J_getRl (j := 8) xcf9 dX9_go_194 kO48 (Or.inl xq340) (by decide) (by decide) rf_48_8 ?_
  refine J_iload 5 dX9_go_197 rfl ?_
  refine J_iload 6 dX9_go_199 rfl ?_
  refine J_if_lt (tgt := 224) dX9_go_201 (by decide) (fun hc => ?_) (fun hc => ?_)
  · have hf := xip hc hf
    refine J_sub [0, 1, 2, 3, 4, 5] rfl ?_
    exact j_Walk_go_224 kl1 hf kb ke
  · have hf := xin' hc hf
    refine J_iload 6 dX9_go_204 rfl ?_
    refine J_aload_n 0 dX9_go_206 rfl rfl ?_
    refine J_getRl (j := 6) xcf9 dX9_go_207 kO48 (Or.inl xq337) (by decide) (by decide) rf_48_6 ?_
    refine J_alen dX9_go_210 (xK_r1 kO59) (Or.inl kO59) (by decide) nA59 ?_
    refine J_ic_ge (tgt := 224) dX9_go_211 (by decide) (fun hc => ?_) (fun hc => ?_)
    · have hf := xip hc hf
      refine J_aload_n 0 dX9_go_214 rfl rfl ?_
      refine J_getRl (j := 6) xcf9 dX9_go_215 kO48 (Or.inl xq337) (by decide) (by decide) rf_48_6 ?_
      refine J_iload 6 dX9_go_218 rfl ?_
      obtain ⟨hg, hf⟩ := xgd_e hf
      refine J_iald dX9_go_220 (xK_r1 kO59) kO59 hg nA59 ?_
      refine J_goto (tgt := 226) dX9_go_221 (by decide) ?_
      refine J_sub [0, 1, 2, 3, 4, 5] rfl ?_
      exact j_Walk_go_226 kl1 hf kb ke
    · have hf := xin' hc hf
      refine J_sub [0, 1, 2, 3, 4, 5] rfl ?_
      exact j_Walk_go_224 kl1 hf kb ke
theorem j_Walk_go_167 {l1 : Int} {l2 : Int} {l3 : Int} {l4 : Int} {l5 : Int} {l7 : Int} {l8 : Int} {s0 : Int} {h : xH} {x : ((Int × Int × xH) ⊕ xH)} {Q : xQ} (kl1 : xK l1 = 3 + 4) (hf : f_Walk_go_167 l1 l2 l3 l4 l5 l7 l8 s0 h = some x) (kb : ∀ (l4' : Int) (l5' : Int) (h' : xH), x = Sum.inl (l4', l5', h') → J mX9_go true 0 0 24 xKn [(0, xR 48), (1, xR l1), (2, xI l2), (3, xI l3), (4, xI l4'), (5, xI l5')] [] h' Q) (ke : ∀  (h' : xH), x = (Sum.inr h') → J mX9_go true 0 0 233 xKn [] [] h' Q) : J mX9_go true 0 0 167 xKn [(0, xR 48), (1, xR l1), (2, xI l2), (3, xI l3), (4, xI l4), (5, xI l5), (7, xI l7), (8, xI l8)] [xI s0] h Q := by
  unfold f_Walk_go_167 at hf
  refine J_istore (ls' := [(9, xI s0), (0, xR 48), (1, xR l1), (2, xI l2), (3, xI l3), (4, xI l4), (5, xI l5), (7, xI l7), (8, xI l8)]) dX9_go_167 (by decide) rfl rfl ?_
  refine J_aload_n 1 dX9_go_169 rfl rfl ?_
  refine J_getRl (j := 7) xcf9 dX9_go_170 kO48 (Or.inl xq338) (by decide) (by decide) rf_48_7 ?_
  refine J_iload 6 dX9_go_173 rfl ?_
  refine J_iload 0 dX9_go_175 rfl ?_
  refine J_if_eq (tgt := 190) dX9_go_177 (by decide) (fun hc => ?_) (fun hc => ?_)
  · have hf := xip hc hf
    refine J_ldc (v := 1000000) dX9_go_190 xq747 (by decide) ?_
    refine J_sub [1, 2, 3, 4, 5, 6, 7] rfl ?_
    exact j_Walk_go_192 kl1 hf kb ke
  · have hf := xin' hc hf
    refine J_aload_n 1 dX9_go_180 rfl rfl ?_
    refine J_getRl (j := 4) xcf9 dX9_go_181 kO48 (Or.inl xq335) (by decide) (by decide) rf_48_4 ?_
    refine J_iload 8 dX9_go_184 rfl ?_
    obtain ⟨hg, hf⟩ := xgd_e hf
    refine J_iald dX9_go_186 (xK_r1 kO57) kO57 hg nA57 ?_
    refine J_goto (tgt := 192) dX9_go_187 (by decide) ?_
    refine J_sub [1, 2, 3, 4, 5, 6, 7] rfl ?_
    exact j_Walk_go_192 kl1 hf kb ke
theorem j_Walk_go_166 {l1 : Int} {l2 : Int} {l3 : Int} {l4 : Int} {l5 : Int} {l7 : Int} {l8 : Int} {h : xH} {x : ((Int × Int × xH) ⊕ xH)} {Q : xQ} (kl1 : xK l1 = 3 + 4) (hf : f_Walk_go_166 l1 l2 l3 l4 l5 l7 l8 h = some x) (kb : ∀ (l4' : Int) (l5' : Int) (h' : xH), x = Sum.inl (l4', l5', h') → J mX9_go true 0 0 24 xKn [(0, xR 48), (1, xR l1), (2, xI l2), (3, xI l3), (4, xI l4'), (5, xI l5')] [] h' Q) (ke : ∀  (h' : xH), x = (Sum.inr h') → J mX9_go true 0 0 233 xKn [] [] h' Q) : J mX9_go true 0 0 166 xKn [(0, xR 48), (1, xR l1), (2, xI l2), (3, xI l3), (4, xI l4), (5, xI l5), (7, xI l7), (8, xI l8)] [] h Q := by
  unfold f_Walk_go_166 at hf
  refine J_iconst dX9_go_166 (by decide) ?_
  exact j_Walk_go_167 kl1 hf kb ke
theorem j_Walk_go_109 {l1 : Int} {l2 : Int} {l3 : Int} {l4 : Int} {l5 : Int} {h : xH} {x : ((Int × Int × xH) ⊕ xH)} {Q : xQ} (kl1 : xK l1 = 3 + 4) (hf : f_Walk_go_109 l1 l2 l3 l4 l5 h = some x) (kb : ∀ (l4' : Int) (l5' : Int) (h' : xH), x = Sum.inl (l4', l5', h') → J mX9_go true 0 0 24 xKn [(0, xR 48), (1, xR l1), (2, xI l2), (3, xI l3), (4, xI l4'), (5, xI l5')] [] h' Q) (ke : ∀  (h' : xH), x = (Sum.inr h') → J mX9_go true 0 0 233 xKn [] [] h' Q) : J mX9_go true 0 0 109 xKn [(0, xR 48), (1, xR l1), (2, xI l2), (3, xI l3), (4, xI l4), (5, xI l5)] [] h Q := by
  unfold f_Walk_go_109 at hf
  refine J_iload 4 dX9_go_109 rfl ?_
  refine J_aload_n 0 dX9_go_111 rfl rfl ?_
  refine J_getRl (j := 3) xcf9 dX9_go_112 kO48 (Or.inl xq334) (by decide) (by decide) rf_48_3 ?_
  refine J_getI (j := 1) xcf4 dX9_go_115 (xK_rg kO55) kO55 (Or.inr ⟨_, xq249⟩) (by decide) (by decide) ?_
  refine J_mmin dX9_go_118 ⟨xq764, xq542, xq129, xq543⟩ (xbl rfl) (xbl rfl) ?_
  obtain ⟨x1, ex1, hf⟩ := xlet_e hf
  refine J_istore (ls' := [(7, xI x1), (0, xR 48), (1, xR l1), (2, xI l2), (3, xI l3), (4, xI l4), (5, xI l5)]) dX9_go_121 (by decide) ex1 rfl ?_
  refine J_iload 0 dX9_go_123 rfl ?_
  refine J_bip dX9_go_125 (by decide) ?_
  refine J_imul dX9_go_127 ?_
  refine J_aload_n 2 dX9_go_128 rfl rfl ?_
  refine J_getI (j := 1) xcf4 dX9_go_129 (xK_rg kl1) kl1 (Or.inr ⟨_, xq249⟩) (by decide) (by decide) ?_
  refine J_iadd dX9_go_132 ?_
  obtain ⟨x2, ex2, hf⟩ := xlet_e hf
  refine J_istore (ls' := [(8, xI x2), (7, xI x1), (0, xR 48), (1, xR l1), (2, xI l2), (3, xI l3), (4, xI l4), (5, xI l5)]) dX9_go_133 (by decide) ex2 rfl ?_
  refine J_iload 1 dX9_go_135 rfl ?_
  refine J_aload_n 2 dX9_go_137 rfl rfl ?_
  refine J_getRl (j := 3) xcf9 dX9_go_138 kO48 (Or.inl xq334) (by decide) (by decide) rf_48_3 ?_
  refine J_getI (j := 1) xcf4 dX9_go_141 (xK_rg kO55) kO55 (Or.inr ⟨_, xq249⟩) (by decide) (by decide) ?_
  refine J_ic_ne (tgt := 166) dX9_go_144 (by decide) (fun hc => ?_) (fun hc => ?_)
  · have hf := xip hc hf
    refine J_iload 0 dX9_go_147 rfl ?_
    refine J_if_lt (tgt := 166) dX9_go_149 (by decide) (fun hc => ?_) (fun hc => ?_)
    · have hf := xip hc hf
      refine J_sub [2, 3, 4, 5, 6, 7, 1, 0] rfl ?_
      exact j_Walk_go_166 kl1 hf kb ke
    · have hf := xin' hc hf
      refine J_iload 0 dX9_go_152 rfl ?_
      refine J_aload_n 2 dX9_go_154 rfl rfl ?_
      refine J_getRl (j := 4) xcf9 dX9_go_155 kO48 (Or.inl xq335) (by decide) (by decide) rf_48_4 ?_
      refine J_alen dX9_go_158 (xK_r1 kO57) (Or.inl kO57) (by decide) nA57 ?_
      refine J_ic_ge (tgt := 166) dX9_go_159 (by decide) (fun hc => ?_) (fun hc => ?_)
      · have hf := xip hc hf
        refine J_iconst dX9_go_162 (by decide) ?_
        refine J_goto (tgt := 167) dX9_go_163 (by decide) ?_
        refine J_sub [2, 3, 4, 5, 6, 7, 1, 0] rfl ?_
        exact j_Walk_go_167 kl1 hf kb ke
      · have hf := xin' hc hf
        refine J_sub [2, 3, 4, 5, 6, 7, 1, 0] rfl ?_
        exact j_Walk_go_166 kl1 hf kb ke
  · have hf := xin' hc hf
    refine J_sub [2, 3, 4, 5, 6, 7, 1, 0] rfl ?_
    exact j_Walk_go_166 kl1 hf kb ke
theorem j_Walk_go_s24 {l1 : Int} {l2 : Int} {l3 : Int} {l4 : Int} {l5 : Int} {h : xH} {x : ((Int × Int × xH) ⊕ xH)} {Q : xQ} (kl1 : xK l1 = 3 + 4) (hf : f_Walk_go_s24 l1 l2 l3 l4 l5 h = some x) (kb : ∀ (l4' : Int) (l5' : Int) (h' : xH), x = Sum.inl (l4', l5', h') → J mX9_go true 0 0 24 xKn [(0, xR 48), (1, xR l1), (2, xI l2), (3, xI l3), (4, xI l4'), (5, xI l5')] [] h' Q) (ke : ∀  (h' : xH), x = (Sum.inr h') → J mX9_go true 0 0 233 xKn [] [] h' Q) : J mX9_go true 0 0 24 xKn [(0, xR 48), (1, xR l1), (2, xI l2), (3, xI l3), (4, xI l4), (5, xI l5)] [] h Q := by
  unfold f_Walk_go_s24 at hf
  refine J_iload 5 dX9_go_24 rfl ?_
  refine J_aload_n 0 dX9_go_26 rfl rfl ?_
  refine J_getRl (j := 0) xcf9 dX9_go_27 kO48 (Or.inl xq330) (by decide) (by decide) rf_48_0 ?_
  refine J_getRl (j := 0) xcf1 dX9_go_30 kO4 (Or.inr ⟨_, xq196⟩) (by decide) (by decide) rf_4_0 ?_
  refine J_getI (j := 2) xcf5 dX9_go_33 (xK_rg kO5) kO5 (Or.inr ⟨_, xq184⟩) (by decide) (by decide) ?_
  refine J_ic_ge (tgt := 233) dX9_go_36 (by decide) (fun hc => ?_) (fun hc => ?_)
  · have hf := xip hc hf
    refine J_iload 5 dX9_go_39 rfl ?_
    refine J_aload_n 0 dX9_go_41 rfl rfl ?_
    refine J_getRl (j := 7) xcf9 dX9_go_42 kO48 (Or.inl xq338) (by decide) (by decide) rf_48_7 ?_
    refine J_alen dX9_go_45 (xK_r1 kO60) (Or.inl kO60) (by decide) nA60 ?_
    refine J_ic_ge (tgt := 233) dX9_go_46 (by decide) (fun hc => ?_) (fun hc => ?_)
    · have hf := xip hc hf
      refine J_iload 5 dX9_go_49 rfl ?_
      refine J_aload_n 0 dX9_go_51 rfl rfl ?_
      refine J_getRl (j := 8) xcf9 dX9_go_52 kO48 (Or.inl xq340) (by decide) (by decide) rf_48_8 ?_
      refine J_alen dX9_go_55 (xK_r1 kO61) (Or.inl kO61) (by decide) nA61 ?_
      refine J_ic_ge (tgt := 233) dX9_go_56 (by decide) (fun hc => ?_) (fun hc => ?_)
      · have hf := xip hc hf
        refine J_aload_n 0 dX9_go_59 rfl rfl ?_
        refine J_getRl (j := 0) xcf9 dX9_go_60 kO48 (Or.inl xq330) (by decide) (by decide) rf_48_0 ?_
        refine J_getRl (j := 0) xcf1 dX9_go_63 kO4 (Or.inr ⟨_, xq196⟩) (by decide) (by decide) rf_4_0 ?_
        refine J_iload 5 dX9_go_66 rfl ?_
        refine J_aload_n 0 dX9_go_68 rfl rfl ?_
        refine J_getRl (j := 3) xcf9 dX9_go_69 kO48 (Or.inl xq334) (by decide) (by decide) rf_48_3 ?_
        obtain ⟨h1, hq, hf⟩ := xc1_e hf
        refine J_cVv (Mc := mX5_copyTo) [xI l5, xR 55] dX9_go_72 (fc_Rows_copyTo.fit ⟨xbl rfl, xbl rfl⟩) rfl ⟨Or.inr ⟨_, xq731⟩, xq733, xq40⟩ kO5 (ci := 5) rfl rfl (xbl rfl) (xbl rfl) (jm_Rows_copyTo kO5 kO55 hq) ?_
        refine J_aload_n 0 dX9_go_75 rfl rfl ?_
        refine J_getRl (j := 0) xcf9 dX9_go_76 kO48 (Or.inl xq330) (by decide) (by decide) rf_48_0 ?_
        refine J_getRl (j := 0) xcf1 dX9_go_79 kO4 (Or.inr ⟨_, xq196⟩) (by decide) (by decide) rf_4_0 ?_
        refine J_iload 5 dX9_go_82 rfl ?_
        obtain ⟨r2, hq, hf⟩ := xc1_e hf
        refine J_cVi (Mc := mX5_shared) [xI l5] dX9_go_84 (fc_Rows_shared.fit ⟨xbl rfl, xbl rfl⟩) rfl ⟨Or.inr ⟨_, xq737⟩, xq598, xq18⟩ kO5 (ci := 5) rfl rfl (xbl rfl) (xbl rfl) (jm_Rows_shared kO5 hq) ?_
        refine J_istore (ls' := [(6, xI r2), (0, xR 48), (1, xR l1), (2, xI l2), (3, xI l3), (4, xI l4), (5, xI l5)]) dX9_go_87 (by decide) rfl rfl ?_
        refine J_iload 5 dX9_go_89 rfl ?_
        refine J_iload 0 dX9_go_91 rfl ?_
        refine J_ic_le (tgt := 109) dX9_go_93 (by decide) (fun hc => ?_) (fun hc => ?_)
        · have hf := xip hc hf
          refine J_aload_n 1 dX9_go_96 rfl rfl ?_
          refine J_iload 0 dX9_go_97 rfl ?_
          refine J_iconst dX9_go_99 (by decide) ?_
          refine J_iadd dX9_go_100 ?_
          refine J_aload_n 2 dX9_go_101 rfl rfl ?_
          refine J_iload_n 3 dX9_go_102 rfl rfl ?_
          refine J_iload_n 4 dX9_go_103 rfl rfl ?_
          obtain ⟨r3, h4, hq, hf⟩ := xc2_e hf
          refine J_cVi (Mc := mX9_descend) [xI (w32 (r2 + 1)), xR l1, xI l2, xI l3] dX9_go_104 (fc_Walk_descend.fit ⟨xbl rfl, xbl rfl⟩) rfl ⟨Or.inl xq738, xq740, xq41⟩ kO48 (ci := 9) rfl rfl (xbl rfl) (xbl rfl) (jm_Walk_descend kl1 hq) ?_
          refine J_istore (ls' := [(4, xI r3), (6, xI r2), (0, xR 48), (1, xR l1), (2, xI l2), (3, xI l3), (5, xI l5)]) dX9_go_107 (by decide) rfl rfl ?_
          refine J_sub [2, 3, 4, 5, 0, 6] rfl ?_
          exact j_Walk_go_109 kl1 hf kb ke
        · have hf := xin' hc hf
          refine J_sub [1, 2, 3, 4, 5, 6] rfl ?_
          exact j_Walk_go_109 kl1 hf kb ke
      · have hf := xin' hc hf
        refine J_sub [] rfl ?_
        exact ke _ (xinl hf)
    · have hf := xin' hc hf
      refine J_sub [] rfl ?_
      exact ke _ (xinl hf)
  · have hf := xin' hc hf
    refine J_sub [] rfl ?_
    exact ke _ (xinl hf)
theorem j_Walk_go_24 {l1 : Int} {l2 : Int} {l3 : Int} {l4 : Int} {l5 : Int} {h : xH} {h0 : xH} (kl1 : xK l1 = 3 + 4) (hf : f_Walk_go_24 l1 l2 l3 l4 l5 h = some h0)  : J mX9_go true 0 0 24 xKn [(0, xR 48), (1, xR l1), (2, xI l2), (3, xI l3), (4, xI l4), (5, xI l5)] [] h (xEq none h0) := by
  unfold f_Walk_go_24 at hf
  obtain ⟨b0, hb0, hf⟩ := xc1_e hf
  refine xloop_ind (P := fun s : (Int × Int × xH) => J mX9_go true 0 0 24 xKn [(0, xR 48), (1, xR l1), (2, xI l2), (3, xI l3), (4, xI s.1), (5, xI s.2.1)] [] s.2.2 (xEq none h0)) hb0 (fun s x1 hs ib ie => ?_)
  exact j_Walk_go_s24 kl1 hs (fun _ _ _ e => ib _ e) (fun _ e => by have := ie _ e; subst this; exact j_Walk_go_233  hf)
theorem j_Walk_go_17 {l1 : Int} {l2 : Int} {l3 : Int} {h : xH} {h0 : xH} (kl1 : xK l1 = 3 + 4) (hf : f_Walk_go_17 l1 l2 l3 h = some h0)  : J mX9_go true 0 0 17 xKn [(0, xR 48), (1, xR l1), (2, xI l2), (3, xI l3)] [] h (xEq none h0) := by
  unfold f_Walk_go_17 at hf
  refine J_bip dX9_go_17 (by decide) ?_
  refine J_istore (ls' := [(4, xI 13), (0, xR 48), (1, xR l1), (2, xI l2), (3, xI l3)]) dX9_go_19 (by decide) rfl rfl ?_
  refine J_iconst dX9_go_21 (by decide) ?_
  refine J_istore (ls' := [(5, xI 0), (4, xI 13), (0, xR 48), (1, xR l1), (2, xI l2), (3, xI l3)]) dX9_go_22 (by decide) rfl rfl ?_
  refine J_sub [2, 3, 4, 5, 1, 0] rfl ?_
  exact j_Walk_go_24 kl1 hf
theorem jm_Walk_go {l1 : Int} {l2 : Int} {l3 : Int} {h : xH} {h0 : xH} (kl1 : xK l1 = 3 + 4) (hf : f_Walk_go l1 l2 l3 h = some h0) : J mX9_go true 0 0 0 xKn (xen 0 [xR 48, xR l1, xI l2, xI l3]) [] h (xEq none h0) := by
  unfold f_Walk_go at hf
  refine J_cong (ls2 := [(0, xR 48), (1, xR l1), (2, xI l2), (3, xI l3)]) (st2 := []) rfl rfl ?_
  refine J_iload_n 3 dX9_go_0 rfl rfl ?_
  refine J_if_eq (tgt := 17) dX9_go_1 (by decide) (fun hc => ?_) (fun hc => ?_)
  · have hf := xip hc hf
    exact j_Walk_go_17 kl1 hf
  · have hf := xin' hc hf
    refine J_aload_n 0 dX9_go_4 rfl rfl ?_
    refine J_getRl (j := 2) xcf9 dX9_go_5 kO48 (Or.inl xq332) (by decide) (by decide) rf_48_2 ?_
    refine J_aload_n 1 dX9_go_8 rfl rfl ?_
    refine J_getI (j := 1) xcf4 dX9_go_9 (xK_rg kl1) kl1 (Or.inr ⟨_, xq249⟩) (by decide) (by decide) ?_
    refine J_iconst dX9_go_12 (by decide) ?_
    refine J_iadd dX9_go_13 ?_
    obtain ⟨h1, hq, hf⟩ := xc1_e hf
    refine J_cVv (Mc := mX3_clear) [xI (w32 ((h l1 1) + 1))] dX9_go_14 (fc_Met_clear.fit ⟨xbl rfl, xbl rfl⟩) rfl ⟨Or.inr ⟨_, xq725⟩, xq727, xq39⟩ kO49 (ci := 3) rfl rfl (xbl rfl) (xbl rfl) (jm_Met_clear  hq) ?_
    exact j_Walk_go_17 kl1 hf
theorem dX1_share_0 : decode cX1_share 0 = .ok (.aload_n 0, 1) := by decide +kernel
theorem dX1_share_1 : decode cX1_share 1 = .ok (.getfield 70, 3) := by decide +kernel
theorem dX1_share_4 : decode cX1_share 4 = .ok (.i2f, 1) := by decide +kernel
theorem dX1_share_5 : decode cX1_share 5 = .ok (.ldc 73, 2) := by decide +kernel
theorem dX1_share_7 : decode cX1_share 7 = .ok (.fdiv, 1) := by decide +kernel
theorem dX1_share_8 : decode cX1_share 8 = .ok (.aload_n 0, 1) := by decide +kernel
theorem dX1_share_9 : decode cX1_share 9 = .ok (.iload_n 1, 1) := by decide +kernel
theorem dX1_share_10 : decode cX1_share 10 = .ok (.invokevirtual 74, 3) := by decide +kernel
theorem dX1_share_13 : decode cX1_share 13 = .ok (.i2f, 1) := by decide +kernel
theorem dX1_share_14 : decode cX1_share 14 = .ok (.fmul, 1) := by decide +kernel
theorem dX1_share_15 : decode cX1_share 15 = .ok (.f2i, 1) := by decide +kernel
theorem dX1_share_16 : decode cX1_share 16 = .ok (.ireturn, 1) := by decide +kernel
theorem jm_Lex_share {l1 : Int} {h : xH} {r0 : Int}  (hf : f_Lex_share l1 h = some r0) : J mX1_share true 0 0 0 xKn (xen 0 [xR 4, xI l1]) [] h (xEq (some r0) h) := by
  unfold f_Lex_share at hf
  refine J_cong (ls2 := [(0, xR 4), (1, xI l1)]) (st2 := []) rfl rfl ?_
  refine J_aload_n 0 dX1_share_0 rfl rfl ?_
  refine J_getI (j := 2) xcf1 dX1_share_1 (xK_rg kO4) kO4 (Or.inl xq199) (by decide) (by decide) ?_
  refine J_i2f dX1_share_4 ?_
  refine J_ldcf dX1_share_5 xq788 ?_
  obtain ⟨hn, hf⟩ := xgp_e hf
  refine J_fdiv dX1_share_7 hn ?_
  refine J_aload_n 0 dX1_share_8 rfl rfl ?_
  refine J_iload_n 1 dX1_share_9 rfl rfl ?_
  obtain ⟨r1, hq, hf⟩ := xc1_e hf
  refine J_cVi (Mc := mX1_countOf) [xI l1] dX1_share_10 (fc_Lex_countOf.fit ⟨xbl rfl, xbl rfl⟩) rfl ⟨Or.inl xq789, xq580, xq15⟩ kO4 (ci := 1) rfl rfl (xbl rfl) (xbl rfl) (jm_Lex_countOf  hq) ?_
  refine J_i2f dX1_share_13 ?_
  obtain ⟨hn, hf⟩ := xgp_e hf
  refine J_fmul dX1_share_14 hn ?_
  refine J_f2i dX1_share_15 ?_
  exact J_ireti dX1_share_16 rfl (xq_p hf)
theorem dX0_isAhead_0 : decode cX0_isAhead 0 = .ok (.iload_n 3, 1) := by decide +kernel
theorem dX0_isAhead_1 : decode cX0_isAhead 1 = .ok (.ifCond .lt 12, 3) := by decide +kernel
theorem dX0_isAhead_4 : decode cX0_isAhead 4 = .ok (.iload_n 3, 1) := by decide +kernel
theorem dX0_isAhead_5 : decode cX0_isAhead 5 = .ok (.aload_n 0, 1) := by decide +kernel
theorem dX0_isAhead_6 : decode cX0_isAhead 6 = .ok (.getfield 9, 3) := by decide +kernel
theorem dX0_isAhead_9 : decode cX0_isAhead 9 = .ok (.arraylength, 1) := by decide +kernel
theorem dX0_isAhead_10 : decode cX0_isAhead 10 = .ok (.if_icmp .lt 5, 3) := by decide +kernel
theorem dX0_isAhead_13 : decode cX0_isAhead 13 = .ok (.iconst 0, 1) := by decide +kernel
theorem dX0_isAhead_14 : decode cX0_isAhead 14 = .ok (.ireturn, 1) := by decide +kernel
theorem dX0_isAhead_15 : decode cX0_isAhead 15 = .ok (.aload_n 0, 1) := by decide +kernel
theorem dX0_isAhead_16 : decode cX0_isAhead 16 = .ok (.getfield 15, 3) := by decide +kernel
theorem dX0_isAhead_19 : decode cX0_isAhead 19 = .ok (.iload_n 3, 1) := by decide +kernel
theorem dX0_isAhead_20 : decode cX0_isAhead 20 = .ok (.iaload, 1) := by decide +kernel
theorem dX0_isAhead_21 : decode cX0_isAhead 21 = .ok (.aload_n 0, 1) := by decide +kernel
theorem dX0_isAhead_22 : decode cX0_isAhead 22 = .ok (.getfield 18, 3) := by decide +kernel
theorem dX0_isAhead_25 : decode cX0_isAhead 25 = .ok (.iload_n 3, 1) := by decide +kernel
theorem dX0_isAhead_26 : decode cX0_isAhead 26 = .ok (.iaload, 1) := by decide +kernel
theorem dX0_isAhead_27 : decode cX0_isAhead 27 = .ok (.isub, 1) := by decide +kernel
theorem dX0_isAhead_28 : decode cX0_isAhead 28 = .ok (.istore 4, 2) := by decide +kernel
theorem dX0_isAhead_30 : decode cX0_isAhead 30 = .ok (.iload_n 2, 1) := by decide +kernel
theorem dX0_isAhead_31 : decode cX0_isAhead 31 = .ok (.iload 4, 2) := by decide +kernel
theorem dX0_isAhead_33 : decode cX0_isAhead 33 = .ok (.if_icmp .lt 33, 3) := by decide +kernel
theorem dX0_isAhead_36 : decode cX0_isAhead 36 = .ok (.iload_n 2, 1) := by decide +kernel
theorem dX0_isAhead_37 : decode cX0_isAhead 37 = .ok (.iload 4, 2) := by decide +kernel
theorem dX0_isAhead_39 : decode cX0_isAhead 39 = .ok (.if_icmp .ne 31, 3) := by decide +kernel
theorem dX0_isAhead_42 : decode cX0_isAhead 42 = .ok (.aload_n 0, 1) := by decide +kernel
theorem dX0_isAhead_43 : decode cX0_isAhead 43 = .ok (.getfield 21, 3) := by decide +kernel
theorem dX0_isAhead_46 : decode cX0_isAhead 46 = .ok (.iload_n 1, 1) := by decide +kernel
theorem dX0_isAhead_47 : decode cX0_isAhead 47 = .ok (.invokevirtual 59, 3) := by decide +kernel
theorem dX0_isAhead_50 : decode cX0_isAhead 50 = .ok (.aload_n 0, 1) := by decide +kernel
theorem dX0_isAhead_51 : decode cX0_isAhead 51 = .ok (.getfield 21, 3) := by decide +kernel
theorem dX0_isAhead_54 : decode cX0_isAhead 54 = .ok (.aload_n 0, 1) := by decide +kernel
theorem dX0_isAhead_55 : decode cX0_isAhead 55 = .ok (.getfield 9, 3) := by decide +kernel
theorem dX0_isAhead_58 : decode cX0_isAhead 58 = .ok (.iload_n 3, 1) := by decide +kernel
theorem dX0_isAhead_59 : decode cX0_isAhead 59 = .ok (.iaload, 1) := by decide +kernel
theorem dX0_isAhead_60 : decode cX0_isAhead 60 = .ok (.invokevirtual 59, 3) := by decide +kernel
theorem dX0_isAhead_63 : decode cX0_isAhead 63 = .ok (.if_icmp .le 7, 3) := by decide +kernel
theorem dX0_isAhead_66 : decode cX0_isAhead 66 = .ok (.iconst 1, 1) := by decide +kernel
theorem dX0_isAhead_67 : decode cX0_isAhead 67 = .ok (.goto 4, 3) := by decide +kernel
theorem dX0_isAhead_70 : decode cX0_isAhead 70 = .ok (.iconst 0, 1) := by decide +kernel
theorem dX0_isAhead_71 : decode cX0_isAhead 71 = .ok (.ireturn, 1) := by decide +kernel
theorem j_Found_isAhead_66  {h : xH} {r0 : Int}  (hf : f_Found_isAhead_66 h = some r0)  : J mX0_isAhead true 0 0 66 xKn [] [] h (xEq (some r0) h) := by
  unfold f_Found_isAhead_66 at hf
  refine J_iconst dX0_isAhead_66 (by decide) ?_
  refine J_goto (tgt := 71) dX0_isAhead_67 (by decide) ?_
  exact J_iretz dX0_isAhead_71 rfl (by decide) (xq_p hf)
theorem jm_Found_isAhead {l0 : Int} {l1 : Int} {l2 : Int} {l3 : Int} {h : xH} {r0 : Int} (kl0 : xK l0 = 3 + 0) (hf : f_Found_isAhead l0 l1 l2 l3 h = some r0) : J mX0_isAhead true 0 0 0 xKn (xen 0 [xR l0, xI l1, xI l2, xI l3]) [] h (xEq (some r0) h) := by
  unfold f_Found_isAhead at hf
  refine J_cong (ls2 := [(0, xR l0), (1, xI l1), (2, xI l2), (3, xI l3)]) (st2 := []) rfl rfl ?_
  refine J_iload_n 3 dX0_isAhead_0 rfl rfl ?_
  refine J_if_lt (tgt := 13) dX0_isAhead_1 (by decide) (fun hc => ?_) (fun hc => ?_)
  · have hf := xip hc hf
    refine J_iconst dX0_isAhead_13 (by decide) ?_
    exact J_iretz dX0_isAhead_14 rfl (by decide) (xq_p hf)
  · have hf := xin' hc hf
    refine J_iload_n 3 dX0_isAhead_4 rfl rfl ?_
    refine J_aload_n 0 dX0_isAhead_5 rfl rfl ?_
    refine J_getRl (j := 1) xcf0 dX0_isAhead_6 kl0 (Or.inl xq368) (by decide) (by decide) (rfFound_1 kl0) ?_
    refine J_alen dX0_isAhead_9 (xK_r1 (kFound_1 kl0)) (Or.inl (kFound_1 kl0)) (by decide) (nFound_1 kl0) ?_
    refine J_ic_lt (tgt := 15) dX0_isAhead_10 (by decide) (fun hc => ?_) (fun hc => ?_)
    · have hf := xip hc hf
      refine J_aload_n 0 dX0_isAhead_15 rfl rfl ?_
      refine J_getRl (j := 2) xcf0 dX0_isAhead_16 kl0 (Or.inl xq369) (by decide) (by decide) (rfFound_2 kl0) ?_
      refine J_iload_n 3 dX0_isAhead_19 rfl rfl ?_
      obtain ⟨hg, hf⟩ := xgd_e hf
      refine J_iald dX0_isAhead_20 (xK_r1 (kFound_2 kl0)) (kFound_2 kl0) hg (nFound_2 kl0) ?_
      refine J_aload_n 0 dX0_isAhead_21 rfl rfl ?_
      refine J_getRl (j := 3) xcf0 dX0_isAhead_22 kl0 (Or.inl xq370) (by decide) (by decide) (rfFound_3 kl0) ?_
      refine J_iload_n 3 dX0_isAhead_25 rfl rfl ?_
      obtain ⟨hg, hf⟩ := xgd_e hf
      refine J_iald dX0_isAhead_26 (xK_r1 (kFound_3 kl0)) (kFound_3 kl0) hg (nFound_3 kl0) ?_
      refine J_isub dX0_isAhead_27 ?_
      obtain ⟨x1, ex1, hf⟩ := xlet_e hf
      refine J_istore (ls' := [(4, xI x1), (0, xR l0), (1, xI l1), (2, xI l2), (3, xI l3)]) dX0_isAhead_28 (by decide) ex1 rfl ?_
      refine J_iload_n 3 dX0_isAhead_30 rfl rfl ?_
      refine J_iload 0 dX0_isAhead_31 rfl ?_
      refine J_ic_lt (tgt := 66) dX0_isAhead_33 (by decide) (fun hc => ?_) (fun hc => ?_)
      · have hf := xip hc hf
        refine J_sub [] rfl ?_
        exact j_Found_isAhead_66  hf
      · have hf := xin' hc hf
        refine J_iload_n 3 dX0_isAhead_36 rfl rfl ?_
        refine J_iload 0 dX0_isAhead_37 rfl ?_
        refine J_ic_ne (tgt := 70) dX0_isAhead_39 (by decide) (fun hc => ?_) (fun hc => ?_)
        · have hf := xip hc hf
          refine J_aload_n 1 dX0_isAhead_42 rfl rfl ?_
          refine J_getRl (j := 0) xcf0 dX0_isAhead_43 kl0 (Or.inl xq367) (by decide) (by decide) (rfFound_0 kl0) ?_
          refine J_iload_n 2 dX0_isAhead_46 rfl rfl ?_
          obtain ⟨r2, hq, hf⟩ := xc1_e hf
          refine J_cVi (Mc := mX1_countOf) [xI l1] dX0_isAhead_47 (fc_Lex_countOf.fit ⟨xbl rfl, xbl rfl⟩) rfl ⟨Or.inr ⟨_, xq794⟩, xq580, xq15⟩ kO4 (ci := 1) rfl rfl (xbl rfl) (xbl rfl) (jm_Lex_countOf  hq) ?_
          refine J_aload_n 1 dX0_isAhead_50 rfl rfl ?_
          refine J_getRl (j := 0) xcf0 dX0_isAhead_51 kl0 (Or.inl xq367) (by decide) (by decide) (rfFound_0 kl0) ?_
          refine J_aload_n 1 dX0_isAhead_54 rfl rfl ?_
          refine J_getRl (j := 1) xcf0 dX0_isAhead_55 kl0 (Or.inl xq368) (by decide) (by decide) (rfFound_1 kl0) ?_
          refine J_iload_n 4 dX0_isAhead_58 rfl rfl ?_
          obtain ⟨hg, hf⟩ := xgd_e hf
          refine J_iald dX0_isAhead_59 (xK_r1 (kFound_1 kl0)) (kFound_1 kl0) hg (nFound_1 kl0) ?_
          obtain ⟨r3, hq, hf⟩ := xc1_e hf
          refine J_cVi (Mc := mX1_countOf) [xI (h (l0 + 1) l3)] dX0_isAhead_60 (fc_Lex_countOf.fit ⟨xbl rfl, xbl rfl⟩) rfl ⟨Or.inr ⟨_, xq794⟩, xq580, xq15⟩ kO4 (ci := 1) rfl rfl (xbl rfl) (xbl rfl) (jm_Lex_countOf  hq) ?_
          refine J_ic_le (tgt := 70) dX0_isAhead_63 (by decide) (fun hc => ?_) (fun hc => ?_)
          · have hf := xip hc hf
            refine J_sub [] rfl ?_
            exact j_Found_isAhead_66  hf
          · have hf := xin' hc hf
            refine J_iconst dX0_isAhead_70 (by decide) ?_
            exact J_iretz dX0_isAhead_71 rfl (by decide) (xq_p hf)
        · have hf := xin' hc hf
          refine J_iconst dX0_isAhead_70 (by decide) ?_
          exact J_iretz dX0_isAhead_71 rfl (by decide) (xq_p hf)
    · have hf := xin' hc hf
      refine J_iconst dX0_isAhead_13 (by decide) ?_
      exact J_iretz dX0_isAhead_14 rfl (by decide) (xq_p hf)
theorem dX0_move_0 : decode cX0_move 0 = .ok (.iload_n 1, 1) := by decide +kernel
theorem dX0_move_1 : decode cX0_move 1 = .ok (.ifCond .lt 66, 3) := by decide +kernel
theorem dX0_move_4 : decode cX0_move 4 = .ok (.iload_n 2, 1) := by decide +kernel
theorem dX0_move_5 : decode cX0_move 5 = .ok (.ifCond .lt 62, 3) := by decide +kernel
theorem dX0_move_8 : decode cX0_move 8 = .ok (.iload_n 2, 1) := by decide +kernel
theorem dX0_move_9 : decode cX0_move 9 = .ok (.iload_n 3, 1) := by decide +kernel
theorem dX0_move_10 : decode cX0_move 10 = .ok (.if_icmp .ge 57, 3) := by decide +kernel
theorem dX0_move_13 : decode cX0_move 13 = .ok (.iload_n 1, 1) := by decide +kernel
theorem dX0_move_14 : decode cX0_move 14 = .ok (.aload_n 0, 1) := by decide +kernel
theorem dX0_move_15 : decode cX0_move 15 = .ok (.getfield 9, 3) := by decide +kernel
theorem dX0_move_18 : decode cX0_move 18 = .ok (.arraylength, 1) := by decide +kernel
theorem dX0_move_19 : decode cX0_move 19 = .ok (.if_icmp .ge 48, 3) := by decide +kernel
theorem dX0_move_22 : decode cX0_move 22 = .ok (.iload_n 2, 1) := by decide +kernel
theorem dX0_move_23 : decode cX0_move 23 = .ok (.aload_n 0, 1) := by decide +kernel
theorem dX0_move_24 : decode cX0_move 24 = .ok (.getfield 9, 3) := by decide +kernel
theorem dX0_move_27 : decode cX0_move 27 = .ok (.arraylength, 1) := by decide +kernel
theorem dX0_move_28 : decode cX0_move 28 = .ok (.if_icmp .ge 39, 3) := by decide +kernel
theorem dX0_move_31 : decode cX0_move 31 = .ok (.aload_n 0, 1) := by decide +kernel
theorem dX0_move_32 : decode cX0_move 32 = .ok (.getfield 9, 3) := by decide +kernel
theorem dX0_move_35 : decode cX0_move 35 = .ok (.iload_n 2, 1) := by decide +kernel
theorem dX0_move_36 : decode cX0_move 36 = .ok (.aload_n 0, 1) := by decide +kernel
theorem dX0_move_37 : decode cX0_move 37 = .ok (.getfield 9, 3) := by decide +kernel
theorem dX0_move_40 : decode cX0_move 40 = .ok (.iload_n 1, 1) := by decide +kernel
theorem dX0_move_41 : decode cX0_move 41 = .ok (.iaload, 1) := by decide +kernel
theorem dX0_move_42 : decode cX0_move 42 = .ok (.iastore, 1) := by decide +kernel
theorem dX0_move_43 : decode cX0_move 43 = .ok (.aload_n 0, 1) := by decide +kernel
theorem dX0_move_44 : decode cX0_move 44 = .ok (.getfield 15, 3) := by decide +kernel
theorem dX0_move_47 : decode cX0_move 47 = .ok (.iload_n 2, 1) := by decide +kernel
theorem dX0_move_48 : decode cX0_move 48 = .ok (.aload_n 0, 1) := by decide +kernel
theorem dX0_move_49 : decode cX0_move 49 = .ok (.getfield 15, 3) := by decide +kernel
theorem dX0_move_52 : decode cX0_move 52 = .ok (.iload_n 1, 1) := by decide +kernel
theorem dX0_move_53 : decode cX0_move 53 = .ok (.iaload, 1) := by decide +kernel
theorem dX0_move_54 : decode cX0_move 54 = .ok (.iastore, 1) := by decide +kernel
theorem dX0_move_55 : decode cX0_move 55 = .ok (.aload_n 0, 1) := by decide +kernel
theorem dX0_move_56 : decode cX0_move 56 = .ok (.getfield 18, 3) := by decide +kernel
theorem dX0_move_59 : decode cX0_move 59 = .ok (.iload_n 2, 1) := by decide +kernel
theorem dX0_move_60 : decode cX0_move 60 = .ok (.aload_n 0, 1) := by decide +kernel
theorem dX0_move_61 : decode cX0_move 61 = .ok (.getfield 18, 3) := by decide +kernel
theorem dX0_move_64 : decode cX0_move 64 = .ok (.iload_n 1, 1) := by decide +kernel
theorem dX0_move_65 : decode cX0_move 65 = .ok (.iaload, 1) := by decide +kernel
theorem dX0_move_66 : decode cX0_move 66 = .ok (.iastore, 1) := by decide +kernel
theorem dX0_move_67 : decode cX0_move 67 = .ok (.return_, 1) := by decide +kernel
theorem jm_Found_move {l0 : Int} {l1 : Int} {l2 : Int} {l3 : Int} {h : xH} {h0 : xH} (kl0 : xK l0 = 3 + 0) (hf : f_Found_move l0 l1 l2 l3 h = some h0) : J mX0_move true 0 0 0 xKn (xen 0 [xR l0, xI l1, xI l2, xI l3]) [] h (xEq none h0) := by
  unfold f_Found_move at hf
  refine J_cong (ls2 := [(0, xR l0), (1, xI l1), (2, xI l2), (3, xI l3)]) (st2 := []) rfl rfl ?_
  refine J_iload_n 1 dX0_move_0 rfl rfl ?_
  refine J_if_lt (tgt := 67) dX0_move_1 (by decide) (fun hc => ?_) (fun hc => ?_)
  · have hf := xip hc hf
    exact J_rt dX0_move_67 rfl (xq_v hf)
  · have hf := xin' hc hf
    refine J_iload_n 2 dX0_move_4 rfl rfl ?_
    refine J_if_lt (tgt := 67) dX0_move_5 (by decide) (fun hc => ?_) (fun hc => ?_)
    · have hf := xip hc hf
      exact J_rt dX0_move_67 rfl (xq_v hf)
    · have hf := xin' hc hf
      refine J_iload_n 2 dX0_move_8 rfl rfl ?_
      refine J_iload_n 3 dX0_move_9 rfl rfl ?_
      refine J_ic_ge (tgt := 67) dX0_move_10 (by decide) (fun hc => ?_) (fun hc => ?_)
      · have hf := xip hc hf
        refine J_iload_n 1 dX0_move_13 rfl rfl ?_
        refine J_aload_n 0 dX0_move_14 rfl rfl ?_
        refine J_getRl (j := 1) xcf0 dX0_move_15 kl0 (Or.inl xq368) (by decide) (by decide) (rfFound_1 kl0) ?_
        refine J_alen dX0_move_18 (xK_r1 (kFound_1 kl0)) (Or.inl (kFound_1 kl0)) (by decide) (nFound_1 kl0) ?_
        refine J_ic_ge (tgt := 67) dX0_move_19 (by decide) (fun hc => ?_) (fun hc => ?_)
        · have hf := xip hc hf
          refine J_iload_n 2 dX0_move_22 rfl rfl ?_
          refine J_aload_n 0 dX0_move_23 rfl rfl ?_
          refine J_getRl (j := 1) xcf0 dX0_move_24 kl0 (Or.inl xq368) (by decide) (by decide) (rfFound_1 kl0) ?_
          refine J_alen dX0_move_27 (xK_r1 (kFound_1 kl0)) (Or.inl (kFound_1 kl0)) (by decide) (nFound_1 kl0) ?_
          refine J_ic_ge (tgt := 67) dX0_move_28 (by decide) (fun hc => ?_) (fun hc => ?_)
          · have hf := xip hc hf
            refine J_aload_n 0 dX0_move_31 rfl rfl ?_
            refine J_getRl (j := 1) xcf0 dX0_move_32 kl0 (Or.inl xq368) (by decide) (by decide) (rfFound_1 kl0) ?_
            refine J_iload_n 2 dX0_move_35 rfl rfl ?_
            refine J_aload_n 0 dX0_move_36 rfl rfl ?_
            refine J_getRl (j := 1) xcf0 dX0_move_37 kl0 (Or.inl xq368) (by decide) (by decide) (rfFound_1 kl0) ?_
            refine J_iload_n 1 dX0_move_40 rfl rfl ?_
            obtain ⟨hg, hf⟩ := xgd_e hf
            refine J_iald dX0_move_41 (xK_r1 (kFound_1 kl0)) (kFound_1 kl0) hg (nFound_1 kl0) ?_
            obtain ⟨hg, hf⟩ := xgd_e hf
            obtain ⟨h1, eh1, hf⟩ := xlet_e hf
            refine J_iast dX0_move_42 (xK_r1 (kFound_1 kl0)) (kFound_1 kl0) hg (nFound_1 kl0) eh1 ?_
            refine J_aload_n 0 dX0_move_43 rfl rfl ?_
            refine J_getRl (j := 2) xcf0 dX0_move_44 kl0 (Or.inl xq369) (by decide) (by decide) (rfFound_2 kl0) ?_
            refine J_iload_n 2 dX0_move_47 rfl rfl ?_
            refine J_aload_n 0 dX0_move_48 rfl rfl ?_
            refine J_getRl (j := 2) xcf0 dX0_move_49 kl0 (Or.inl xq369) (by decide) (by decide) (rfFound_2 kl0) ?_
            refine J_iload_n 1 dX0_move_52 rfl rfl ?_
            obtain ⟨hg, hf⟩ := xgd_e hf
            refine J_iald dX0_move_53 (xK_r1 (kFound_2 kl0)) (kFound_2 kl0) hg (nFound_2 kl0) ?_
            obtain ⟨hg, hf⟩ := xgd_e hf
            obtain ⟨h2, eh2, hf⟩ := xlet_e hf
            refine J_iast dX0_move_54 (xK_r1 (kFound_2 kl0)) (kFound_2 kl0) hg (nFound_2 kl0) eh2 ?_
            refine J_aload_n 0 dX0_move_55 rfl rfl ?_
            refine J_getRl (j := 3) xcf0 dX0_move_56 kl0 (Or.inl xq370) (by decide) (by decide) (rfFound_3 kl0) ?_
            refine J_iload_n 2 dX0_move_59 rfl rfl ?_
            refine J_aload_n 0 dX0_move_60 rfl rfl ?_
            refine J_getRl (j := 3) xcf0 dX0_move_61 kl0 (Or.inl xq370) (by decide) (by decide) (rfFound_3 kl0) ?_
            refine J_iload_n 1 dX0_move_64 rfl rfl ?_
            obtain ⟨hg, hf⟩ := xgd_e hf
            refine J_iald dX0_move_65 (xK_r1 (kFound_3 kl0)) (kFound_3 kl0) hg (nFound_3 kl0) ?_
            obtain ⟨hg, hf⟩ := xgd_e hf
            obtain ⟨h3, eh3, hf⟩ := xlet_e hf
            refine J_iast dX0_move_66 (xK_r1 (kFound_3 kl0)) (kFound_3 kl0) hg (nFound_3 kl0) eh3 ?_
            exact J_rt dX0_move_67 rfl (xq_v hf)
          · have hf := xin' hc hf
            exact J_rt dX0_move_67 rfl (xq_v hf)
        · have hf := xin' hc hf
          exact J_rt dX0_move_67 rfl (xq_v hf)
      · have hf := xin' hc hf
        exact J_rt dX0_move_67 rfl (xq_v hf)
theorem dX0_lay_0 : decode cX0_lay 0 = .ok (.aload_n 0, 1) := by decide +kernel
theorem dX0_lay_1 : decode cX0_lay 1 = .ok (.getfield 21, 3) := by decide +kernel
theorem dX0_lay_4 : decode cX0_lay 4 = .ok (.iload_n 1, 1) := by decide +kernel
theorem dX0_lay_5 : decode cX0_lay 5 = .ok (.invokevirtual 48, 3) := by decide +kernel
theorem dX0_lay_8 : decode cX0_lay 8 = .ok (.istore 4, 2) := by decide +kernel
theorem dX0_lay_10 : decode cX0_lay 10 = .ok (.aload_n 0, 1) := by decide +kernel
theorem dX0_lay_11 : decode cX0_lay 11 = .ok (.getfield 25, 3) := by decide +kernel
theorem dX0_lay_14 : decode cX0_lay 14 = .ok (.istore 5, 2) := by decide +kernel
theorem dX0_lay_16 : decode cX0_lay 16 = .ok (.iload 5, 2) := by decide +kernel
theorem dX0_lay_18 : decode cX0_lay 18 = .ok (.ifCond .le 36, 3) := by decide +kernel
theorem dX0_lay_21 : decode cX0_lay 21 = .ok (.aload_n 0, 1) := by decide +kernel
theorem dX0_lay_22 : decode cX0_lay 22 = .ok (.iload_n 1, 1) := by decide +kernel
theorem dX0_lay_23 : decode cX0_lay 23 = .ok (.iload_n 2, 1) := by decide +kernel
theorem dX0_lay_24 : decode cX0_lay 24 = .ok (.iload 4, 2) := by decide +kernel
theorem dX0_lay_26 : decode cX0_lay 26 = .ok (.isub, 1) := by decide +kernel
theorem dX0_lay_27 : decode cX0_lay 27 = .ok (.iload 5, 2) := by decide +kernel
theorem dX0_lay_29 : decode cX0_lay 29 = .ok (.iconst 1, 1) := by decide +kernel
theorem dX0_lay_30 : decode cX0_lay 30 = .ok (.isub, 1) := by decide +kernel
theorem dX0_lay_31 : decode cX0_lay 31 = .ok (.invokevirtual 52, 3) := by decide +kernel
theorem dX0_lay_34 : decode cX0_lay 34 = .ok (.ifCond .eq 20, 3) := by decide +kernel
theorem dX0_lay_37 : decode cX0_lay 37 = .ok (.aload_n 0, 1) := by decide +kernel
theorem dX0_lay_38 : decode cX0_lay 38 = .ok (.iload 5, 2) := by decide +kernel
theorem dX0_lay_40 : decode cX0_lay 40 = .ok (.iconst 1, 1) := by decide +kernel
theorem dX0_lay_41 : decode cX0_lay 41 = .ok (.isub, 1) := by decide +kernel
theorem dX0_lay_42 : decode cX0_lay 42 = .ok (.iload 5, 2) := by decide +kernel
theorem dX0_lay_44 : decode cX0_lay 44 = .ok (.iload_n 3, 1) := by decide +kernel
theorem dX0_lay_45 : decode cX0_lay 45 = .ok (.invokevirtual 56, 3) := by decide +kernel
theorem dX0_lay_48 : decode cX0_lay 48 = .ok (.iinc 5 (-1), 3) := by decide +kernel
theorem dX0_lay_51 : decode cX0_lay 51 = .ok (.goto (-35), 3) := by decide +kernel
theorem dX0_lay_54 : decode cX0_lay 54 = .ok (.iload 5, 2) := by decide +kernel
theorem dX0_lay_56 : decode cX0_lay 56 = .ok (.iload_n 3, 1) := by decide +kernel
theorem dX0_lay_57 : decode cX0_lay 57 = .ok (.if_icmp .ge 52, 3) := by decide +kernel
theorem dX0_lay_60 : decode cX0_lay 60 = .ok (.iload 5, 2) := by decide +kernel
theorem dX0_lay_62 : decode cX0_lay 62 = .ok (.aload_n 0, 1) := by decide +kernel
theorem dX0_lay_63 : decode cX0_lay 63 = .ok (.getfield 9, 3) := by decide +kernel
theorem dX0_lay_66 : decode cX0_lay 66 = .ok (.arraylength, 1) := by decide +kernel
theorem dX0_lay_67 : decode cX0_lay 67 = .ok (.if_icmp .ge 42, 3) := by decide +kernel
theorem dX0_lay_70 : decode cX0_lay 70 = .ok (.aload_n 0, 1) := by decide +kernel
theorem dX0_lay_71 : decode cX0_lay 71 = .ok (.getfield 9, 3) := by decide +kernel
theorem dX0_lay_74 : decode cX0_lay 74 = .ok (.iload 5, 2) := by decide +kernel
theorem dX0_lay_76 : decode cX0_lay 76 = .ok (.iload_n 1, 1) := by decide +kernel
theorem dX0_lay_77 : decode cX0_lay 77 = .ok (.iastore, 1) := by decide +kernel
theorem dX0_lay_78 : decode cX0_lay 78 = .ok (.aload_n 0, 1) := by decide +kernel
theorem dX0_lay_79 : decode cX0_lay 79 = .ok (.getfield 15, 3) := by decide +kernel
theorem dX0_lay_82 : decode cX0_lay 82 = .ok (.iload 5, 2) := by decide +kernel
theorem dX0_lay_84 : decode cX0_lay 84 = .ok (.iload_n 2, 1) := by decide +kernel
theorem dX0_lay_85 : decode cX0_lay 85 = .ok (.iastore, 1) := by decide +kernel
theorem dX0_lay_86 : decode cX0_lay 86 = .ok (.aload_n 0, 1) := by decide +kernel
theorem dX0_lay_87 : decode cX0_lay 87 = .ok (.getfield 18, 3) := by decide +kernel
theorem dX0_lay_90 : decode cX0_lay 90 = .ok (.iload 5, 2) := by decide +kernel
theorem dX0_lay_92 : decode cX0_lay 92 = .ok (.iload 4, 2) := by decide +kernel
theorem dX0_lay_94 : decode cX0_lay 94 = .ok (.iastore, 1) := by decide +kernel
theorem dX0_lay_95 : decode cX0_lay 95 = .ok (.aload_n 0, 1) := by decide +kernel
theorem dX0_lay_96 : decode cX0_lay 96 = .ok (.aload_n 0, 1) := by decide +kernel
theorem dX0_lay_97 : decode cX0_lay 97 = .ok (.getfield 25, 3) := by decide +kernel
theorem dX0_lay_100 : decode cX0_lay 100 = .ok (.iconst 1, 1) := by decide +kernel
theorem dX0_lay_101 : decode cX0_lay 101 = .ok (.iadd, 1) := by decide +kernel
theorem dX0_lay_102 : decode cX0_lay 102 = .ok (.iload_n 3, 1) := by decide +kernel
theorem dX0_lay_103 : decode cX0_lay 103 = .ok (.invokestatic 38, 3) := by decide +kernel
theorem dX0_lay_106 : decode cX0_lay 106 = .ok (.putfield 25, 3) := by decide +kernel
theorem dX0_lay_109 : decode cX0_lay 109 = .ok (.return_, 1) := by decide +kernel
theorem j_Found_lay_54 {l0 : Int} {l1 : Int} {l2 : Int} {l3 : Int} {l4 : Int} {l5 : Int} {h : xH} {h0 : xH} (kl0 : xK l0 = 3 + 0) (hf : f_Found_lay_54 l0 l1 l2 l3 l4 l5 h = some h0)  : J mX0_lay true 0 0 54 xKn [(0, xR l0), (1, xI l1), (2, xI l2), (3, xI l3), (4, xI l4), (5, xI l5)] [] h (xEq none h0) := by
  unfold f_Found_lay_54 at hf
  refine J_iload 5 dX0_lay_54 rfl ?_
  refine J_iload_n 3 dX0_lay_56 rfl rfl ?_
  refine J_ic_ge (tgt := 109) dX0_lay_57 (by decide) (fun hc => ?_) (fun hc => ?_)
  · have hf := xip hc hf
    refine J_iload 5 dX0_lay_60 rfl ?_
    refine J_aload_n 0 dX0_lay_62 rfl rfl ?_
    refine J_getRl (j := 1) xcf0 dX0_lay_63 kl0 (Or.inl xq368) (by decide) (by decide) (rfFound_1 kl0) ?_
    refine J_alen dX0_lay_66 (xK_r1 (kFound_1 kl0)) (Or.inl (kFound_1 kl0)) (by decide) (nFound_1 kl0) ?_
    refine J_ic_ge (tgt := 109) dX0_lay_67 (by decide) (fun hc => ?_) (fun hc => ?_)
    · have hf := xip hc hf
      refine J_aload_n 0 dX0_lay_70 rfl rfl ?_
      refine J_getRl (j := 1) xcf0 dX0_lay_71 kl0 (Or.inl xq368) (by decide) (by decide) (rfFound_1 kl0) ?_
      refine J_iload 5 dX0_lay_74 rfl ?_
      refine J_iload_n 1 dX0_lay_76 rfl rfl ?_
      obtain ⟨hg, hf⟩ := xgd_e hf
      obtain ⟨h1, eh1, hf⟩ := xlet_e hf
      refine J_iast dX0_lay_77 (xK_r1 (kFound_1 kl0)) (kFound_1 kl0) hg (nFound_1 kl0) eh1 ?_
      refine J_aload_n 0 dX0_lay_78 rfl rfl ?_
      refine J_getRl (j := 2) xcf0 dX0_lay_79 kl0 (Or.inl xq369) (by decide) (by decide) (rfFound_2 kl0) ?_
      refine J_iload 5 dX0_lay_82 rfl ?_
      refine J_iload_n 2 dX0_lay_84 rfl rfl ?_
      obtain ⟨hg, hf⟩ := xgd_e hf
      obtain ⟨h2, eh2, hf⟩ := xlet_e hf
      refine J_iast dX0_lay_85 (xK_r1 (kFound_2 kl0)) (kFound_2 kl0) hg (nFound_2 kl0) eh2 ?_
      refine J_aload_n 0 dX0_lay_86 rfl rfl ?_
      refine J_getRl (j := 3) xcf0 dX0_lay_87 kl0 (Or.inl xq370) (by decide) (by decide) (rfFound_3 kl0) ?_
      refine J_iload 5 dX0_lay_90 rfl ?_
      refine J_iload 4 dX0_lay_92 rfl ?_
      obtain ⟨hg, hf⟩ := xgd_e hf
      obtain ⟨h3, eh3, hf⟩ := xlet_e hf
      refine J_iast dX0_lay_94 (xK_r1 (kFound_3 kl0)) (kFound_3 kl0) hg (nFound_3 kl0) eh3 ?_
      refine J_aload_n 0 dX0_lay_95 rfl rfl ?_
      refine J_aload_n 0 dX0_lay_96 rfl rfl ?_
      refine J_getI (j := 4) xcf0 dX0_lay_97 (xK_rg kl0) kl0 (Or.inl xq371) (by decide) (by decide) ?_
      refine J_iconst dX0_lay_100 (by decide) ?_
      refine J_iadd dX0_lay_101 ?_
      refine J_iload_n 3 dX0_lay_102 rfl rfl ?_
      refine J_mmin dX0_lay_103 ⟨xq779, xq542, xq129, xq543⟩ (xbl rfl) (xbl rfl) ?_
      obtain ⟨h4, eh4, hf⟩ := xlet_e hf
      refine J_putI (j := 4) xcf0 dX0_lay_106 (xK_rg kl0) kl0 (Or.inl xq371) (by decide) (by decide) eh4 ?_
      exact J_rt dX0_lay_109 rfl (xq_v hf)
    · have hf := xin' hc hf
      exact J_rt dX0_lay_109 rfl (xq_v hf)
  · have hf := xin' hc hf
    exact J_rt dX0_lay_109 rfl (xq_v hf)
theorem j_Found_lay_s16 {l0 : Int} {l1 : Int} {l2 : Int} {l3 : Int} {l4 : Int} {l5 : Int} {h : xH} {x : ((Int × xH) ⊕ (Int × xH))} {Q : xQ} (kl0 : xK l0 = 3 + 0) (hf : f_Found_lay_s16 l0 l1 l2 l3 l4 l5 h = some x) (kb : ∀ (l5' : Int) (h' : xH), x = Sum.inl (l5', h') → J mX0_lay true 0 0 16 xKn [(0, xR l0), (1, xI l1), (2, xI l2), (3, xI l3), (4, xI l4), (5, xI l5')] [] h' Q) (ke : ∀ (l5' : Int) (h' : xH), x = (Sum.inr (l5', h')) → J mX0_lay true 0 0 54 xKn [(0, xR l0), (1, xI l1), (2, xI l2), (3, xI l3), (4, xI l4), (5, xI l5')] [] h' Q) : J mX0_lay true 0 0 16 xKn [(0, xR l0), (1, xI l1), (2, xI l2), (3, xI l3), (4, xI l4), (5, xI l5)] [] h Q := by
  unfold f_Found_lay_s16 at hf
  refine J_iload 5 dX0_lay_16 rfl ?_
  refine J_if_le (tgt := 54) dX0_lay_18 (by decide) (fun hc => ?_) (fun hc => ?_)
  · have hf := xip hc hf
    refine J_aload_n 0 dX0_lay_21 rfl rfl ?_
    refine J_iload_n 1 dX0_lay_22 rfl rfl ?_
    refine J_iload_n 2 dX0_lay_23 rfl rfl ?_
    refine J_iload 4 dX0_lay_24 rfl ?_
    refine J_isub dX0_lay_26 ?_
    refine J_iload 5 dX0_lay_27 rfl ?_
    refine J_iconst dX0_lay_29 (by decide) ?_
    refine J_isub dX0_lay_30 ?_
    obtain ⟨r1, hq, hf⟩ := xc1_e hf
    refine J_cVi (Mc := mX0_isAhead) [xI l1, xI (w32 (l2 - l4)), xI (w32 (l5 - 1))] dX0_lay_31 (fc_Found_isAhead.fit ⟨xbl rfl, xbl rfl⟩) rfl ⟨Or.inl xq790, xq792, xq51⟩ kl0 (ci := 0) rfl rfl (xbl rfl) (xbl rfl) (jm_Found_isAhead kl0 hq) ?_
    refine J_if_eq (tgt := 54) dX0_lay_34 (by decide) (fun hc => ?_) (fun hc => ?_)
    · have hf := xip hc hf
      exact ke _ _ (xinl hf)
    · have hf := xin' hc hf
      refine J_aload_n 0 dX0_lay_37 rfl rfl ?_
      refine J_iload 5 dX0_lay_38 rfl ?_
      refine J_iconst dX0_lay_40 (by decide) ?_
      refine J_isub dX0_lay_41 ?_
      refine J_iload 5 dX0_lay_42 rfl ?_
      refine J_iload_n 3 dX0_lay_44 rfl rfl ?_
      obtain ⟨h2, hq, hf⟩ := xc1_e hf
      refine J_cVv (Mc := mX0_move) [xI (w32 (l5 - 1)), xI l5, xI l3] dX0_lay_45 (fc_Found_move.fit ⟨xbl rfl, xbl rfl⟩) rfl ⟨Or.inl xq795, xq797, xq52⟩ kl0 (ci := 0) rfl rfl (xbl rfl) (xbl rfl) (jm_Found_move kl0 hq) ?_
      obtain ⟨x3, ex3, hf⟩ := xlet_e hf
      refine J_iinc (ls' := [(5, xI x3), (0, xR l0), (1, xI l1), (2, xI l2), (3, xI l3), (4, xI l4)]) 5 dX0_lay_48 rfl (by decide) ex3 rfl ?_
      refine J_goto (tgt := 16) dX0_lay_51 (by decide) ?_
      refine J_sub [1, 2, 3, 4, 5, 0] rfl ?_
      exact kb _ _ (xinl hf)
  · have hf := xin' hc hf
    exact ke _ _ (xinl hf)
theorem j_Found_lay_16 {l0 : Int} {l1 : Int} {l2 : Int} {l3 : Int} {l4 : Int} {l5 : Int} {h : xH} {h0 : xH} (kl0 : xK l0 = 3 + 0) (hf : f_Found_lay_16 l0 l1 l2 l3 l4 l5 h = some h0)  : J mX0_lay true 0 0 16 xKn [(0, xR l0), (1, xI l1), (2, xI l2), (3, xI l3), (4, xI l4), (5, xI l5)] [] h (xEq none h0) := by
  unfold f_Found_lay_16 at hf
  obtain ⟨b0, hb0, hf⟩ := xc1_e hf
  refine xloop_ind (P := fun s : (Int × xH) => J mX0_lay true 0 0 16 xKn [(0, xR l0), (1, xI l1), (2, xI l2), (3, xI l3), (4, xI l4), (5, xI s.1)] [] s.2 (xEq none h0)) hb0 (fun s x1 hs ib ie => ?_)
  exact j_Found_lay_s16 kl0 hs (fun _ _ e => ib _ e) (fun _ _ e => by have := ie _ e; subst this; exact j_Found_lay_54 kl0 hf)
theorem jm_Found_lay {l0 : Int} {l1 : Int} {l2 : Int} {l3 : Int} {h : xH} {h0 : xH} (kl0 : xK l0 = 3 + 0) (hf : f_Found_lay l0 l1 l2 l3 h = some h0) : J mX0_lay true 0 0 0 xKn (xen 0 [xR l0, xI l1, xI l2, xI l3]) [] h (xEq none h0) := by
  unfold f_Found_lay at hf
  refine J_cong (ls2 := [(0, xR l0), (1, xI l1), (2, xI l2), (3, xI l3)]) (st2 := []) rfl rfl ?_
  refine J_aload_n 0 dX0_lay_0 rfl rfl ?_
  refine J_getRl (j := 0) xcf0 dX0_lay_1 kl0 (Or.inl xq367) (by decide) (by decide) (rfFound_0 kl0) ?_
  refine J_iload_n 1 dX0_lay_4 rfl rfl ?_
  obtain ⟨r1, hq, hf⟩ := xc1_e hf
  refine J_cVi (Mc := mX1_share) [xI l1] dX0_lay_5 (fc_Lex_share.fit ⟨xbl rfl, xbl rfl⟩) rfl ⟨Or.inr ⟨_, xq784⟩, xq786, xq50⟩ kO4 (ci := 1) rfl rfl (xbl rfl) (xbl rfl) (jm_Lex_share  hq) ?_
  refine J_istore (ls' := [(4, xI r1), (0, xR l0), (1, xI l1), (2, xI l2), (3, xI l3)]) dX0_lay_8 (by decide) rfl rfl ?_
  refine J_aload_n 1 dX0_lay_10 rfl rfl ?_
  refine J_getI (j := 4) xcf0 dX0_lay_11 (xK_rg kl0) kl0 (Or.inl xq371) (by decide) (by decide) ?_
  obtain ⟨x2, ex2, hf⟩ := xlet_e hf
  refine J_istore (ls' := [(5, xI x2), (4, xI r1), (0, xR l0), (1, xI l1), (2, xI l2), (3, xI l3)]) dX0_lay_14 (by decide) ex2 rfl ?_
  refine J_sub [2, 3, 4, 5, 1, 0] rfl ?_
  exact j_Found_lay_16 kl0 hf
theorem dX0_gather_0 : decode cX0_gather 0 = .ok (.aload_n 0, 1) := by decide +kernel
theorem dX0_gather_1 : decode cX0_gather 1 = .ok (.iconst 0, 1) := by decide +kernel
theorem dX0_gather_2 : decode cX0_gather 2 = .ok (.putfield 25, 3) := by decide +kernel
theorem dX0_gather_5 : decode cX0_gather 5 = .ok (.iconst 0, 1) := by decide +kernel
theorem dX0_gather_6 : decode cX0_gather 6 = .ok (.istore 4, 2) := by decide +kernel
theorem dX0_gather_8 : decode cX0_gather 8 = .ok (.iload 4, 2) := by decide +kernel
theorem dX0_gather_10 : decode cX0_gather 10 = .ok (.aload_n 0, 1) := by decide +kernel
theorem dX0_gather_11 : decode cX0_gather 11 = .ok (.getfield 21, 3) := by decide +kernel
theorem dX0_gather_14 : decode cX0_gather 14 = .ok (.getfield 29, 3) := by decide +kernel
theorem dX0_gather_17 : decode cX0_gather 17 = .ok (.getfield 35, 3) := by decide +kernel
theorem dX0_gather_20 : decode cX0_gather 20 = .ok (.if_icmp .ge 41, 3) := by decide +kernel
theorem dX0_gather_23 : decode cX0_gather 23 = .ok (.iload 4, 2) := by decide +kernel
theorem dX0_gather_25 : decode cX0_gather 25 = .ok (.aload_n 1, 1) := by decide +kernel
theorem dX0_gather_26 : decode cX0_gather 26 = .ok (.arraylength, 1) := by decide +kernel
theorem dX0_gather_27 : decode cX0_gather 27 = .ok (.if_icmp .ge 34, 3) := by decide +kernel
theorem dX0_gather_30 : decode cX0_gather 30 = .ok (.aload_n 1, 1) := by decide +kernel
theorem dX0_gather_31 : decode cX0_gather 31 = .ok (.iload 4, 2) := by decide +kernel
theorem dX0_gather_33 : decode cX0_gather 33 = .ok (.iaload, 1) := by decide +kernel
theorem dX0_gather_34 : decode cX0_gather 34 = .ok (.iload_n 2, 1) := by decide +kernel
theorem dX0_gather_35 : decode cX0_gather 35 = .ok (.if_icmp .gt 20, 3) := by decide +kernel
theorem dX0_gather_38 : decode cX0_gather 38 = .ok (.aload_n 0, 1) := by decide +kernel
theorem dX0_gather_39 : decode cX0_gather 39 = .ok (.iload 4, 2) := by decide +kernel
theorem dX0_gather_41 : decode cX0_gather 41 = .ok (.aload_n 1, 1) := by decide +kernel
theorem dX0_gather_42 : decode cX0_gather 42 = .ok (.iload 4, 2) := by decide +kernel
theorem dX0_gather_44 : decode cX0_gather 44 = .ok (.iaload, 1) := by decide +kernel
theorem dX0_gather_45 : decode cX0_gather 45 = .ok (.iload_n 3, 1) := by decide +kernel
theorem dX0_gather_46 : decode cX0_gather 46 = .ok (.sipush 200, 3) := by decide +kernel
theorem dX0_gather_49 : decode cX0_gather 49 = .ok (.invokestatic 38, 3) := by decide +kernel
theorem dX0_gather_52 : decode cX0_gather 52 = .ok (.invokevirtual 44, 3) := by decide +kernel
theorem dX0_gather_55 : decode cX0_gather 55 = .ok (.iinc 4 1, 3) := by decide +kernel
theorem dX0_gather_58 : decode cX0_gather 58 = .ok (.goto (-50), 3) := by decide +kernel
theorem dX0_gather_61 : decode cX0_gather 61 = .ok (.aload_n 0, 1) := by decide +kernel
theorem dX0_gather_62 : decode cX0_gather 62 = .ok (.getfield 25, 3) := by decide +kernel
theorem dX0_gather_65 : decode cX0_gather 65 = .ok (.ireturn, 1) := by decide +kernel
theorem j_Found_gather_61 {l0 : Int} {h : xH} {r0 : Int} {h0 : xH} (kl0 : xK l0 = 3 + 0) (hf : f_Found_gather_61 l0 h = some (r0, h0))  : J mX0_gather true 0 0 61 xKn [(0, xR l0)] [] h (xEq (some r0) h0) := by
  unfold f_Found_gather_61 at hf
  refine J_aload_n 0 dX0_gather_61 rfl rfl ?_
  refine J_getI (j := 4) xcf0 dX0_gather_62 (xK_rg kl0) kl0 (Or.inl xq371) (by decide) (by decide) ?_
  exact J_ireti dX0_gather_65 rfl (xq_i hf)
theorem j_Found_gather_55 {l0 : Int} {l1 : Int} {l2 : Int} {l3 : Int} {l4 : Int} {h : xH} {x : ((Int × xH) ⊕ xH)} {Q : xQ} (kl0 : xK l0 = 3 + 0) (kl1 : xK l1 = 1) (hf : f_Found_gather_55 l0 l1 l2 l3 l4 h = some x) (kb : ∀ (l4' : Int) (h' : xH), x = Sum.inl (l4', h') → J mX0_gather true 0 0 8 xKn [(0, xR l0), (1, xR l1), (2, xI l2), (3, xI l3), (4, xI l4')] [] h' Q) (ke : ∀  (h' : xH), x = (Sum.inr h') → J mX0_gather true 0 0 61 xKn [(0, xR l0)] [] h' Q) : J mX0_gather true 0 0 55 xKn [(0, xR l0), (1, xR l1), (2, xI l2), (3, xI l3), (4, xI l4)] [] h Q := by
  unfold f_Found_gather_55 at hf
  obtain ⟨x1, ex1, hf⟩ := xlet_e hf
  refine J_iinc (ls' := [(4, xI x1), (0, xR l0), (1, xR l1), (2, xI l2), (3, xI l3)]) 4 dX0_gather_55 rfl (by decide) ex1 rfl ?_
  refine J_goto (tgt := 8) dX0_gather_58 (by decide) ?_
  refine J_sub [1, 2, 3, 4, 0] rfl ?_
  exact kb _ _ (xinl hf)
theorem j_Found_gather_s8 {l0 : Int} {l1 : Int} {l2 : Int} {l3 : Int} {l4 : Int} {h : xH} {x : ((Int × xH) ⊕ xH)} {Q : xQ} (kl0 : xK l0 = 3 + 0) (kl1 : xK l1 = 1) (hf : f_Found_gather_s8 l0 l1 l2 l3 l4 h = some x) (kb : ∀ (l4' : Int) (h' : xH), x = Sum.inl (l4', h') → J mX0_gather true 0 0 8 xKn [(0, xR l0), (1, xR l1), (2, xI l2), (3, xI l3), (4, xI l4')] [] h' Q) (ke : ∀  (h' : xH), x = (Sum.inr h') → J mX0_gather true 0 0 61 xKn [(0, xR l0)] [] h' Q) : J mX0_gather true 0 0 8 xKn [(0, xR l0), (1, xR l1), (2, xI l2), (3, xI l3), (4, xI l4)] [] h Q := by
  unfold f_Found_gather_s8 at hf
  refine J_iload 4 dX0_gather_8 rfl ?_
  refine J_aload_n 0 dX0_gather_10 rfl rfl ?_
  refine J_getRl (j := 0) xcf0 dX0_gather_11 kl0 (Or.inl xq367) (by decide) (by decide) (rfFound_0 kl0) ?_
  refine J_getRl (j := 0) xcf1 dX0_gather_14 kO4 (Or.inr ⟨_, xq195⟩) (by decide) (by decide) rf_4_0 ?_
  refine J_getI (j := 2) xcf5 dX0_gather_17 (xK_rg kO5) kO5 (Or.inr ⟨_, xq182⟩) (by decide) (by decide) ?_
  refine J_ic_ge (tgt := 61) dX0_gather_20 (by decide) (fun hc => ?_) (fun hc => ?_)
  · have hf := xip hc hf
    refine J_iload 4 dX0_gather_23 rfl ?_
    refine J_aload_n 1 dX0_gather_25 rfl rfl ?_
    refine J_alen dX0_gather_26 (xK_r1 kl1) (Or.inl kl1) (xNok l1) rfl ?_
    refine J_ic_ge (tgt := 61) dX0_gather_27 (by decide) (fun hc => ?_) (fun hc => ?_)
    · have hf := xip hc hf
      refine J_aload_n 1 dX0_gather_30 rfl rfl ?_
      refine J_iload 4 dX0_gather_31 rfl ?_
      obtain ⟨hg, hf⟩ := xgd_e hf
      refine J_iald dX0_gather_33 (xK_r1 kl1) kl1 hg rfl ?_
      refine J_iload_n 2 dX0_gather_34 rfl rfl ?_
      refine J_ic_gt (tgt := 55) dX0_gather_35 (by decide) (fun hc => ?_) (fun hc => ?_)
      · have hf := xip hc hf
        exact j_Found_gather_55 kl0 kl1 hf kb ke
      · have hf := xin' hc hf
        refine J_aload_n 0 dX0_gather_38 rfl rfl ?_
        refine J_iload 4 dX0_gather_39 rfl ?_
        refine J_aload_n 1 dX0_gather_41 rfl rfl ?_
        refine J_iload 4 dX0_gather_42 rfl ?_
        obtain ⟨hg, hf⟩ := xgd_e hf
        refine J_iald dX0_gather_44 (xK_r1 kl1) kl1 hg rfl ?_
        refine J_iload_n 3 dX0_gather_45 rfl rfl ?_
        refine J_sip dX0_gather_46 (by decide) ?_
        refine J_mmin dX0_gather_49 ⟨xq779, xq542, xq129, xq543⟩ (xbl rfl) (xbl rfl) ?_
        obtain ⟨h1, hq, hf⟩ := xc1_e hf
        refine J_cVv (Mc := mX0_lay) [xI l4, xI (h l1 l4), xI (min l3 200)] dX0_gather_52 (fc_Found_lay.fit ⟨xbl rfl, xbl rfl⟩) rfl ⟨Or.inl xq780, xq782, xq49⟩ kl0 (ci := 0) rfl rfl (xbl rfl) (xbl rfl) (jm_Found_lay kl0 hq) ?_
        exact j_Found_gather_55 kl0 kl1 hf kb ke
    · have hf := xin' hc hf
      refine J_sub [0] rfl ?_
      exact ke _ (xinl hf)
  · have hf := xin' hc hf
    refine J_sub [0] rfl ?_
    exact ke _ (xinl hf)
theorem j_Found_gather_8 {l0 : Int} {l1 : Int} {l2 : Int} {l3 : Int} {l4 : Int} {h : xH} {r0 : Int} {h0 : xH} (kl0 : xK l0 = 3 + 0) (kl1 : xK l1 = 1) (hf : f_Found_gather_8 l0 l1 l2 l3 l4 h = some (r0, h0))  : J mX0_gather true 0 0 8 xKn [(0, xR l0), (1, xR l1), (2, xI l2), (3, xI l3), (4, xI l4)] [] h (xEq (some r0) h0) := by
  unfold f_Found_gather_8 at hf
  obtain ⟨b0, hb0, hf⟩ := xc1_e hf
  refine xloop_ind (P := fun s : (Int × xH) => J mX0_gather true 0 0 8 xKn [(0, xR l0), (1, xR l1), (2, xI l2), (3, xI l3), (4, xI s.1)] [] s.2 (xEq (some r0) h0)) hb0 (fun s x1 hs ib ie => ?_)
  exact j_Found_gather_s8 kl0 kl1 hs (fun _ _ e => ib _ e) (fun _ e => by have := ie _ e; subst this; exact j_Found_gather_61 kl0 hf)
theorem jm_Found_gather {l0 : Int} {l1 : Int} {l2 : Int} {l3 : Int} {h : xH} {r0 : Int} {h0 : xH} (kl0 : xK l0 = 3 + 0) (kl1 : xK l1 = 1) (hf : f_Found_gather l0 l1 l2 l3 h = some (r0, h0)) : J mX0_gather true 0 0 0 xKn (xen 0 [xR l0, xR l1, xI l2, xI l3]) [] h (xEq (some r0) h0) := by
  unfold f_Found_gather at hf
  refine J_cong (ls2 := [(0, xR l0), (1, xR l1), (2, xI l2), (3, xI l3)]) (st2 := []) rfl rfl ?_
  refine J_aload_n 0 dX0_gather_0 rfl rfl ?_
  refine J_iconst dX0_gather_1 (by decide) ?_
  obtain ⟨h1, eh1, hf⟩ := xlet_e hf
  refine J_putI (j := 4) xcf0 dX0_gather_2 (xK_rg kl0) kl0 (Or.inl xq371) (by decide) (by decide) eh1 ?_
  refine J_iconst dX0_gather_5 (by decide) ?_
  refine J_istore (ls' := [(4, xI 0), (0, xR l0), (1, xR l1), (2, xI l2), (3, xI l3)]) dX0_gather_6 (by decide) rfl rfl ?_
  refine J_sub [1, 2, 3, 4, 0] rfl ?_
  exact j_Found_gather_8 kl0 kl1 hf
theorem dX11_near_0 : decode cX11_near 0 = .ok (.aload_n 0, 1) := by decide +kernel
theorem dX11_near_1 : decode cX11_near 1 = .ok (.getfield 12, 3) := by decide +kernel
theorem dX11_near_4 : decode cX11_near 4 = .ok (.aload_n 0, 1) := by decide +kernel
theorem dX11_near_5 : decode cX11_near 5 = .ok (.getfield 37, 3) := by decide +kernel
theorem dX11_near_8 : decode cX11_near 8 = .ok (.invokevirtual 113, 3) := by decide +kernel
theorem dX11_near_11 : decode cX11_near 11 = .ok (.istore_n 2, 1) := by decide +kernel
theorem dX11_near_12 : decode cX11_near 12 = .ok (.iload_n 2, 1) := by decide +kernel
theorem dX11_near_13 : decode cX11_near 13 = .ok (.ifCond .eq 10, 3) := by decide +kernel
theorem dX11_near_16 : decode cX11_near 16 = .ok (.iload_n 1, 1) := by decide +kernel
theorem dX11_near_17 : decode cX11_near 17 = .ok (.invokestatic 196, 3) := by decide +kernel
theorem dX11_near_20 : decode cX11_near 20 = .ok (.ifCond .eq 6, 3) := by decide +kernel
theorem dX11_near_23 : decode cX11_near 23 = .ok (.bipush (-2), 2) := by decide +kernel
theorem dX11_near_25 : decode cX11_near 25 = .ok (.ireturn, 1) := by decide +kernel
theorem dX11_near_26 : decode cX11_near 26 = .ok (.aload_n 0, 1) := by decide +kernel
theorem dX11_near_27 : decode cX11_near 27 = .ok (.getfield 79, 3) := by decide +kernel
theorem dX11_near_30 : decode cX11_near 30 = .ok (.aload_n 0, 1) := by decide +kernel
theorem dX11_near_31 : decode cX11_near 31 = .ok (.getfield 37, 3) := by decide +kernel
theorem dX11_near_34 : decode cX11_near 34 = .ok (.iload_n 1, 1) := by decide +kernel
theorem dX11_near_35 : decode cX11_near 35 = .ok (.iconst 1, 1) := by decide +kernel
theorem dX11_near_36 : decode cX11_near 36 = .ok (.invokevirtual 200, 3) := by decide +kernel
theorem dX11_near_39 : decode cX11_near 39 = .ok (.aload_n 0, 1) := by decide +kernel
theorem dX11_near_40 : decode cX11_near 40 = .ok (.getfield 88, 3) := by decide +kernel
theorem dX11_near_43 : decode cX11_near 43 = .ok (.aload_n 0, 1) := by decide +kernel
theorem dX11_near_44 : decode cX11_near 44 = .ok (.getfield 79, 3) := by decide +kernel
theorem dX11_near_47 : decode cX11_near 47 = .ok (.getfield 204, 3) := by decide +kernel
theorem dX11_near_50 : decode cX11_near 50 = .ok (.iload_n 1, 1) := by decide +kernel
theorem dX11_near_51 : decode cX11_near 51 = .ok (.sipush 200, 3) := by decide +kernel
theorem dX11_near_54 : decode cX11_near 54 = .ok (.invokevirtual 207, 3) := by decide +kernel
theorem dX11_near_57 : decode cX11_near 57 = .ok (.ireturn, 1) := by decide +kernel
theorem jm_WM_near {l1 : Int} {h : xH} {r0 : Int} {h0 : xH}  (hf : f_WM_near l1 h = some (r0, h0)) : J mX11_near true 0 0 0 xKn (xen 0 [xR 1, xI l1]) [] h (xEq (some r0) h0) := by
  unfold f_WM_near at hf
  refine J_cong (ls2 := [(0, xR 1), (1, xI l1)]) (st2 := []) rfl rfl ?_
  refine J_aload_n 0 dX11_near_0 rfl rfl ?_
  refine J_getRl (j := 0) xcf11 dX11_near_1 kO1 (Or.inl xq435) (by decide) (by decide) rf_1_0 ?_
  refine J_aload_n 0 dX11_near_4 rfl rfl ?_
  refine J_getRl (j := 4) xcf11 dX11_near_5 kO1 (Or.inl xq439) (by decide) (by decide) rf_1_4 ?_
  obtain ⟨r1, h2, hq, hf⟩ := xc2_e hf
  refine J_cVi (Mc := mX7_takeRow) [xR 23] dX11_near_8 (fc_Tape_takeRow.fit ⟨xbl rfl, xbl rfl⟩) rfl ⟨Or.inr ⟨_, xq499⟩, xq501, xq1⟩ kO2 (ci := 7) rfl rfl (xbl rfl) (xbl rfl) (jm_Tape_takeRow kO23 hq) ?_
  refine J_istore_n (ls' := [(2, xI r1), (0, xR 1), (1, xI l1)]) dX11_near_11 rfl (by decide) rfl rfl ?_
  refine J_iload_n 0 dX11_near_12 rfl rfl ?_
  refine J_if_eq (tgt := 23) dX11_near_13 (by decide) (fun hc => ?_) (fun hc => ?_)
  · have hf := xip hc hf
    refine J_bip dX11_near_23 (by decide) ?_
    exact J_ireti dX11_near_25 rfl (xq_i hf)
  · have hf := xin' hc hf
    refine J_iload_n 2 dX11_near_16 rfl rfl ?_
    obtain ⟨r3, hq, hf⟩ := xc1_e hf
    refine J_cSi (Mc := mX11_isNoBound) [xI l1] dX11_near_17 (fc_WM_isNoBound.fit ⟨xbl rfl, xbl rfl⟩) rfl ⟨Or.inl xq717, xq718⟩ rfl (xbl rfl) (xbl rfl) (jm_WM_isNoBound  hq) ?_
    refine J_if_eq (tgt := 26) dX11_near_20 (by decide) (fun hc => ?_) (fun hc => ?_)
    · have hf := xip hc hf
      refine J_aload_n 1 dX11_near_26 rfl rfl ?_
      refine J_getRl (j := 12) xcf11 dX11_near_27 kO1 (Or.inl xq447) (by decide) (by decide) rf_1_12 ?_
      refine J_aload_n 1 dX11_near_30 rfl rfl ?_
      refine J_getRl (j := 4) xcf11 dX11_near_31 kO1 (Or.inl xq439) (by decide) (by decide) rf_1_4 ?_
      refine J_iload_n 2 dX11_near_34 rfl rfl ?_
      refine J_iconst dX11_near_35 (by decide) ?_
      obtain ⟨h4, hq, hf⟩ := xc1_e hf
      refine J_cVv (Mc := mX9_go) [xR 23, xI l1, xI 1] dX11_near_36 (fc_Walk_go.fit ⟨xbl rfl, xbl rfl⟩) rfl ⟨Or.inr ⟨_, xq721⟩, xq723, xq38⟩ kO48 (ci := 9) rfl rfl (xbl rfl) (xbl rfl) (jm_Walk_go kO23 hq) ?_
      refine J_aload_n 1 dX11_near_39 rfl rfl ?_
      refine J_getRl (j := 13) xcf11 dX11_near_40 kO1 (Or.inl xq448) (by decide) (by decide) rf_1_13 ?_
      refine J_aload_n 1 dX11_near_43 rfl rfl ?_
      refine J_getRl (j := 12) xcf11 dX11_near_44 kO1 (Or.inl xq447) (by decide) (by decide) rf_1_12 ?_
      refine J_getRl (j := 7) xcf9 dX11_near_47 kO48 (Or.inr ⟨_, xq339⟩) (by decide) (by decide) rf_48_7 ?_
      refine J_iload_n 2 dX11_near_50 rfl rfl ?_
      refine J_sip dX11_near_51 (by decide) ?_
      obtain ⟨r5, h6, hq, hf⟩ := xc2_e hf
      refine J_cVi (Mc := mX0_gather) [xR 60, xI l1, xI 200] dX11_near_54 (fc_Found_gather.fit ⟨xbl rfl, xbl rfl⟩) rfl ⟨Or.inr ⟨_, xq775⟩, xq777, xq48⟩ kO62 (ci := 0) rfl rfl (xbl rfl) (xbl rfl) (jm_Found_gather kO62 kO60 hq) ?_
      exact J_ireti dX11_near_57 rfl (xq_i hf)
    · have hf := xin' hc hf
      refine J_bip dX11_near_23 (by decide) ?_
      exact J_ireti dX11_near_25 rfl (xq_i hf)
theorem dX11_nearest_0 : decode cX11_nearest 0 = .ok (.aload_n 0, 1) := by decide +kernel
theorem dX11_nearest_1 : decode cX11_nearest 1 = .ok (.getfield 12, 3) := by decide +kernel
theorem dX11_nearest_4 : decode cX11_nearest 4 = .ok (.aload_n 0, 1) := by decide +kernel
theorem dX11_nearest_5 : decode cX11_nearest 5 = .ok (.getfield 37, 3) := by decide +kernel
theorem dX11_nearest_8 : decode cX11_nearest 8 = .ok (.invokevirtual 113, 3) := by decide +kernel
theorem dX11_nearest_11 : decode cX11_nearest 11 = .ok (.istore_n 2, 1) := by decide +kernel
theorem dX11_nearest_12 : decode cX11_nearest 12 = .ok (.iload_n 2, 1) := by decide +kernel
theorem dX11_nearest_13 : decode cX11_nearest 13 = .ok (.ifCond .eq 15, 3) := by decide +kernel
theorem dX11_nearest_16 : decode cX11_nearest 16 = .ok (.iload_n 1, 1) := by decide +kernel
theorem dX11_nearest_17 : decode cX11_nearest 17 = .ok (.iconst 1, 1) := by decide +kernel
theorem dX11_nearest_18 : decode cX11_nearest 18 = .ok (.if_icmp .lt 10, 3) := by decide +kernel
theorem dX11_nearest_21 : decode cX11_nearest 21 = .ok (.iload_n 1, 1) := by decide +kernel
theorem dX11_nearest_22 : decode cX11_nearest 22 = .ok (.sipush 200, 3) := by decide +kernel
theorem dX11_nearest_25 : decode cX11_nearest 25 = .ok (.if_icmp .le 6, 3) := by decide +kernel
theorem dX11_nearest_28 : decode cX11_nearest 28 = .ok (.bipush (-2), 2) := by decide +kernel
theorem dX11_nearest_30 : decode cX11_nearest 30 = .ok (.ireturn, 1) := by decide +kernel
theorem dX11_nearest_31 : decode cX11_nearest 31 = .ok (.aload_n 0, 1) := by decide +kernel
theorem dX11_nearest_32 : decode cX11_nearest 32 = .ok (.getfield 79, 3) := by decide +kernel
theorem dX11_nearest_35 : decode cX11_nearest 35 = .ok (.aload_n 0, 1) := by decide +kernel
theorem dX11_nearest_36 : decode cX11_nearest 36 = .ok (.getfield 37, 3) := by decide +kernel
theorem dX11_nearest_39 : decode cX11_nearest 39 = .ok (.ldc 211, 2) := by decide +kernel
theorem dX11_nearest_41 : decode cX11_nearest 41 = .ok (.iconst 0, 1) := by decide +kernel
theorem dX11_nearest_42 : decode cX11_nearest 42 = .ok (.invokevirtual 200, 3) := by decide +kernel
theorem dX11_nearest_45 : decode cX11_nearest 45 = .ok (.aload_n 0, 1) := by decide +kernel
theorem dX11_nearest_46 : decode cX11_nearest 46 = .ok (.getfield 88, 3) := by decide +kernel
theorem dX11_nearest_49 : decode cX11_nearest 49 = .ok (.aload_n 0, 1) := by decide +kernel
theorem dX11_nearest_50 : decode cX11_nearest 50 = .ok (.getfield 79, 3) := by decide +kernel
theorem dX11_nearest_53 : decode cX11_nearest 53 = .ok (.getfield 204, 3) := by decide +kernel
theorem dX11_nearest_56 : decode cX11_nearest 56 = .ok (.ldc 211, 2) := by decide +kernel
theorem dX11_nearest_58 : decode cX11_nearest 58 = .ok (.iload_n 1, 1) := by decide +kernel
theorem dX11_nearest_59 : decode cX11_nearest 59 = .ok (.invokevirtual 207, 3) := by decide +kernel
theorem dX11_nearest_62 : decode cX11_nearest 62 = .ok (.ireturn, 1) := by decide +kernel
theorem jm_WM_nearest {l1 : Int} {h : xH} {r0 : Int} {h0 : xH}  (hf : f_WM_nearest l1 h = some (r0, h0)) : J mX11_nearest true 0 0 0 xKn (xen 0 [xR 1, xI l1]) [] h (xEq (some r0) h0) := by
  unfold f_WM_nearest at hf
  refine J_cong (ls2 := [(0, xR 1), (1, xI l1)]) (st2 := []) rfl rfl ?_
  refine J_aload_n 0 dX11_nearest_0 rfl rfl ?_
  refine J_getRl (j := 0) xcf11 dX11_nearest_1 kO1 (Or.inl xq435) (by decide) (by decide) rf_1_0 ?_
  refine J_aload_n 0 dX11_nearest_4 rfl rfl ?_
  refine J_getRl (j := 4) xcf11 dX11_nearest_5 kO1 (Or.inl xq439) (by decide) (by decide) rf_1_4 ?_
  obtain ⟨r1, h2, hq, hf⟩ := xc2_e hf
  refine J_cVi (Mc := mX7_takeRow) [xR 23] dX11_nearest_8 (fc_Tape_takeRow.fit ⟨xbl rfl, xbl rfl⟩) rfl ⟨Or.inr ⟨_, xq499⟩, xq501, xq1⟩ kO2 (ci := 7) rfl rfl (xbl rfl) (xbl rfl) (jm_Tape_takeRow kO23 hq) ?_
  refine J_istore_n (ls' := [(2, xI r1), (0, xR 1), (1, xI l1)]) dX11_nearest_11 rfl (by decide) rfl rfl ?_
  refine J_iload_n 0 dX11_nearest_12 rfl rfl ?_
  refine J_if_eq (tgt := 28) dX11_nearest_13 (by decide) (fun hc => ?_) (fun hc => ?_)
  · have hf := xip hc hf
    refine J_bip dX11_nearest_28 (by decide) ?_
    exact J_ireti dX11_nearest_30 rfl (xq_i hf)
  · have hf := xin' hc hf
    refine J_iload_n 2 dX11_nearest_16 rfl rfl ?_
    refine J_iconst dX11_nearest_17 (by decide) ?_
    refine J_ic_lt (tgt := 28) dX11_nearest_18 (by decide) (fun hc => ?_) (fun hc => ?_)
    · have hf := xip hc hf
      refine J_bip dX11_nearest_28 (by decide) ?_
      exact J_ireti dX11_nearest_30 rfl (xq_i hf)
    · have hf := xin' hc hf
      refine J_iload_n 2 dX11_nearest_21 rfl rfl ?_
      refine J_sip dX11_nearest_22 (by decide) ?_
      refine J_ic_le (tgt := 31) dX11_nearest_25 (by decide) (fun hc => ?_) (fun hc => ?_)
      · have hf := xip hc hf
        refine J_bip dX11_nearest_28 (by decide) ?_
        exact J_ireti dX11_nearest_30 rfl (xq_i hf)
      · have hf := xin' hc hf
        refine J_aload_n 1 dX11_nearest_31 rfl rfl ?_
        refine J_getRl (j := 12) xcf11 dX11_nearest_32 kO1 (Or.inl xq447) (by decide) (by decide) rf_1_12 ?_
        refine J_aload_n 1 dX11_nearest_35 rfl rfl ?_
        refine J_getRl (j := 4) xcf11 dX11_nearest_36 kO1 (Or.inl xq439) (by decide) (by decide) rf_1_4 ?_
        refine J_ldc (v := 1000000) dX11_nearest_39 xq803 (by decide) ?_
        refine J_iconst dX11_nearest_41 (by decide) ?_
        obtain ⟨h3, hq, hf⟩ := xc1_e hf
        refine J_cVv (Mc := mX9_go) [xR 23, xI 1000000, xI 0] dX11_nearest_42 (fc_Walk_go.fit ⟨xbl rfl, xbl rfl⟩) rfl ⟨Or.inr ⟨_, xq721⟩, xq723, xq38⟩ kO48 (ci := 9) rfl rfl (xbl rfl) (xbl rfl) (jm_Walk_go kO23 hq) ?_
        refine J_aload_n 1 dX11_nearest_45 rfl rfl ?_
        refine J_getRl (j := 13) xcf11 dX11_nearest_46 kO1 (Or.inl xq448) (by decide) (by decide) rf_1_13 ?_
        refine J_aload_n 1 dX11_nearest_49 rfl rfl ?_
        refine J_getRl (j := 12) xcf11 dX11_nearest_50 kO1 (Or.inl xq447) (by decide) (by decide) rf_1_12 ?_
        refine J_getRl (j := 7) xcf9 dX11_nearest_53 kO48 (Or.inr ⟨_, xq339⟩) (by decide) (by decide) rf_48_7 ?_
        refine J_ldc (v := 1000000) dX11_nearest_56 xq803 (by decide) ?_
        refine J_iload_n 2 dX11_nearest_58 rfl rfl ?_
        obtain ⟨r4, h5, hq, hf⟩ := xc2_e hf
        refine J_cVi (Mc := mX0_gather) [xR 60, xI 1000000, xI l1] dX11_nearest_59 (fc_Found_gather.fit ⟨xbl rfl, xbl rfl⟩) rfl ⟨Or.inr ⟨_, xq775⟩, xq777, xq48⟩ kO62 (ci := 0) rfl rfl (xbl rfl) (xbl rfl) (jm_Found_gather kO62 kO60 hq) ?_
        exact J_ireti dX11_nearest_62 rfl (xq_i hf)
theorem dX11_complete_0 : decode cX11_complete 0 = .ok (.aload_n 0, 1) := by decide +kernel
theorem dX11_complete_1 : decode cX11_complete 1 = .ok (.getfield 12, 3) := by decide +kernel
theorem dX11_complete_4 : decode cX11_complete 4 = .ok (.aload_n 0, 1) := by decide +kernel
theorem dX11_complete_5 : decode cX11_complete 5 = .ok (.getfield 37, 3) := by decide +kernel
theorem dX11_complete_8 : decode cX11_complete 8 = .ok (.invokevirtual 113, 3) := by decide +kernel
theorem dX11_complete_11 : decode cX11_complete 11 = .ok (.istore_n 2, 1) := by decide +kernel
theorem dX11_complete_12 : decode cX11_complete 12 = .ok (.iload_n 2, 1) := by decide +kernel
theorem dX11_complete_13 : decode cX11_complete 13 = .ok (.ifCond .eq 10, 3) := by decide +kernel
theorem dX11_complete_16 : decode cX11_complete 16 = .ok (.iload_n 1, 1) := by decide +kernel
theorem dX11_complete_17 : decode cX11_complete 17 = .ok (.invokestatic 196, 3) := by decide +kernel
theorem dX11_complete_20 : decode cX11_complete 20 = .ok (.ifCond .eq 6, 3) := by decide +kernel
theorem dX11_complete_23 : decode cX11_complete 23 = .ok (.bipush (-2), 2) := by decide +kernel
theorem dX11_complete_25 : decode cX11_complete 25 = .ok (.ireturn, 1) := by decide +kernel
theorem dX11_complete_26 : decode cX11_complete 26 = .ok (.aload_n 0, 1) := by decide +kernel
theorem dX11_complete_27 : decode cX11_complete 27 = .ok (.getfield 79, 3) := by decide +kernel
theorem dX11_complete_30 : decode cX11_complete 30 = .ok (.aload_n 0, 1) := by decide +kernel
theorem dX11_complete_31 : decode cX11_complete 31 = .ok (.getfield 37, 3) := by decide +kernel
theorem dX11_complete_34 : decode cX11_complete 34 = .ok (.iload_n 1, 1) := by decide +kernel
theorem dX11_complete_35 : decode cX11_complete 35 = .ok (.iconst 1, 1) := by decide +kernel
theorem dX11_complete_36 : decode cX11_complete 36 = .ok (.invokevirtual 200, 3) := by decide +kernel
theorem dX11_complete_39 : decode cX11_complete 39 = .ok (.aload_n 0, 1) := by decide +kernel
theorem dX11_complete_40 : decode cX11_complete 40 = .ok (.getfield 88, 3) := by decide +kernel
theorem dX11_complete_43 : decode cX11_complete 43 = .ok (.aload_n 0, 1) := by decide +kernel
theorem dX11_complete_44 : decode cX11_complete 44 = .ok (.getfield 79, 3) := by decide +kernel
theorem dX11_complete_47 : decode cX11_complete 47 = .ok (.getfield 212, 3) := by decide +kernel
theorem dX11_complete_50 : decode cX11_complete 50 = .ok (.iload_n 1, 1) := by decide +kernel
theorem dX11_complete_51 : decode cX11_complete 51 = .ok (.sipush 200, 3) := by decide +kernel
theorem dX11_complete_54 : decode cX11_complete 54 = .ok (.invokevirtual 207, 3) := by decide +kernel
theorem dX11_complete_57 : decode cX11_complete 57 = .ok (.ireturn, 1) := by decide +kernel
theorem jm_WM_complete {l1 : Int} {h : xH} {r0 : Int} {h0 : xH}  (hf : f_WM_complete l1 h = some (r0, h0)) : J mX11_complete true 0 0 0 xKn (xen 0 [xR 1, xI l1]) [] h (xEq (some r0) h0) := by
  unfold f_WM_complete at hf
  refine J_cong (ls2 := [(0, xR 1), (1, xI l1)]) (st2 := []) rfl rfl ?_
  refine J_aload_n 0 dX11_complete_0 rfl rfl ?_
  refine J_getRl (j := 0) xcf11 dX11_complete_1 kO1 (Or.inl xq435) (by decide) (by decide) rf_1_0 ?_
  refine J_aload_n 0 dX11_complete_4 rfl rfl ?_
  refine J_getRl (j := 4) xcf11 dX11_complete_5 kO1 (Or.inl xq439) (by decide) (by decide) rf_1_4 ?_
  obtain ⟨r1, h2, hq, hf⟩ := xc2_e hf
  refine J_cVi (Mc := mX7_takeRow) [xR 23] dX11_complete_8 (fc_Tape_takeRow.fit ⟨xbl rfl, xbl rfl⟩) rfl ⟨Or.inr ⟨_, xq499⟩, xq501, xq1⟩ kO2 (ci := 7) rfl rfl (xbl rfl) (xbl rfl) (jm_Tape_takeRow kO23 hq) ?_
  refine J_istore_n (ls' := [(2, xI r1), (0, xR 1), (1, xI l1)]) dX11_complete_11 rfl (by decide) rfl rfl ?_
  refine J_iload_n 0 dX11_complete_12 rfl rfl ?_
  refine J_if_eq (tgt := 23) dX11_complete_13 (by decide) (fun hc => ?_) (fun hc => ?_)
  · have hf := xip hc hf
    refine J_bip dX11_complete_23 (by decide) ?_
    exact J_ireti dX11_complete_25 rfl (xq_i hf)
  · have hf := xin' hc hf
    refine J_iload_n 2 dX11_complete_16 rfl rfl ?_
    obtain ⟨r3, hq, hf⟩ := xc1_e hf
    refine J_cSi (Mc := mX11_isNoBound) [xI l1] dX11_complete_17 (fc_WM_isNoBound.fit ⟨xbl rfl, xbl rfl⟩) rfl ⟨Or.inl xq717, xq718⟩ rfl (xbl rfl) (xbl rfl) (jm_WM_isNoBound  hq) ?_
    refine J_if_eq (tgt := 26) dX11_complete_20 (by decide) (fun hc => ?_) (fun hc => ?_)
    · have hf := xip hc hf
      refine J_aload_n 1 dX11_complete_26 rfl rfl ?_
      refine J_getRl (j := 12) xcf11 dX11_complete_27 kO1 (Or.inl xq447) (by decide) (by decide) rf_1_12 ?_
      refine J_aload_n 1 dX11_complete_30 rfl rfl ?_
      refine J_getRl (j := 4) xcf11 dX11_complete_31 kO1 (Or.inl xq439) (by decide) (by decide) rf_1_4 ?_
      refine J_iload_n 2 dX11_complete_34 rfl rfl ?_
      refine J_iconst dX11_complete_35 (by decide) ?_
      obtain ⟨h4, hq, hf⟩ := xc1_e hf
      refine J_cVv (Mc := mX9_go) [xR 23, xI l1, xI 1] dX11_complete_36 (fc_Walk_go.fit ⟨xbl rfl, xbl rfl⟩) rfl ⟨Or.inr ⟨_, xq721⟩, xq723, xq38⟩ kO48 (ci := 9) rfl rfl (xbl rfl) (xbl rfl) (jm_Walk_go kO23 hq) ?_
      refine J_aload_n 1 dX11_complete_39 rfl rfl ?_
      refine J_getRl (j := 13) xcf11 dX11_complete_40 kO1 (Or.inl xq448) (by decide) (by decide) rf_1_13 ?_
      refine J_aload_n 1 dX11_complete_43 rfl rfl ?_
      refine J_getRl (j := 12) xcf11 dX11_complete_44 kO1 (Or.inl xq447) (by decide) (by decide) rf_1_12 ?_
      refine J_getRl (j := 8) xcf9 dX11_complete_47 kO48 (Or.inr ⟨_, xq341⟩) (by decide) (by decide) rf_48_8 ?_
      refine J_iload_n 2 dX11_complete_50 rfl rfl ?_
      refine J_sip dX11_complete_51 (by decide) ?_
      obtain ⟨r5, h6, hq, hf⟩ := xc2_e hf
      refine J_cVi (Mc := mX0_gather) [xR 61, xI l1, xI 200] dX11_complete_54 (fc_Found_gather.fit ⟨xbl rfl, xbl rfl⟩) rfl ⟨Or.inr ⟨_, xq775⟩, xq777, xq48⟩ kO62 (ci := 0) rfl rfl (xbl rfl) (xbl rfl) (jm_Found_gather kO62 kO61 hq) ?_
      exact J_ireti dX11_complete_57 rfl (xq_i hf)
    · have hf := xin' hc hf
      refine J_bip dX11_complete_23 (by decide) ?_
      exact J_ireti dX11_complete_25 rfl (xq_i hf)
theorem dX0_tell_0 : decode cX0_tell 0 = .ok (.iload_n 1, 1) := by decide +kernel
theorem dX0_tell_1 : decode cX0_tell 1 = .ok (.ifCond .lt 20, 3) := by decide +kernel
theorem dX0_tell_4 : decode cX0_tell 4 = .ok (.iload_n 1, 1) := by decide +kernel
theorem dX0_tell_5 : decode cX0_tell 5 = .ok (.aload_n 0, 1) := by decide +kernel
theorem dX0_tell_6 : decode cX0_tell 6 = .ok (.getfield 25, 3) := by decide +kernel
theorem dX0_tell_9 : decode cX0_tell 9 = .ok (.if_icmp .ge 12, 3) := by decide +kernel
theorem dX0_tell_12 : decode cX0_tell 12 = .ok (.iload_n 1, 1) := by decide +kernel
theorem dX0_tell_13 : decode cX0_tell 13 = .ok (.aload_n 0, 1) := by decide +kernel
theorem dX0_tell_14 : decode cX0_tell 14 = .ok (.getfield 9, 3) := by decide +kernel
theorem dX0_tell_17 : decode cX0_tell 17 = .ok (.arraylength, 1) := by decide +kernel
theorem dX0_tell_18 : decode cX0_tell 18 = .ok (.if_icmp .lt 5, 3) := by decide +kernel
theorem dX0_tell_21 : decode cX0_tell 21 = .ok (.iconst (-1), 1) := by decide +kernel
theorem dX0_tell_22 : decode cX0_tell 22 = .ok (.ireturn, 1) := by decide +kernel
theorem dX0_tell_23 : decode cX0_tell 23 = .ok (.iload_n 2, 1) := by decide +kernel
theorem dX0_tell_24 : decode cX0_tell 24 = .ok (.ifCond .ne 10, 3) := by decide +kernel
theorem dX0_tell_27 : decode cX0_tell 27 = .ok (.aload_n 0, 1) := by decide +kernel
theorem dX0_tell_28 : decode cX0_tell 28 = .ok (.getfield 9, 3) := by decide +kernel
theorem dX0_tell_31 : decode cX0_tell 31 = .ok (.iload_n 1, 1) := by decide +kernel
theorem dX0_tell_32 : decode cX0_tell 32 = .ok (.iaload, 1) := by decide +kernel
theorem dX0_tell_33 : decode cX0_tell 33 = .ok (.ireturn, 1) := by decide +kernel
theorem dX0_tell_34 : decode cX0_tell 34 = .ok (.iload_n 2, 1) := by decide +kernel
theorem dX0_tell_35 : decode cX0_tell 35 = .ok (.iconst 1, 1) := by decide +kernel
theorem dX0_tell_36 : decode cX0_tell 36 = .ok (.if_icmp .ne 12, 3) := by decide +kernel
theorem dX0_tell_39 : decode cX0_tell 39 = .ok (.aload_n 0, 1) := by decide +kernel
theorem dX0_tell_40 : decode cX0_tell 40 = .ok (.getfield 15, 3) := by decide +kernel
theorem dX0_tell_43 : decode cX0_tell 43 = .ok (.iload_n 1, 1) := by decide +kernel
theorem dX0_tell_44 : decode cX0_tell 44 = .ok (.iaload, 1) := by decide +kernel
theorem dX0_tell_45 : decode cX0_tell 45 = .ok (.goto 9, 3) := by decide +kernel
theorem dX0_tell_48 : decode cX0_tell 48 = .ok (.aload_n 0, 1) := by decide +kernel
theorem dX0_tell_49 : decode cX0_tell 49 = .ok (.getfield 18, 3) := by decide +kernel
theorem dX0_tell_52 : decode cX0_tell 52 = .ok (.iload_n 1, 1) := by decide +kernel
theorem dX0_tell_53 : decode cX0_tell 53 = .ok (.iaload, 1) := by decide +kernel
theorem dX0_tell_54 : decode cX0_tell 54 = .ok (.ireturn, 1) := by decide +kernel
theorem jm_Found_tell {l0 : Int} {l1 : Int} {l2 : Int} {h : xH} {r0 : Int} (kl0 : xK l0 = 3 + 0) (hf : f_Found_tell l0 l1 l2 h = some r0) : J mX0_tell true 0 0 0 xKn (xen 0 [xR l0, xI l1, xI l2]) [] h (xEq (some r0) h) := by
  unfold f_Found_tell at hf
  refine J_cong (ls2 := [(0, xR l0), (1, xI l1), (2, xI l2)]) (st2 := []) rfl rfl ?_
  refine J_iload_n 1 dX0_tell_0 rfl rfl ?_
  refine J_if_lt (tgt := 21) dX0_tell_1 (by decide) (fun hc => ?_) (fun hc => ?_)
  · have hf := xip hc hf
    refine J_iconst dX0_tell_21 (by decide) ?_
    exact J_ireti dX0_tell_22 rfl (xq_p hf)
  · have hf := xin' hc hf
    refine J_iload_n 1 dX0_tell_4 rfl rfl ?_
    refine J_aload_n 0 dX0_tell_5 rfl rfl ?_
    refine J_getI (j := 4) xcf0 dX0_tell_6 (xK_rg kl0) kl0 (Or.inl xq371) (by decide) (by decide) ?_
    refine J_ic_ge (tgt := 21) dX0_tell_9 (by decide) (fun hc => ?_) (fun hc => ?_)
    · have hf := xip hc hf
      refine J_iload_n 1 dX0_tell_12 rfl rfl ?_
      refine J_aload_n 0 dX0_tell_13 rfl rfl ?_
      refine J_getRl (j := 1) xcf0 dX0_tell_14 kl0 (Or.inl xq368) (by decide) (by decide) (rfFound_1 kl0) ?_
      refine J_alen dX0_tell_17 (xK_r1 (kFound_1 kl0)) (Or.inl (kFound_1 kl0)) (by decide) (nFound_1 kl0) ?_
      refine J_ic_lt (tgt := 23) dX0_tell_18 (by decide) (fun hc => ?_) (fun hc => ?_)
      · have hf := xip hc hf
        refine J_iload_n 2 dX0_tell_23 rfl rfl ?_
        refine J_if_ne (tgt := 34) dX0_tell_24 (by decide) (fun hc => ?_) (fun hc => ?_)
        · have hf := xip hc hf
          refine J_aload_n 0 dX0_tell_27 rfl rfl ?_
          refine J_getRl (j := 1) xcf0 dX0_tell_28 kl0 (Or.inl xq368) (by decide) (by decide) (rfFound_1 kl0) ?_
          refine J_iload_n 1 dX0_tell_31 rfl rfl ?_
          obtain ⟨hg, hf⟩ := xgd_e hf
          refine J_iald dX0_tell_32 (xK_r1 (kFound_1 kl0)) (kFound_1 kl0) hg (nFound_1 kl0) ?_
          exact J_ireti dX0_tell_33 rfl (xq_p hf)
        · have hf := xin' hc hf
          refine J_iload_n 2 dX0_tell_34 rfl rfl ?_
          refine J_iconst dX0_tell_35 (by decide) ?_
          refine J_ic_ne (tgt := 48) dX0_tell_36 (by decide) (fun hc => ?_) (fun hc => ?_)
          · have hf := xip hc hf
            refine J_aload_n 0 dX0_tell_39 rfl rfl ?_
            refine J_getRl (j := 2) xcf0 dX0_tell_40 kl0 (Or.inl xq369) (by decide) (by decide) (rfFound_2 kl0) ?_
            refine J_iload_n 1 dX0_tell_43 rfl rfl ?_
            obtain ⟨hg, hf⟩ := xgd_e hf
            refine J_iald dX0_tell_44 (xK_r1 (kFound_2 kl0)) (kFound_2 kl0) hg (nFound_2 kl0) ?_
            refine J_goto (tgt := 54) dX0_tell_45 (by decide) ?_
            exact J_ireti dX0_tell_54 rfl (xq_p hf)
          · have hf := xin' hc hf
            refine J_aload_n 0 dX0_tell_48 rfl rfl ?_
            refine J_getRl (j := 3) xcf0 dX0_tell_49 kl0 (Or.inl xq370) (by decide) (by decide) (rfFound_3 kl0) ?_
            refine J_iload_n 1 dX0_tell_52 rfl rfl ?_
            obtain ⟨hg, hf⟩ := xgd_e hf
            refine J_iald dX0_tell_53 (xK_r1 (kFound_3 kl0)) (kFound_3 kl0) hg (nFound_3 kl0) ?_
            exact J_ireti dX0_tell_54 rfl (xq_p hf)
      · have hf := xin' hc hf
        refine J_iconst dX0_tell_21 (by decide) ?_
        exact J_ireti dX0_tell_22 rfl (xq_p hf)
    · have hf := xin' hc hf
      refine J_iconst dX0_tell_21 (by decide) ?_
      exact J_ireti dX0_tell_22 rfl (xq_p hf)
theorem dX11_found_0 : decode cX11_found 0 = .ok (.iload_n 2, 1) := by decide +kernel
theorem dX11_found_1 : decode cX11_found 1 = .ok (.ifCond .lt 8, 3) := by decide +kernel
theorem dX11_found_4 : decode cX11_found 4 = .ok (.iload_n 2, 1) := by decide +kernel
theorem dX11_found_5 : decode cX11_found 5 = .ok (.iconst 2, 1) := by decide +kernel
theorem dX11_found_6 : decode cX11_found 6 = .ok (.if_icmp .le 8, 3) := by decide +kernel
theorem dX11_found_9 : decode cX11_found 9 = .ok (.bipush (-2), 2) := by decide +kernel
theorem dX11_found_11 : decode cX11_found 11 = .ok (.goto 12, 3) := by decide +kernel
theorem dX11_found_14 : decode cX11_found 14 = .ok (.aload_n 0, 1) := by decide +kernel
theorem dX11_found_15 : decode cX11_found 15 = .ok (.getfield 88, 3) := by decide +kernel
theorem dX11_found_18 : decode cX11_found 18 = .ok (.iload_n 1, 1) := by decide +kernel
theorem dX11_found_19 : decode cX11_found 19 = .ok (.iload_n 2, 1) := by decide +kernel
theorem dX11_found_20 : decode cX11_found 20 = .ok (.invokevirtual 215, 3) := by decide +kernel
theorem dX11_found_23 : decode cX11_found 23 = .ok (.ireturn, 1) := by decide +kernel
theorem j_WM_found_9  {h : xH} {r0 : Int}  (hf : f_WM_found_9 h = some r0)  : J mX11_found true 0 0 9 xKn [] [] h (xEq (some r0) h) := by
  unfold f_WM_found_9 at hf
  refine J_bip dX11_found_9 (by decide) ?_
  refine J_goto (tgt := 23) dX11_found_11 (by decide) ?_
  exact J_ireti dX11_found_23 rfl (xq_p hf)
theorem jm_WM_found {l1 : Int} {l2 : Int} {h : xH} {r0 : Int}  (hf : f_WM_found l1 l2 h = some r0) : J mX11_found true 0 0 0 xKn (xen 0 [xR 1, xI l1, xI l2]) [] h (xEq (some r0) h) := by
  unfold f_WM_found at hf
  refine J_cong (ls2 := [(0, xR 1), (1, xI l1), (2, xI l2)]) (st2 := []) rfl rfl ?_
  refine J_iload_n 2 dX11_found_0 rfl rfl ?_
  refine J_if_lt (tgt := 9) dX11_found_1 (by decide) (fun hc => ?_) (fun hc => ?_)
  · have hf := xip hc hf
    refine J_sub [] rfl ?_
    exact j_WM_found_9  hf
  · have hf := xin' hc hf
    refine J_iload_n 2 dX11_found_4 rfl rfl ?_
    refine J_iconst dX11_found_5 (by decide) ?_
    refine J_ic_le (tgt := 14) dX11_found_6 (by decide) (fun hc => ?_) (fun hc => ?_)
    · have hf := xip hc hf
      refine J_sub [] rfl ?_
      exact j_WM_found_9  hf
    · have hf := xin' hc hf
      refine J_aload_n 0 dX11_found_14 rfl rfl ?_
      refine J_getRl (j := 13) xcf11 dX11_found_15 kO1 (Or.inl xq448) (by decide) (by decide) rf_1_13 ?_
      refine J_iload_n 1 dX11_found_18 rfl rfl ?_
      refine J_iload_n 2 dX11_found_19 rfl rfl ?_
      obtain ⟨r1, hq, hf⟩ := xc1_e hf
      refine J_cVi (Mc := mX0_tell) [xI l1, xI l2] dX11_found_20 (fc_Found_tell.fit ⟨xbl rfl, xbl rfl⟩) rfl ⟨Or.inr ⟨_, xq812⟩, xq814, xq53⟩ kO62 (ci := 0) rfl rfl (xbl rfl) (xbl rfl) (jm_Found_tell kO62 hq) ?_
      exact J_ireti dX11_found_23 rfl (xq_p hf)
theorem dX3_stateAt_0 : decode cX3_stateAt 0 = .ok (.iload_n 1, 1) := by decide +kernel
theorem dX3_stateAt_1 : decode cX3_stateAt 1 = .ok (.ifCond .lt 23, 3) := by decide +kernel
theorem dX3_stateAt_4 : decode cX3_stateAt 4 = .ok (.iload_n 1, 1) := by decide +kernel
theorem dX3_stateAt_5 : decode cX3_stateAt 5 = .ok (.aload_n 0, 1) := by decide +kernel
theorem dX3_stateAt_6 : decode cX3_stateAt 6 = .ok (.getfield 28, 3) := by decide +kernel
theorem dX3_stateAt_9 : decode cX3_stateAt 9 = .ok (.if_icmp .ge 15, 3) := by decide +kernel
theorem dX3_stateAt_12 : decode cX3_stateAt 12 = .ok (.iload_n 2, 1) := by decide +kernel
theorem dX3_stateAt_13 : decode cX3_stateAt 13 = .ok (.ifCond .lt 11, 3) := by decide +kernel
theorem dX3_stateAt_16 : decode cX3_stateAt 16 = .ok (.iload_n 2, 1) := by decide +kernel
theorem dX3_stateAt_17 : decode cX3_stateAt 17 = .ok (.aload_n 0, 1) := by decide +kernel
theorem dX3_stateAt_18 : decode cX3_stateAt 18 = .ok (.getfield 44, 3) := by decide +kernel
theorem dX3_stateAt_21 : decode cX3_stateAt 21 = .ok (.if_icmp .lt 5, 3) := by decide +kernel
theorem dX3_stateAt_24 : decode cX3_stateAt 24 = .ok (.iconst (-1), 1) := by decide +kernel
theorem dX3_stateAt_25 : decode cX3_stateAt 25 = .ok (.ireturn, 1) := by decide +kernel
theorem dX3_stateAt_26 : decode cX3_stateAt 26 = .ok (.iload_n 1, 1) := by decide +kernel
theorem dX3_stateAt_27 : decode cX3_stateAt 27 = .ok (.bipush 13, 2) := by decide +kernel
theorem dX3_stateAt_29 : decode cX3_stateAt 29 = .ok (.imul, 1) := by decide +kernel
theorem dX3_stateAt_30 : decode cX3_stateAt 30 = .ok (.iload_n 2, 1) := by decide +kernel
theorem dX3_stateAt_31 : decode cX3_stateAt 31 = .ok (.iadd, 1) := by decide +kernel
theorem dX3_stateAt_32 : decode cX3_stateAt 32 = .ok (.istore_n 3, 1) := by decide +kernel
theorem dX3_stateAt_33 : decode cX3_stateAt 33 = .ok (.iload_n 3, 1) := by decide +kernel
theorem dX3_stateAt_34 : decode cX3_stateAt 34 = .ok (.ifCond .lt 21, 3) := by decide +kernel
theorem dX3_stateAt_37 : decode cX3_stateAt 37 = .ok (.iload_n 3, 1) := by decide +kernel
theorem dX3_stateAt_38 : decode cX3_stateAt 38 = .ok (.aload_n 0, 1) := by decide +kernel
theorem dX3_stateAt_39 : decode cX3_stateAt 39 = .ok (.getfield 25, 3) := by decide +kernel
theorem dX3_stateAt_42 : decode cX3_stateAt 42 = .ok (.arraylength, 1) := by decide +kernel
theorem dX3_stateAt_43 : decode cX3_stateAt 43 = .ok (.if_icmp .ge 12, 3) := by decide +kernel
theorem dX3_stateAt_46 : decode cX3_stateAt 46 = .ok (.aload_n 0, 1) := by decide +kernel
theorem dX3_stateAt_47 : decode cX3_stateAt 47 = .ok (.getfield 25, 3) := by decide +kernel
theorem dX3_stateAt_50 : decode cX3_stateAt 50 = .ok (.iload_n 3, 1) := by decide +kernel
theorem dX3_stateAt_51 : decode cX3_stateAt 51 = .ok (.iaload, 1) := by decide +kernel
theorem dX3_stateAt_52 : decode cX3_stateAt 52 = .ok (.goto 4, 3) := by decide +kernel
theorem dX3_stateAt_55 : decode cX3_stateAt 55 = .ok (.iconst (-1), 1) := by decide +kernel
theorem dX3_stateAt_56 : decode cX3_stateAt 56 = .ok (.ireturn, 1) := by decide +kernel
theorem jm_Met_stateAt {l1 : Int} {l2 : Int} {h : xH} {r0 : Int}  (hf : f_Met_stateAt l1 l2 h = some r0) : J mX3_stateAt true 0 0 0 xKn (xen 0 [xR 49, xI l1, xI l2]) [] h (xEq (some r0) h) := by
  unfold f_Met_stateAt at hf
  refine J_cong (ls2 := [(0, xR 49), (1, xI l1), (2, xI l2)]) (st2 := []) rfl rfl ?_
  refine J_iload_n 1 dX3_stateAt_0 rfl rfl ?_
  refine J_if_lt (tgt := 24) dX3_stateAt_1 (by decide) (fun hc => ?_) (fun hc => ?_)
  · have hf := xip hc hf
    refine J_iconst dX3_stateAt_24 (by decide) ?_
    exact J_ireti dX3_stateAt_25 rfl (xq_p hf)
  · have hf := xin' hc hf
    refine J_iload_n 1 dX3_stateAt_4 rfl rfl ?_
    refine J_aload_n 0 dX3_stateAt_5 rfl rfl ?_
    refine J_getI (j := 5) xcf3 dX3_stateAt_6 (xK_rg kO49) kO49 (Or.inl xq304) (by decide) (by decide) ?_
    refine J_ic_ge (tgt := 24) dX3_stateAt_9 (by decide) (fun hc => ?_) (fun hc => ?_)
    · have hf := xip hc hf
      refine J_iload_n 2 dX3_stateAt_12 rfl rfl ?_
      refine J_if_lt (tgt := 24) dX3_stateAt_13 (by decide) (fun hc => ?_) (fun hc => ?_)
      · have hf := xip hc hf
        refine J_iconst dX3_stateAt_24 (by decide) ?_
        exact J_ireti dX3_stateAt_25 rfl (xq_p hf)
      · have hf := xin' hc hf
        refine J_iload_n 2 dX3_stateAt_16 rfl rfl ?_
        refine J_aload_n 0 dX3_stateAt_17 rfl rfl ?_
        refine J_getI (j := 7) xcf3 dX3_stateAt_18 (xK_rg kO49) kO49 (Or.inl xq308) (by decide) (by decide) ?_
        refine J_ic_lt (tgt := 26) dX3_stateAt_21 (by decide) (fun hc => ?_) (fun hc => ?_)
        · have hf := xip hc hf
          refine J_iload_n 1 dX3_stateAt_26 rfl rfl ?_
          refine J_bip dX3_stateAt_27 (by decide) ?_
          refine J_imul dX3_stateAt_29 ?_
          refine J_iload_n 2 dX3_stateAt_30 rfl rfl ?_
          refine J_iadd dX3_stateAt_31 ?_
          obtain ⟨x1, ex1, hf⟩ := xlet_e hf
          refine J_istore_n (ls' := [(3, xI x1), (0, xR 49), (1, xI l1), (2, xI l2)]) dX3_stateAt_32 rfl (by decide) ex1 rfl ?_
          refine J_iload_n 0 dX3_stateAt_33 rfl rfl ?_
          refine J_if_lt (tgt := 55) dX3_stateAt_34 (by decide) (fun hc => ?_) (fun hc => ?_)
          · have hf := xip hc hf
            refine J_iconst dX3_stateAt_55 (by decide) ?_
            exact J_ireti dX3_stateAt_56 rfl (xq_p hf)
          · have hf := xin' hc hf
            refine J_iload_n 0 dX3_stateAt_37 rfl rfl ?_
            refine J_aload_n 1 dX3_stateAt_38 rfl rfl ?_
            refine J_getRl (j := 4) xcf3 dX3_stateAt_39 kO49 (Or.inl xq303) (by decide) (by decide) rf_49_4 ?_
            refine J_alen dX3_stateAt_42 (xK_r1 kO54) (Or.inl kO54) (by decide) nA54 ?_
            refine J_ic_ge (tgt := 55) dX3_stateAt_43 (by decide) (fun hc => ?_) (fun hc => ?_)
            · have hf := xip hc hf
              refine J_aload_n 1 dX3_stateAt_46 rfl rfl ?_
              refine J_getRl (j := 4) xcf3 dX3_stateAt_47 kO49 (Or.inl xq303) (by decide) (by decide) rf_49_4 ?_
              refine J_iload_n 0 dX3_stateAt_50 rfl rfl ?_
              obtain ⟨hg, hf⟩ := xgd_e hf
              refine J_iald dX3_stateAt_51 (xK_r1 kO54) kO54 hg nA54 ?_
              refine J_goto (tgt := 56) dX3_stateAt_52 (by decide) ?_
              exact J_ireti dX3_stateAt_56 rfl (xq_p hf)
            · have hf := xin' hc hf
              refine J_iconst dX3_stateAt_55 (by decide) ?_
              exact J_ireti dX3_stateAt_56 rfl (xq_p hf)
        · have hf := xin' hc hf
          refine J_iconst dX3_stateAt_24 (by decide) ?_
          exact J_ireti dX3_stateAt_25 rfl (xq_p hf)
    · have hf := xin' hc hf
      refine J_iconst dX3_stateAt_24 (by decide) ?_
      exact J_ireti dX3_stateAt_25 rfl (xq_p hf)
theorem dX3_least_0 : decode cX3_least 0 = .ok (.ldc 60, 2) := by decide +kernel
theorem dX3_least_2 : decode cX3_least 2 = .ok (.istore_n 2, 1) := by decide +kernel
theorem dX3_least_3 : decode cX3_least 3 = .ok (.iconst 0, 1) := by decide +kernel
theorem dX3_least_4 : decode cX3_least 4 = .ok (.istore_n 3, 1) := by decide +kernel
theorem dX3_least_5 : decode cX3_least 5 = .ok (.iload_n 3, 1) := by decide +kernel
theorem dX3_least_6 : decode cX3_least 6 = .ok (.aload_n 0, 1) := by decide +kernel
theorem dX3_least_7 : decode cX3_least 7 = .ok (.getfield 44, 3) := by decide +kernel
theorem dX3_least_10 : decode cX3_least 10 = .ok (.if_icmp .ge 20, 3) := by decide +kernel
theorem dX3_least_13 : decode cX3_least 13 = .ok (.iload_n 2, 1) := by decide +kernel
theorem dX3_least_14 : decode cX3_least 14 = .ok (.aload_n 0, 1) := by decide +kernel
theorem dX3_least_15 : decode cX3_least 15 = .ok (.iload_n 1, 1) := by decide +kernel
theorem dX3_least_16 : decode cX3_least 16 = .ok (.iload_n 3, 1) := by decide +kernel
theorem dX3_least_17 : decode cX3_least 17 = .ok (.invokevirtual 57, 3) := by decide +kernel
theorem dX3_least_20 : decode cX3_least 20 = .ok (.invokestatic 35, 3) := by decide +kernel
theorem dX3_least_23 : decode cX3_least 23 = .ok (.istore_n 2, 1) := by decide +kernel
theorem dX3_least_24 : decode cX3_least 24 = .ok (.iinc 3 1, 3) := by decide +kernel
theorem dX3_least_27 : decode cX3_least 27 = .ok (.goto (-22), 3) := by decide +kernel
theorem dX3_least_30 : decode cX3_least 30 = .ok (.iload_n 2, 1) := by decide +kernel
theorem dX3_least_31 : decode cX3_least 31 = .ok (.ireturn, 1) := by decide +kernel
theorem j_Met_least_30 {l2 : Int} {h : xH} {r0 : Int}  (hf : f_Met_least_30 l2 h = some r0)  : J mX3_least true 0 0 30 xKn [(2, xI l2)] [] h (xEq (some r0) h) := by
  unfold f_Met_least_30 at hf
  refine J_iload_n 0 dX3_least_30 rfl rfl ?_
  exact J_ireti dX3_least_31 rfl (xq_p hf)
theorem j_Met_least_s5 {l1 : Int} {l2 : Int} {l3 : Int} {h : xH} {x : ((Int × Int) ⊕ Int)} {Q : xQ}  (hf : f_Met_least_s5 l1 l2 l3 h = some x) (kb : ∀ (l2' : Int) (l3' : Int), x = Sum.inl (l2', l3') → J mX3_least true 0 0 5 xKn [(0, xR 49), (1, xI l1), (2, xI l2'), (3, xI l3')] [] h Q) (ke : ∀ (l2' : Int), x = (Sum.inr l2') → J mX3_least true 0 0 30 xKn [(2, xI l2')] [] h Q) : J mX3_least true 0 0 5 xKn [(0, xR 49), (1, xI l1), (2, xI l2), (3, xI l3)] [] h Q := by
  unfold f_Met_least_s5 at hf
  refine J_iload_n 3 dX3_least_5 rfl rfl ?_
  refine J_aload_n 0 dX3_least_6 rfl rfl ?_
  refine J_getI (j := 7) xcf3 dX3_least_7 (xK_rg kO49) kO49 (Or.inl xq308) (by decide) (by decide) ?_
  refine J_ic_ge (tgt := 30) dX3_least_10 (by decide) (fun hc => ?_) (fun hc => ?_)
  · have hf := xip hc hf
    refine J_iload_n 2 dX3_least_13 rfl rfl ?_
    refine J_aload_n 0 dX3_least_14 rfl rfl ?_
    refine J_iload_n 1 dX3_least_15 rfl rfl ?_
    refine J_iload_n 3 dX3_least_16 rfl rfl ?_
    obtain ⟨r1, hq, hf⟩ := xc1_e hf
    refine J_cVi (Mc := mX3_stateAt) [xI l1, xI l3] dX3_least_17 (fc_Met_stateAt.fit ⟨xbl rfl, xbl rfl⟩) rfl ⟨Or.inl xq829, xq831, xq56⟩ kO49 (ci := 3) rfl rfl (xbl rfl) (xbl rfl) (jm_Met_stateAt  hq) ?_
    refine J_mmin dX3_least_20 ⟨xq729, xq542, xq129, xq543⟩ (xbl rfl) (xbl rfl) ?_
    obtain ⟨x2, ex2, hf⟩ := xlet_e hf
    refine J_istore_n (ls' := [(2, xI x2), (0, xR 49), (1, xI l1), (3, xI l3)]) dX3_least_23 rfl (by decide) ex2 rfl ?_
    obtain ⟨x3, ex3, hf⟩ := xlet_e hf
    refine J_iinc (ls' := [(3, xI x3), (2, xI x2), (0, xR 49), (1, xI l1)]) 3 dX3_least_24 rfl (by decide) ex3 rfl ?_
    refine J_goto (tgt := 5) dX3_least_27 (by decide) ?_
    refine J_sub [2, 3, 1, 0] rfl ?_
    exact kb _ _ (xinl hf)
  · have hf := xin' hc hf
    refine J_sub [2] rfl ?_
    exact ke _ (xinl hf)
theorem j_Met_least_5 {l1 : Int} {l2 : Int} {l3 : Int} {h : xH} {r0 : Int}  (hf : f_Met_least_5 l1 l2 l3 h = some r0)  : J mX3_least true 0 0 5 xKn [(0, xR 49), (1, xI l1), (2, xI l2), (3, xI l3)] [] h (xEq (some r0) h) := by
  unfold f_Met_least_5 at hf
  obtain ⟨b0, hb0, hf⟩ := xc1_e hf
  refine xloop_ind (P := fun s : (Int × Int) => J mX3_least true 0 0 5 xKn [(0, xR 49), (1, xI l1), (2, xI s.1), (3, xI s.2)] [] h (xEq (some r0) h)) hb0 (fun s x1 hs ib ie => ?_)
  exact j_Met_least_s5  hs (fun _ _ e => ib _ e) (fun _ e => by have := ie _ e; subst this; exact j_Met_least_30  hf)
theorem jm_Met_least {l1 : Int} {h : xH} {r0 : Int}  (hf : f_Met_least l1 h = some r0) : J mX3_least true 0 0 0 xKn (xen 0 [xR 49, xI l1]) [] h (xEq (some r0) h) := by
  unfold f_Met_least at hf
  refine J_cong (ls2 := [(0, xR 49), (1, xI l1)]) (st2 := []) rfl rfl ?_
  refine J_ldc (v := 1000000) dX3_least_0 xq828 (by decide) ?_
  refine J_istore_n (ls' := [(2, xI 1000000), (0, xR 49), (1, xI l1)]) dX3_least_2 rfl (by decide) rfl rfl ?_
  refine J_iconst dX3_least_3 (by decide) ?_
  refine J_istore_n (ls' := [(3, xI 0), (2, xI 1000000), (0, xR 49), (1, xI l1)]) dX3_least_4 rfl (by decide) rfl rfl ?_
  refine J_sub [2, 3, 1, 0] rfl ?_
  exact j_Met_least_5  hf
theorem dX3_tell_0 : decode cX3_tell 0 = .ok (.iload_n 1, 1) := by decide +kernel
theorem dX3_tell_1 : decode cX3_tell 1 = .ok (.ifCond .lt 18, 3) := by decide +kernel
theorem dX3_tell_4 : decode cX3_tell 4 = .ok (.iload_n 1, 1) := by decide +kernel
theorem dX3_tell_5 : decode cX3_tell 5 = .ok (.aload_n 0, 1) := by decide +kernel
theorem dX3_tell_6 : decode cX3_tell 6 = .ok (.getfield 28, 3) := by decide +kernel
theorem dX3_tell_9 : decode cX3_tell 9 = .ok (.if_icmp .ge 10, 3) := by decide +kernel
theorem dX3_tell_12 : decode cX3_tell 12 = .ok (.iload_n 1, 1) := by decide +kernel
theorem dX3_tell_13 : decode cX3_tell 13 = .ok (.sipush 2401, 3) := by decide +kernel
theorem dX3_tell_16 : decode cX3_tell 16 = .ok (.if_icmp .lt 5, 3) := by decide +kernel
theorem dX3_tell_19 : decode cX3_tell 19 = .ok (.iconst (-1), 1) := by decide +kernel
theorem dX3_tell_20 : decode cX3_tell 20 = .ok (.ireturn, 1) := by decide +kernel
theorem dX3_tell_21 : decode cX3_tell 21 = .ok (.iload_n 2, 1) := by decide +kernel
theorem dX3_tell_22 : decode cX3_tell 22 = .ok (.tableswitch 84 0 4 #[34, 41, 48, 54, 69], 34) := by decide +kernel
theorem dX3_tell_56 : decode cX3_tell 56 = .ok (.aload_n 0, 1) := by decide +kernel
theorem dX3_tell_57 : decode cX3_tell 57 = .ok (.getfield 9, 3) := by decide +kernel
theorem dX3_tell_60 : decode cX3_tell 60 = .ok (.iload_n 1, 1) := by decide +kernel
theorem dX3_tell_61 : decode cX3_tell 61 = .ok (.iaload, 1) := by decide +kernel
theorem dX3_tell_62 : decode cX3_tell 62 = .ok (.ireturn, 1) := by decide +kernel
theorem dX3_tell_63 : decode cX3_tell 63 = .ok (.aload_n 0, 1) := by decide +kernel
theorem dX3_tell_64 : decode cX3_tell 64 = .ok (.getfield 15, 3) := by decide +kernel
theorem dX3_tell_67 : decode cX3_tell 67 = .ok (.iload_n 1, 1) := by decide +kernel
theorem dX3_tell_68 : decode cX3_tell 68 = .ok (.iaload, 1) := by decide +kernel
theorem dX3_tell_69 : decode cX3_tell 69 = .ok (.ireturn, 1) := by decide +kernel
theorem dX3_tell_70 : decode cX3_tell 70 = .ok (.aload_n 0, 1) := by decide +kernel
theorem dX3_tell_71 : decode cX3_tell 71 = .ok (.iload_n 1, 1) := by decide +kernel
theorem dX3_tell_72 : decode cX3_tell 72 = .ok (.invokevirtual 53, 3) := by decide +kernel
theorem dX3_tell_75 : decode cX3_tell 75 = .ok (.ireturn, 1) := by decide +kernel
theorem dX3_tell_76 : decode cX3_tell 76 = .ok (.aload_n 0, 1) := by decide +kernel
theorem dX3_tell_77 : decode cX3_tell 77 = .ok (.getfield 22, 3) := by decide +kernel
theorem dX3_tell_80 : decode cX3_tell 80 = .ok (.iload_n 1, 1) := by decide +kernel
theorem dX3_tell_81 : decode cX3_tell 81 = .ok (.baload, 1) := by decide +kernel
theorem dX3_tell_82 : decode cX3_tell 82 = .ok (.ifCond .eq 7, 3) := by decide +kernel
theorem dX3_tell_85 : decode cX3_tell 85 = .ok (.iconst 1, 1) := by decide +kernel
theorem dX3_tell_86 : decode cX3_tell 86 = .ok (.goto 4, 3) := by decide +kernel
theorem dX3_tell_89 : decode cX3_tell 89 = .ok (.iconst 0, 1) := by decide +kernel
theorem dX3_tell_90 : decode cX3_tell 90 = .ok (.ireturn, 1) := by decide +kernel
theorem dX3_tell_91 : decode cX3_tell 91 = .ok (.aload_n 0, 1) := by decide +kernel
theorem dX3_tell_92 : decode cX3_tell 92 = .ok (.getfield 18, 3) := by decide +kernel
theorem dX3_tell_95 : decode cX3_tell 95 = .ok (.iload_n 1, 1) := by decide +kernel
theorem dX3_tell_96 : decode cX3_tell 96 = .ok (.baload, 1) := by decide +kernel
theorem dX3_tell_97 : decode cX3_tell 97 = .ok (.ifCond .eq 7, 3) := by decide +kernel
theorem dX3_tell_100 : decode cX3_tell 100 = .ok (.iconst 1, 1) := by decide +kernel
theorem dX3_tell_101 : decode cX3_tell 101 = .ok (.goto 4, 3) := by decide +kernel
theorem dX3_tell_104 : decode cX3_tell 104 = .ok (.iconst 0, 1) := by decide +kernel
theorem dX3_tell_105 : decode cX3_tell 105 = .ok (.ireturn, 1) := by decide +kernel
theorem dX3_tell_106 : decode cX3_tell 106 = .ok (.aload_n 0, 1) := by decide +kernel
theorem dX3_tell_107 : decode cX3_tell 107 = .ok (.iload_n 1, 1) := by decide +kernel
theorem dX3_tell_108 : decode cX3_tell 108 = .ok (.iload_n 2, 1) := by decide +kernel
theorem dX3_tell_109 : decode cX3_tell 109 = .ok (.iconst 5, 1) := by decide +kernel
theorem dX3_tell_110 : decode cX3_tell 110 = .ok (.isub, 1) := by decide +kernel
theorem dX3_tell_111 : decode cX3_tell 111 = .ok (.invokevirtual 57, 3) := by decide +kernel
theorem dX3_tell_114 : decode cX3_tell 114 = .ok (.ireturn, 1) := by decide +kernel
theorem jm_Met_tell {l1 : Int} {l2 : Int} {h : xH} {r0 : Int}  (hf : f_Met_tell l1 l2 h = some r0) : J mX3_tell true 0 0 0 xKn (xen 0 [xR 49, xI l1, xI l2]) [] h (xEq (some r0) h) := by
  unfold f_Met_tell at hf
  refine J_cong (ls2 := [(0, xR 49), (1, xI l1), (2, xI l2)]) (st2 := []) rfl rfl ?_
  refine J_iload_n 1 dX3_tell_0 rfl rfl ?_
  refine J_if_lt (tgt := 19) dX3_tell_1 (by decide) (fun hc => ?_) (fun hc => ?_)
  · have hf := xip hc hf
    refine J_iconst dX3_tell_19 (by decide) ?_
    exact J_ireti dX3_tell_20 rfl (xq_p hf)
  · have hf := xin' hc hf
    refine J_iload_n 1 dX3_tell_4 rfl rfl ?_
    refine J_aload_n 0 dX3_tell_5 rfl rfl ?_
    refine J_getI (j := 5) xcf3 dX3_tell_6 (xK_rg kO49) kO49 (Or.inl xq304) (by decide) (by decide) ?_
    refine J_ic_ge (tgt := 19) dX3_tell_9 (by decide) (fun hc => ?_) (fun hc => ?_)
    · have hf := xip hc hf
      refine J_iload_n 1 dX3_tell_12 rfl rfl ?_
      refine J_sip dX3_tell_13 (by decide) ?_
      refine J_ic_lt (tgt := 21) dX3_tell_16 (by decide) (fun hc => ?_) (fun hc => ?_)
      · have hf := xip hc hf
        refine J_iload_n 2 dX3_tell_21 rfl rfl ?_
        refine J_by (c := l2 = 0) (fun hc0 => ?_) (fun hc0 => ?_)
        · have hf := xip hc0 hf
          refine J_tswIn (tgt := 56) dX3_tell_22 0 hc0 (by decide) (by decide) rfl (by decide) ?_
          refine J_aload_n 0 dX3_tell_56 rfl rfl ?_
          refine J_getRl (j := 0) xcf3 dX3_tell_57 kO49 (Or.inl xq299) (by decide) (by decide) rf_49_0 ?_
          refine J_iload_n 1 dX3_tell_60 rfl rfl ?_
          obtain ⟨hg, hf⟩ := xgd_e hf
          refine J_iald dX3_tell_61 (xK_r1 kO50) kO50 hg nA50 ?_
          exact J_ireti dX3_tell_62 rfl (xq_p hf)
        · have hf := xin' hc0 hf
          refine J_by (c := l2 = 1) (fun hc1 => ?_) (fun hc1 => ?_)
          · have hf := xip hc1 hf
            refine J_tswIn (tgt := 63) dX3_tell_22 1 hc1 (by decide) (by decide) rfl (by decide) ?_
            refine J_aload_n 0 dX3_tell_63 rfl rfl ?_
            refine J_getRl (j := 1) xcf3 dX3_tell_64 kO49 (Or.inl xq300) (by decide) (by decide) rf_49_1 ?_
            refine J_iload_n 1 dX3_tell_67 rfl rfl ?_
            obtain ⟨hg, hf⟩ := xgd_e hf
            refine J_iald dX3_tell_68 (xK_r1 kO51) kO51 hg nA51 ?_
            exact J_ireti dX3_tell_69 rfl (xq_p hf)
          · have hf := xin' hc1 hf
            refine J_by (c := l2 = 2) (fun hc2 => ?_) (fun hc2 => ?_)
            · have hf := xip hc2 hf
              refine J_tswIn (tgt := 70) dX3_tell_22 2 hc2 (by decide) (by decide) rfl (by decide) ?_
              refine J_aload_n 0 dX3_tell_70 rfl rfl ?_
              refine J_iload_n 1 dX3_tell_71 rfl rfl ?_
              obtain ⟨r1, hq, hf⟩ := xc1_e hf
              refine J_cVi (Mc := mX3_least) [xI l1] dX3_tell_72 (fc_Met_least.fit ⟨xbl rfl, xbl rfl⟩) rfl ⟨Or.inl xq824, xq826, xq55⟩ kO49 (ci := 3) rfl rfl (xbl rfl) (xbl rfl) (jm_Met_least  hq) ?_
              exact J_ireti dX3_tell_75 rfl (xq_p hf)
            · have hf := xin' hc2 hf
              refine J_by (c := l2 = 3) (fun hc3 => ?_) (fun hc3 => ?_)
              · have hf := xip hc3 hf
                refine J_tswIn (tgt := 76) dX3_tell_22 3 hc3 (by decide) (by decide) rfl (by decide) ?_
                refine J_aload_n 0 dX3_tell_76 rfl rfl ?_
                refine J_getRl (j := 3) xcf3 dX3_tell_77 kO49 (Or.inl xq302) (by decide) (by decide) rf_49_3 ?_
                refine J_iload_n 1 dX3_tell_80 rfl rfl ?_
                obtain ⟨hg, hf⟩ := xgd_e hf
                refine J_bald dX3_tell_81 (xK_r2 kO53) kO53 hg nA53 ?_
                refine J_if_eq (tgt := 89) dX3_tell_82 (by decide) (fun hc => ?_) (fun hc => ?_)
                · have hf := xip hc hf
                  refine J_iconst dX3_tell_89 (by decide) ?_
                  exact J_ireti dX3_tell_90 rfl (xq_p hf)
                · have hf := xin' hc hf
                  refine J_iconst dX3_tell_85 (by decide) ?_
                  refine J_goto (tgt := 90) dX3_tell_86 (by decide) ?_
                  exact J_ireti dX3_tell_90 rfl (xq_p hf)
              · have hf := xin' hc3 hf
                refine J_by (c := l2 = 4) (fun hc4 => ?_) (fun hc4 => ?_)
                · have hf := xip hc4 hf
                  refine J_tswIn (tgt := 91) dX3_tell_22 4 hc4 (by decide) (by decide) rfl (by decide) ?_
                  refine J_aload_n 0 dX3_tell_91 rfl rfl ?_
                  refine J_getRl (j := 2) xcf3 dX3_tell_92 kO49 (Or.inl xq301) (by decide) (by decide) rf_49_2 ?_
                  refine J_iload_n 1 dX3_tell_95 rfl rfl ?_
                  obtain ⟨hg, hf⟩ := xgd_e hf
                  refine J_bald dX3_tell_96 (xK_r2 kO52) kO52 hg nA52 ?_
                  refine J_if_eq (tgt := 104) dX3_tell_97 (by decide) (fun hc => ?_) (fun hc => ?_)
                  · have hf := xip hc hf
                    refine J_iconst dX3_tell_104 (by decide) ?_
                    exact J_ireti dX3_tell_105 rfl (xq_p hf)
                  · have hf := xin' hc hf
                    refine J_iconst dX3_tell_100 (by decide) ?_
                    refine J_goto (tgt := 105) dX3_tell_101 (by decide) ?_
                    exact J_ireti dX3_tell_105 rfl (xq_p hf)
                · have hf := xin' hc4 hf
                  refine J_tswOut (tgt := 106) dX3_tell_22 (by omega) (by decide) ?_
                  refine J_aload_n 0 dX3_tell_106 rfl rfl ?_
                  refine J_iload_n 1 dX3_tell_107 rfl rfl ?_
                  refine J_iload_n 2 dX3_tell_108 rfl rfl ?_
                  refine J_iconst dX3_tell_109 (by decide) ?_
                  refine J_isub dX3_tell_110 ?_
                  obtain ⟨r2, hq, hf⟩ := xc1_e hf
                  refine J_cVi (Mc := mX3_stateAt) [xI l1, xI (w32 (l2 - 5))] dX3_tell_111 (fc_Met_stateAt.fit ⟨xbl rfl, xbl rfl⟩) rfl ⟨Or.inl xq829, xq831, xq56⟩ kO49 (ci := 3) rfl rfl (xbl rfl) (xbl rfl) (jm_Met_stateAt  hq) ?_
                  exact J_ireti dX3_tell_114 rfl (xq_p hf)
      · have hf := xin' hc hf
        refine J_iconst dX3_tell_19 (by decide) ?_
        exact J_ireti dX3_tell_20 rfl (xq_p hf)
    · have hf := xin' hc hf
      refine J_iconst dX3_tell_19 (by decide) ?_
      exact J_ireti dX3_tell_20 rfl (xq_p hf)
theorem dX11_node_0 : decode cX11_node 0 = .ok (.iload_n 2, 1) := by decide +kernel
theorem dX11_node_1 : decode cX11_node 1 = .ok (.ifCond .ge 8, 3) := by decide +kernel
theorem dX11_node_4 : decode cX11_node 4 = .ok (.bipush (-2), 2) := by decide +kernel
theorem dX11_node_6 : decode cX11_node 6 = .ok (.goto 15, 3) := by decide +kernel
theorem dX11_node_9 : decode cX11_node 9 = .ok (.aload_n 0, 1) := by decide +kernel
theorem dX11_node_10 : decode cX11_node 10 = .ok (.getfield 79, 3) := by decide +kernel
theorem dX11_node_13 : decode cX11_node 13 = .ok (.getfield 155, 3) := by decide +kernel
theorem dX11_node_16 : decode cX11_node 16 = .ok (.iload_n 1, 1) := by decide +kernel
theorem dX11_node_17 : decode cX11_node 17 = .ok (.iload_n 2, 1) := by decide +kernel
theorem dX11_node_18 : decode cX11_node 18 = .ok (.invokevirtual 216, 3) := by decide +kernel
theorem dX11_node_21 : decode cX11_node 21 = .ok (.ireturn, 1) := by decide +kernel
theorem jm_WM_node {l1 : Int} {l2 : Int} {h : xH} {r0 : Int}  (hf : f_WM_node l1 l2 h = some r0) : J mX11_node true 0 0 0 xKn (xen 0 [xR 1, xI l1, xI l2]) [] h (xEq (some r0) h) := by
  unfold f_WM_node at hf
  refine J_cong (ls2 := [(0, xR 1), (1, xI l1), (2, xI l2)]) (st2 := []) rfl rfl ?_
  refine J_iload_n 2 dX11_node_0 rfl rfl ?_
  refine J_if_ge (tgt := 9) dX11_node_1 (by decide) (fun hc => ?_) (fun hc => ?_)
  · have hf := xip hc hf
    refine J_bip dX11_node_4 (by decide) ?_
    refine J_goto (tgt := 21) dX11_node_6 (by decide) ?_
    exact J_ireti dX11_node_21 rfl (xq_p hf)
  · have hf := xin' hc hf
    refine J_aload_n 0 dX11_node_9 rfl rfl ?_
    refine J_getRl (j := 12) xcf11 dX11_node_10 kO1 (Or.inl xq447) (by decide) (by decide) rf_1_12 ?_
    refine J_getRl (j := 2) xcf9 dX11_node_13 kO48 (Or.inr ⟨_, xq333⟩) (by decide) (by decide) rf_48_2 ?_
    refine J_iload_n 1 dX11_node_16 rfl rfl ?_
    refine J_iload_n 2 dX11_node_17 rfl rfl ?_
    obtain ⟨r1, hq, hf⟩ := xc1_e hf
    refine J_cVi (Mc := mX3_tell) [xI l1, xI l2] dX11_node_18 (fc_Met_tell.fit ⟨xbl rfl, xbl rfl⟩) rfl ⟨Or.inr ⟨_, xq820⟩, xq822, xq54⟩ kO49 (ci := 3) rfl rfl (xbl rfl) (xbl rfl) (jm_Met_tell  hq) ?_
    exact J_ireti dX11_node_21 rfl (xq_p hf)
theorem dX11_pair_0 : decode cX11_pair 0 = .ok (.aload_n 0, 1) := by decide +kernel
theorem dX11_pair_1 : decode cX11_pair 1 = .ok (.getfield 12, 3) := by decide +kernel
theorem dX11_pair_4 : decode cX11_pair 4 = .ok (.bipush 12, 2) := by decide +kernel
theorem dX11_pair_6 : decode cX11_pair 6 = .ok (.aload_n 0, 1) := by decide +kernel
theorem dX11_pair_7 : decode cX11_pair 7 = .ok (.getfield 33, 3) := by decide +kernel
theorem dX11_pair_10 : decode cX11_pair 10 = .ok (.aload_n 0, 1) := by decide +kernel
theorem dX11_pair_11 : decode cX11_pair 11 = .ok (.getfield 37, 3) := by decide +kernel
theorem dX11_pair_14 : decode cX11_pair 14 = .ok (.invokevirtual 173, 3) := by decide +kernel
theorem dX11_pair_17 : decode cX11_pair 17 = .ok (.ifCond .ne 6, 3) := by decide +kernel
theorem dX11_pair_20 : decode cX11_pair 20 = .ok (.bipush (-2), 2) := by decide +kernel
theorem dX11_pair_22 : decode cX11_pair 22 = .ok (.ireturn, 1) := by decide +kernel
theorem dX11_pair_23 : decode cX11_pair 23 = .ok (.aload_n 0, 1) := by decide +kernel
theorem dX11_pair_24 : decode cX11_pair 24 = .ok (.getfield 61, 3) := by decide +kernel
theorem dX11_pair_27 : decode cX11_pair 27 = .ok (.invokevirtual 217, 3) := by decide +kernel
theorem dX11_pair_30 : decode cX11_pair 30 = .ok (.ifCond .ne 13, 3) := by decide +kernel
theorem dX11_pair_33 : decode cX11_pair 33 = .ok (.aload_n 0, 1) := by decide +kernel
theorem dX11_pair_34 : decode cX11_pair 34 = .ok (.getfield 64, 3) := by decide +kernel
theorem dX11_pair_37 : decode cX11_pair 37 = .ok (.invokevirtual 217, 3) := by decide +kernel
theorem dX11_pair_40 : decode cX11_pair 40 = .ok (.ifCond .eq 6, 3) := by decide +kernel
theorem dX11_pair_43 : decode cX11_pair 43 = .ok (.bipush (-4), 2) := by decide +kernel
theorem dX11_pair_45 : decode cX11_pair 45 = .ok (.ireturn, 1) := by decide +kernel
theorem dX11_pair_46 : decode cX11_pair 46 = .ok (.aload_n 0, 1) := by decide +kernel
theorem dX11_pair_47 : decode cX11_pair 47 = .ok (.getfield 61, 3) := by decide +kernel
theorem dX11_pair_50 : decode cX11_pair 50 = .ok (.aload_n 0, 1) := by decide +kernel
theorem dX11_pair_51 : decode cX11_pair 51 = .ok (.getfield 33, 3) := by decide +kernel
theorem dX11_pair_54 : decode cX11_pair 54 = .ok (.invokevirtual 221, 3) := by decide +kernel
theorem dX11_pair_57 : decode cX11_pair 57 = .ok (.aload_n 0, 1) := by decide +kernel
theorem dX11_pair_58 : decode cX11_pair 58 = .ok (.getfield 64, 3) := by decide +kernel
theorem dX11_pair_61 : decode cX11_pair 61 = .ok (.aload_n 0, 1) := by decide +kernel
theorem dX11_pair_62 : decode cX11_pair 62 = .ok (.getfield 37, 3) := by decide +kernel
theorem dX11_pair_65 : decode cX11_pair 65 = .ok (.invokevirtual 221, 3) := by decide +kernel
theorem dX11_pair_68 : decode cX11_pair 68 = .ok (.aload_n 0, 1) := by decide +kernel
theorem dX11_pair_69 : decode cX11_pair 69 = .ok (.getfield 61, 3) := by decide +kernel
theorem dX11_pair_72 : decode cX11_pair 72 = .ok (.getfield 132, 3) := by decide +kernel
theorem dX11_pair_75 : decode cX11_pair 75 = .ok (.iconst 1, 1) := by decide +kernel
theorem dX11_pair_76 : decode cX11_pair 76 = .ok (.isub, 1) := by decide +kernel
theorem dX11_pair_77 : decode cX11_pair 77 = .ok (.ireturn, 1) := by decide +kernel
theorem jm_WM_pair  {h : xH} {r0 : Int} {h0 : xH}  (hf : f_WM_pair h = some (r0, h0)) : J mX11_pair true 0 0 0 xKn (xen 0 [xR 1]) [] h (xEq (some r0) h0) := by
  unfold f_WM_pair at hf
  refine J_cong (ls2 := [(0, xR 1)]) (st2 := []) rfl rfl ?_
  refine J_aload_n 0 dX11_pair_0 rfl rfl ?_
  refine J_getRl (j := 0) xcf11 dX11_pair_1 kO1 (Or.inl xq435) (by decide) (by decide) rf_1_0 ?_
  refine J_bip dX11_pair_4 (by decide) ?_
  refine J_aload_n 0 dX11_pair_6 rfl rfl ?_
  refine J_getRl (j := 3) xcf11 dX11_pair_7 kO1 (Or.inl xq438) (by decide) (by decide) rf_1_3 ?_
  refine J_aload_n 0 dX11_pair_10 rfl rfl ?_
  refine J_getRl (j := 4) xcf11 dX11_pair_11 kO1 (Or.inl xq439) (by decide) (by decide) rf_1_4 ?_
  obtain ⟨r1, h2, hq, hf⟩ := xc2_e hf
  refine J_cVi (Mc := mX7_takeTwo) [xI 12, xR 21, xR 23] dX11_pair_14 (fc_Tape_takeTwo.fit ⟨xbl rfl, xbl rfl⟩) rfl ⟨Or.inr ⟨_, xq620⟩, xq622, xq21⟩ kO2 (ci := 7) rfl rfl (xbl rfl) (xbl rfl) (jm_Tape_takeTwo kO21 kO23 hq) ?_
  refine J_if_ne (tgt := 23) dX11_pair_17 (by decide) (fun hc => ?_) (fun hc => ?_)
  · have hf := xip hc hf
    refine J_bip dX11_pair_20 (by decide) ?_
    exact J_ireti dX11_pair_22 rfl (xq_i hf)
  · have hf := xin' hc hf
    refine J_aload_n 0 dX11_pair_23 rfl rfl ?_
    refine J_getRl (j := 8) xcf11 dX11_pair_24 kO1 (Or.inl xq443) (by decide) (by decide) rf_1_8 ?_
    obtain ⟨r3, hq, hf⟩ := xc1_e hf
    refine J_cVi (Mc := mX5_isFull) [] dX11_pair_27 (fc_Rows_isFull.fit ⟨xbl rfl, xbl rfl⟩) rfl ⟨Or.inr ⟨_, xq837⟩, xq546, xq11⟩ kO40 (ci := 5) rfl rfl (xbl rfl) (xbl rfl) (jm_Rows_isFull kO40 hq) ?_
    refine J_if_ne (tgt := 43) dX11_pair_30 (by decide) (fun hc => ?_) (fun hc => ?_)
    · have hf := xip hc hf
      refine J_aload_n 0 dX11_pair_33 rfl rfl ?_
      refine J_getRl (j := 9) xcf11 dX11_pair_34 kO1 (Or.inl xq444) (by decide) (by decide) rf_1_9 ?_
      obtain ⟨r4, hq, hf⟩ := xc1_e hf
      refine J_cVi (Mc := mX5_isFull) [] dX11_pair_37 (fc_Rows_isFull.fit ⟨xbl rfl, xbl rfl⟩) rfl ⟨Or.inr ⟨_, xq837⟩, xq546, xq11⟩ kO43 (ci := 5) rfl rfl (xbl rfl) (xbl rfl) (jm_Rows_isFull kO43 hq) ?_
      refine J_if_eq (tgt := 46) dX11_pair_40 (by decide) (fun hc => ?_) (fun hc => ?_)
      · have hf := xip hc hf
        refine J_aload_n 0 dX11_pair_46 rfl rfl ?_
        refine J_getRl (j := 8) xcf11 dX11_pair_47 kO1 (Or.inl xq443) (by decide) (by decide) rf_1_8 ?_
        refine J_aload_n 0 dX11_pair_50 rfl rfl ?_
        refine J_getRl (j := 3) xcf11 dX11_pair_51 kO1 (Or.inl xq438) (by decide) (by decide) rf_1_3 ?_
        obtain ⟨h5, hq, hf⟩ := xc1_e hf
        refine J_cVv (Mc := mX5_append) [xR 21] dX11_pair_54 (fc_Rows_append.fit ⟨xbl rfl, xbl rfl⟩) rfl ⟨Or.inr ⟨_, xq838⟩, xq635, xq24⟩ kO40 (ci := 5) rfl rfl (xbl rfl) (xbl rfl) (jm_Rows_append kO40 kO21 hq) ?_
        refine J_aload_n 0 dX11_pair_57 rfl rfl ?_
        refine J_getRl (j := 9) xcf11 dX11_pair_58 kO1 (Or.inl xq444) (by decide) (by decide) rf_1_9 ?_
        refine J_aload_n 0 dX11_pair_61 rfl rfl ?_
        refine J_getRl (j := 4) xcf11 dX11_pair_62 kO1 (Or.inl xq439) (by decide) (by decide) rf_1_4 ?_
        obtain ⟨h6, hq, hf⟩ := xc1_e hf
        refine J_cVv (Mc := mX5_append) [xR 23] dX11_pair_65 (fc_Rows_append.fit ⟨xbl rfl, xbl rfl⟩) rfl ⟨Or.inr ⟨_, xq838⟩, xq635, xq24⟩ kO43 (ci := 5) rfl rfl (xbl rfl) (xbl rfl) (jm_Rows_append kO43 kO23 hq) ?_
        refine J_aload_n 0 dX11_pair_68 rfl rfl ?_
        refine J_getRl (j := 8) xcf11 dX11_pair_69 kO1 (Or.inl xq443) (by decide) (by decide) rf_1_8 ?_
        refine J_getI (j := 2) xcf5 dX11_pair_72 (xK_rg kO40) kO40 (Or.inr ⟨_, xq185⟩) (by decide) (by decide) ?_
        refine J_iconst dX11_pair_75 (by decide) ?_
        refine J_isub dX11_pair_76 ?_
        exact J_ireti dX11_pair_77 rfl (xq_i hf)
      · have hf := xin' hc hf
        refine J_bip dX11_pair_43 (by decide) ?_
        exact J_ireti dX11_pair_45 rfl (xq_i hf)
    · have hf := xin' hc hf
      refine J_bip dX11_pair_43 (by decide) ?_
      exact J_ireti dX11_pair_45 rfl (xq_i hf)
theorem dJ7_fill_53178_0 : decode cJ7_fill_53178 0 = .ok (.iconst 0, 1) := by decide +kernel
theorem dJ7_fill_53178_1 : decode cJ7_fill_53178 1 = .ok (.istore_n 2, 1) := by decide +kernel
theorem dJ7_fill_53178_2 : decode cJ7_fill_53178 2 = .ok (.aload_n 0, 1) := by decide +kernel
theorem dJ7_fill_53178_3 : decode cJ7_fill_53178 3 = .ok (.arraylength, 1) := by decide +kernel
theorem dJ7_fill_53178_4 : decode cJ7_fill_53178 4 = .ok (.istore_n 3, 1) := by decide +kernel
theorem dJ7_fill_53178_5 : decode cJ7_fill_53178 5 = .ok (.iload_n 2, 1) := by decide +kernel
theorem dJ7_fill_53178_6 : decode cJ7_fill_53178 6 = .ok (.iload_n 3, 1) := by decide +kernel
theorem dJ7_fill_53178_7 : decode cJ7_fill_53178 7 = .ok (.if_icmp .ge 13, 3) := by decide +kernel
theorem dJ7_fill_53178_10 : decode cJ7_fill_53178 10 = .ok (.aload_n 0, 1) := by decide +kernel
theorem dJ7_fill_53178_11 : decode cJ7_fill_53178 11 = .ok (.iload_n 2, 1) := by decide +kernel
theorem dJ7_fill_53178_12 : decode cJ7_fill_53178 12 = .ok (.iload_n 1, 1) := by decide +kernel
theorem dJ7_fill_53178_13 : decode cJ7_fill_53178 13 = .ok (.iastore, 1) := by decide +kernel
theorem dJ7_fill_53178_14 : decode cJ7_fill_53178 14 = .ok (.iinc 2 1, 3) := by decide +kernel
theorem dJ7_fill_53178_17 : decode cJ7_fill_53178 17 = .ok (.goto (-12), 3) := by decide +kernel
theorem dJ7_fill_53178_20 : decode cJ7_fill_53178 20 = .ok (.return_, 1) := by decide +kernel
theorem j_Arr_fill_20  {h : xH} {h0 : xH}  (hf : f_Arr_fill_20 h = some h0)  : J mJ7_fill_53178 true 0 0 20 xKn [] [] h (xEq none h0) := by
  unfold f_Arr_fill_20 at hf
  exact J_rt dJ7_fill_53178_20 rfl (xq_v hf)
theorem j_Arr_fill_s5 {l0 : Int} {l1 : Int} {l2 : Int} {l3 : Int} {h : xH} {x : ((Int × xH) ⊕ xH)} {Q : xQ} (kl0 : xK l0 = 1) (hf : f_Arr_fill_s5 l0 l1 l2 l3 h = some x) (kb : ∀ (l2' : Int) (h' : xH), x = Sum.inl (l2', h') → J mJ7_fill_53178 true 0 0 5 xKn [(0, xR l0), (1, xI l1), (2, xI l2'), (3, xI l3)] [] h' Q) (ke : ∀  (h' : xH), x = (Sum.inr h') → J mJ7_fill_53178 true 0 0 20 xKn [] [] h' Q) : J mJ7_fill_53178 true 0 0 5 xKn [(0, xR l0), (1, xI l1), (2, xI l2), (3, xI l3)] [] h Q := by
  unfold f_Arr_fill_s5 at hf
  refine J_iload_n 2 dJ7_fill_53178_5 rfl rfl ?_
  refine J_iload_n 3 dJ7_fill_53178_6 rfl rfl ?_
  refine J_ic_ge (tgt := 20) dJ7_fill_53178_7 (by decide) (fun hc => ?_) (fun hc => ?_)
  · have hf := xip hc hf
    refine J_aload_n 0 dJ7_fill_53178_10 rfl rfl ?_
    refine J_iload_n 2 dJ7_fill_53178_11 rfl rfl ?_
    refine J_iload_n 1 dJ7_fill_53178_12 rfl rfl ?_
    obtain ⟨hg, hf⟩ := xgd_e hf
    obtain ⟨h1, eh1, hf⟩ := xlet_e hf
    refine J_iast dJ7_fill_53178_13 (xK_r1 kl0) kl0 hg rfl eh1 ?_
    obtain ⟨x2, ex2, hf⟩ := xlet_e hf
    refine J_iinc (ls' := [(2, xI x2), (0, xR l0), (1, xI l1), (3, xI l3)]) 2 dJ7_fill_53178_14 rfl (by decide) ex2 rfl ?_
    refine J_goto (tgt := 5) dJ7_fill_53178_17 (by decide) ?_
    refine J_sub [1, 2, 0, 3] rfl ?_
    exact kb _ _ (xinl hf)
  · have hf := xin' hc hf
    refine J_sub [] rfl ?_
    exact ke _ (xinl hf)
theorem j_Arr_fill_5 {l0 : Int} {l1 : Int} {l2 : Int} {l3 : Int} {h : xH} {h0 : xH} (kl0 : xK l0 = 1) (hf : f_Arr_fill_5 l0 l1 l2 l3 h = some h0)  : J mJ7_fill_53178 true 0 0 5 xKn [(0, xR l0), (1, xI l1), (2, xI l2), (3, xI l3)] [] h (xEq none h0) := by
  unfold f_Arr_fill_5 at hf
  obtain ⟨b0, hb0, hf⟩ := xc1_e hf
  refine xloop_ind (P := fun s : (Int × xH) => J mJ7_fill_53178 true 0 0 5 xKn [(0, xR l0), (1, xI l1), (2, xI s.1), (3, xI l3)] [] s.2 (xEq none h0)) hb0 (fun s x1 hs ib ie => ?_)
  exact j_Arr_fill_s5 kl0 hs (fun _ _ e => ib _ e) (fun _ e => by have := ie _ e; subst this; exact j_Arr_fill_20  hf)
theorem jm_Arr_fill {l0 : Int} {l1 : Int} {h : xH} {h0 : xH} (kl0 : xK l0 = 1) (hf : f_Arr_fill l0 l1 h = some h0) : J mJ7_fill_53178 true 0 0 0 xKn (xen 0 [xR l0, xI l1]) [] h (xEq none h0) := by
  unfold f_Arr_fill at hf
  refine J_cong (ls2 := [(0, xR l0), (1, xI l1)]) (st2 := []) rfl rfl ?_
  refine J_iconst dJ7_fill_53178_0 (by decide) ?_
  refine J_istore_n (ls' := [(2, xI 0), (0, xR l0), (1, xI l1)]) dJ7_fill_53178_1 rfl (by decide) rfl rfl ?_
  refine J_aload_n 1 dJ7_fill_53178_2 rfl rfl ?_
  refine J_alen dJ7_fill_53178_3 (xK_r1 kl0) (Or.inl kl0) (xNok l0) rfl ?_
  obtain ⟨x1, ex1, hf⟩ := xlet_e hf
  refine J_istore_n (ls' := [(3, xI x1), (2, xI 0), (0, xR l0), (1, xI l1)]) dJ7_fill_53178_4 rfl (by decide) ex1 rfl ?_
  refine J_sub [2, 3, 1, 0] rfl ?_
  exact j_Arr_fill_5 kl0 hf
theorem dX11_readPair_0 : decode cX11_readPair 0 = .ok (.aload_n 0, 1) := by decide +kernel
theorem dX11_readPair_1 : decode cX11_readPair 1 = .ok (.getfield 61, 3) := by decide +kernel
theorem dX11_readPair_4 : decode cX11_readPair 4 = .ok (.iload_n 1, 1) := by decide +kernel
theorem dX11_readPair_5 : decode cX11_readPair 5 = .ok (.aload_n 0, 1) := by decide +kernel
theorem dX11_readPair_6 : decode cX11_readPair 6 = .ok (.getfield 33, 3) := by decide +kernel
theorem dX11_readPair_9 : decode cX11_readPair 9 = .ok (.invokevirtual 247, 3) := by decide +kernel
theorem dX11_readPair_12 : decode cX11_readPair 12 = .ok (.aload_n 0, 1) := by decide +kernel
theorem dX11_readPair_13 : decode cX11_readPair 13 = .ok (.getfield 64, 3) := by decide +kernel
theorem dX11_readPair_16 : decode cX11_readPair 16 = .ok (.iload_n 1, 1) := by decide +kernel
theorem dX11_readPair_17 : decode cX11_readPair 17 = .ok (.aload_n 0, 1) := by decide +kernel
theorem dX11_readPair_18 : decode cX11_readPair 18 = .ok (.getfield 37, 3) := by decide +kernel
theorem dX11_readPair_21 : decode cX11_readPair 21 = .ok (.invokevirtual 247, 3) := by decide +kernel
theorem dX11_readPair_24 : decode cX11_readPair 24 = .ok (.return_, 1) := by decide +kernel
theorem jm_WM_readPair {l1 : Int} {h : xH} {h0 : xH}  (hf : f_WM_readPair l1 h = some h0) : J mX11_readPair true 0 0 0 xKn (xen 0 [xR 1, xI l1]) [] h (xEq none h0) := by
  unfold f_WM_readPair at hf
  refine J_cong (ls2 := [(0, xR 1), (1, xI l1)]) (st2 := []) rfl rfl ?_
  refine J_aload_n 0 dX11_readPair_0 rfl rfl ?_
  refine J_getRl (j := 8) xcf11 dX11_readPair_1 kO1 (Or.inl xq443) (by decide) (by decide) rf_1_8 ?_
  refine J_iload_n 1 dX11_readPair_4 rfl rfl ?_
  refine J_aload_n 0 dX11_readPair_5 rfl rfl ?_
  refine J_getRl (j := 3) xcf11 dX11_readPair_6 kO1 (Or.inl xq438) (by decide) (by decide) rf_1_3 ?_
  obtain ⟨h1, hq, hf⟩ := xc1_e hf
  refine J_cVv (Mc := mX5_copyTo) [xI l1, xR 21] dX11_readPair_9 (fc_Rows_copyTo.fit ⟨xbl rfl, xbl rfl⟩) rfl ⟨Or.inr ⟨_, xq854⟩, xq733, xq40⟩ kO40 (ci := 5) rfl rfl (xbl rfl) (xbl rfl) (jm_Rows_copyTo kO40 kO21 hq) ?_
  refine J_aload_n 0 dX11_readPair_12 rfl rfl ?_
  refine J_getRl (j := 9) xcf11 dX11_readPair_13 kO1 (Or.inl xq444) (by decide) (by decide) rf_1_9 ?_
  refine J_iload_n 1 dX11_readPair_16 rfl rfl ?_
  refine J_aload_n 0 dX11_readPair_17 rfl rfl ?_
  refine J_getRl (j := 4) xcf11 dX11_readPair_18 kO1 (Or.inl xq439) (by decide) (by decide) rf_1_4 ?_
  obtain ⟨h2, hq, hf⟩ := xc1_e hf
  refine J_cVv (Mc := mX5_copyTo) [xI l1, xR 23] dX11_readPair_21 (fc_Rows_copyTo.fit ⟨xbl rfl, xbl rfl⟩) rfl ⟨Or.inr ⟨_, xq854⟩, xq733, xq40⟩ kO43 (ci := 5) rfl rfl (xbl rfl) (xbl rfl) (jm_Rows_copyTo kO43 kO23 hq) ?_
  exact J_rt dX11_readPair_24 rfl (xq_v hf)
