/-! the machine follows the functions -/
theorem dX7_append_0 : decode cX7_append 0 = .ok (.iload_n 1, 1) := by decide +kernel
theorem dX7_append_1 : decode cX7_append 1 = .ok (.iconst 1, 1) := by decide +kernel
theorem dX7_append_2 : decode cX7_append 2 = .ok (.if_icmp .lt 9, 3) := by decide +kernel
theorem dX7_append_5 : decode cX7_append 5 = .ok (.iload_n 1, 1) := by decide +kernel
theorem dX7_append_6 : decode cX7_append 6 = .ok (.bipush 8, 2) := by decide +kernel
theorem dX7_append_8 : decode cX7_append 8 = .ok (.if_icmp .le 6, 3) := by decide +kernel
theorem dX7_append_11 : decode cX7_append 11 = .ok (.bipush (-2), 2) := by decide +kernel
theorem dX7_append_13 : decode cX7_append 13 = .ok (.ireturn, 1) := by decide +kernel
theorem dX7_append_14 : decode cX7_append 14 = .ok (.aload_n 0, 1) := by decide +kernel
theorem dX7_append_15 : decode cX7_append 15 = .ok (.getfield 15, 3) := by decide +kernel
theorem dX7_append_18 : decode cX7_append 18 = .ok (.ifCond .lt 17, 3) := by decide +kernel
theorem dX7_append_21 : decode cX7_append 21 = .ok (.aload_n 0, 1) := by decide +kernel
theorem dX7_append_22 : decode cX7_append 22 = .ok (.getfield 15, 3) := by decide +kernel
theorem dX7_append_25 : decode cX7_append 25 = .ok (.iload_n 1, 1) := by decide +kernel
theorem dX7_append_26 : decode cX7_append 26 = .ok (.iadd, 1) := by decide +kernel
theorem dX7_append_27 : decode cX7_append 27 = .ok (.aload_n 0, 1) := by decide +kernel
theorem dX7_append_28 : decode cX7_append 28 = .ok (.getfield 9, 3) := by decide +kernel
theorem dX7_append_31 : decode cX7_append 31 = .ok (.arraylength, 1) := by decide +kernel
theorem dX7_append_32 : decode cX7_append 32 = .ok (.if_icmp .le 6, 3) := by decide +kernel
theorem dX7_append_35 : decode cX7_append 35 = .ok (.bipush (-4), 2) := by decide +kernel
theorem dX7_append_37 : decode cX7_append 37 = .ok (.ireturn, 1) := by decide +kernel
theorem dX7_append_38 : decode cX7_append 38 = .ok (.iconst 0, 1) := by decide +kernel
theorem dX7_append_39 : decode cX7_append 39 = .ok (.istore 4, 2) := by decide +kernel
theorem dX7_append_41 : decode cX7_append 41 = .ok (.iload 4, 2) := by decide +kernel
theorem dX7_append_43 : decode cX7_append 43 = .ok (.iload_n 1, 1) := by decide +kernel
theorem dX7_append_44 : decode cX7_append 44 = .ok (.if_icmp .ge 33, 3) := by decide +kernel
theorem dX7_append_47 : decode cX7_append 47 = .ok (.aload_n 0, 1) := by decide +kernel
theorem dX7_append_48 : decode cX7_append 48 = .ok (.getfield 9, 3) := by decide +kernel
theorem dX7_append_51 : decode cX7_append 51 = .ok (.aload_n 0, 1) := by decide +kernel
theorem dX7_append_52 : decode cX7_append 52 = .ok (.getfield 15, 3) := by decide +kernel
theorem dX7_append_55 : decode cX7_append 55 = .ok (.iload 4, 2) := by decide +kernel
theorem dX7_append_57 : decode cX7_append 57 = .ok (.iadd, 1) := by decide +kernel
theorem dX7_append_58 : decode cX7_append 58 = .ok (.lload_n 2, 1) := by decide +kernel
theorem dX7_append_59 : decode cX7_append 59 = .ok (.bipush 8, 2) := by decide +kernel
theorem dX7_append_61 : decode cX7_append 61 = .ok (.iload 4, 2) := by decide +kernel
theorem dX7_append_63 : decode cX7_append 63 = .ok (.imul, 1) := by decide +kernel
theorem dX7_append_64 : decode cX7_append 64 = .ok (.lushr, 1) := by decide +kernel
theorem dX7_append_65 : decode cX7_append 65 = .ok (.l2i, 1) := by decide +kernel
theorem dX7_append_66 : decode cX7_append 66 = .ok (.sipush 255, 3) := by decide +kernel
theorem dX7_append_69 : decode cX7_append 69 = .ok (.iand, 1) := by decide +kernel
theorem dX7_append_70 : decode cX7_append 70 = .ok (.iastore, 1) := by decide +kernel
theorem dX7_append_71 : decode cX7_append 71 = .ok (.iinc 4 1, 3) := by decide +kernel
theorem dX7_append_74 : decode cX7_append 74 = .ok (.goto (-33), 3) := by decide +kernel
theorem dX7_append_77 : decode cX7_append 77 = .ok (.aload_n 0, 1) := by decide +kernel
theorem dX7_append_78 : decode cX7_append 78 = .ok (.dup, 1) := by decide +kernel
theorem dX7_append_79 : decode cX7_append 79 = .ok (.getfield 15, 3) := by decide +kernel
theorem dX7_append_82 : decode cX7_append 82 = .ok (.iload_n 1, 1) := by decide +kernel
theorem dX7_append_83 : decode cX7_append 83 = .ok (.iadd, 1) := by decide +kernel
theorem dX7_append_84 : decode cX7_append 84 = .ok (.putfield 15, 3) := by decide +kernel
theorem dX7_append_87 : decode cX7_append 87 = .ok (.aload_n 0, 1) := by decide +kernel
theorem dX7_append_88 : decode cX7_append 88 = .ok (.getfield 15, 3) := by decide +kernel
theorem dX7_append_91 : decode cX7_append 91 = .ok (.ireturn, 1) := by decide +kernel
theorem j_Tape_append_77 {l1 : Int} {h : xH} {r0 : Int} {h0 : xH}  (hf : f_Tape_append_77 l1 h = some (r0, h0))  : J mX7_append true 0 0 77 xKn [(0, xR 2), (1, xI l1)] [] h (xEq (some r0) h0) := by
  unfold f_Tape_append_77 at hf
  refine J_aload_n 0 dX7_append_77 rfl rfl ?_
  refine J_dup dX7_append_78 rfl ?_
  refine J_getI (j := 1) xcf7 dX7_append_79 (xK_rg kO2) kO2 (Or.inl xq156) (by decide) (by decide) ?_
  refine J_iload_n 1 dX7_append_82 rfl rfl ?_
  refine J_iadd dX7_append_83 ?_
  obtain ⟨h1, eh1, hf⟩ := xlet_e hf
  refine J_putI (j := 1) xcf7 dX7_append_84 (xK_rg kO2) kO2 (Or.inl xq156) (by decide) (by decide) eh1 ?_
  refine J_aload_n 0 dX7_append_87 rfl rfl ?_
  refine J_getI (j := 1) xcf7 dX7_append_88 (xK_rg kO2) kO2 (Or.inl xq156) (by decide) (by decide) ?_
  exact J_ireti dX7_append_91 rfl (xq_i hf)
theorem j_Tape_append_s41 {l1 : Int} {l2 : Int64} {l4 : Int} {h : xH} {x : ((Int × xH) ⊕ xH)} {Q : xQ}  (hf : f_Tape_append_s41 l1 l2 l4 h = some x) (kb : ∀ (l4' : Int) (h' : xH), x = Sum.inl (l4', h') → J mX7_append true 0 0 41 xKn [(0, xR 2), (1, xI l1), (2, xL l2), (4, xI l4')] [] h' Q) (ke : ∀  (h' : xH), x = (Sum.inr h') → J mX7_append true 0 0 77 xKn [(0, xR 2), (1, xI l1)] [] h' Q) : J mX7_append true 0 0 41 xKn [(0, xR 2), (1, xI l1), (2, xL l2), (4, xI l4)] [] h Q := by
  unfold f_Tape_append_s41 at hf
  refine J_iload 3 dX7_append_41 rfl ?_
  refine J_iload_n 1 dX7_append_43 rfl rfl ?_
  refine J_ic_ge (tgt := 77) dX7_append_44 (by decide) (fun hc => ?_) (fun hc => ?_)
  · have hf := xip hc hf
    refine J_aload_n 0 dX7_append_47 rfl rfl ?_
    refine J_getRl (j := 0) xcf7 dX7_append_48 kO2 (Or.inl xq155) (by decide) (by decide) rf_2_0 ?_
    refine J_aload_n 0 dX7_append_51 rfl rfl ?_
    refine J_getI (j := 1) xcf7 dX7_append_52 (xK_rg kO2) kO2 (Or.inl xq156) (by decide) (by decide) ?_
    refine J_iload 3 dX7_append_55 rfl ?_
    refine J_iadd dX7_append_57 ?_
    refine J_lload_n 2 dX7_append_58 rfl rfl ?_
    refine J_bip dX7_append_59 (by decide) ?_
    refine J_iload 3 dX7_append_61 rfl ?_
    refine J_imul dX7_append_63 ?_
    refine J_lushr dX7_append_64 ?_
    refine J_l2i dX7_append_65 ?_
    refine J_sip dX7_append_66 (by decide) ?_
    refine J_iand dX7_append_69 ?_
    obtain ⟨hg, hf⟩ := xgd_e hf
    obtain ⟨h1, eh1, hf⟩ := xlet_e hf
    refine J_iast dX7_append_70 (xK_r1 kO3) kO3 hg nA3 eh1 ?_
    obtain ⟨x2, ex2, hf⟩ := xlet_e hf
    refine J_iinc (ls' := [(4, xI x2), (0, xR 2), (1, xI l1), (2, xL l2)]) 3 dX7_append_71 rfl (by decide) ex2 rfl ?_
    refine J_goto (tgt := 41) dX7_append_74 (by decide) ?_
    refine J_sub [1, 2, 3, 0] rfl ?_
    exact kb _ _ (xinl hf)
  · have hf := xin' hc hf
    refine J_sub [0, 1] rfl ?_
    exact ke _ (xinl hf)
theorem j_Tape_append_41 {l1 : Int} {l2 : Int64} {l4 : Int} {h : xH} {r0 : Int} {h0 : xH}  (hf : f_Tape_append_41 l1 l2 l4 h = some (r0, h0))  : J mX7_append true 0 0 41 xKn [(0, xR 2), (1, xI l1), (2, xL l2), (4, xI l4)] [] h (xEq (some r0) h0) := by
  unfold f_Tape_append_41 at hf
  obtain ⟨b0, hb0, hf⟩ := xc1_e hf
  refine xloop_ind (P := fun s : (Int × xH) => J mX7_append true 0 0 41 xKn [(0, xR 2), (1, xI l1), (2, xL l2), (4, xI s.1)] [] s.2 (xEq (some r0) h0)) hb0 (fun s x1 hs ib ie => ?_)
  exact j_Tape_append_s41  hs (fun _ _ e => ib _ e) (fun _ e => by have := ie _ e; subst this; exact j_Tape_append_77  hf)
theorem jm_Tape_append {l1 : Int} {l2 : Int64} {h : xH} {r0 : Int} {h0 : xH}  (hf : f_Tape_append l1 l2 h = some (r0, h0)) : J mX7_append true 0 0 0 xKn (xen 0 [xR 2, xI l1, xL l2]) [] h (xEq (some r0) h0) := by
  unfold f_Tape_append at hf
  refine J_cong (ls2 := [(0, xR 2), (1, xI l1), (2, xL l2)]) (st2 := []) rfl rfl ?_
  refine J_iload_n 1 dX7_append_0 rfl rfl ?_
  refine J_iconst dX7_append_1 (by decide) ?_
  refine J_ic_lt (tgt := 11) dX7_append_2 (by decide) (fun hc => ?_) (fun hc => ?_)
  · have hf := xip hc hf
    refine J_bip dX7_append_11 (by decide) ?_
    exact J_ireti dX7_append_13 rfl (xq_i hf)
  · have hf := xin' hc hf
    refine J_iload_n 1 dX7_append_5 rfl rfl ?_
    refine J_bip dX7_append_6 (by decide) ?_
    refine J_ic_le (tgt := 14) dX7_append_8 (by decide) (fun hc => ?_) (fun hc => ?_)
    · have hf := xip hc hf
      refine J_bip dX7_append_11 (by decide) ?_
      exact J_ireti dX7_append_13 rfl (xq_i hf)
    · have hf := xin' hc hf
      refine J_aload_n 0 dX7_append_14 rfl rfl ?_
      refine J_getI (j := 1) xcf7 dX7_append_15 (xK_rg kO2) kO2 (Or.inl xq156) (by decide) (by decide) ?_
      refine J_if_lt (tgt := 35) dX7_append_18 (by decide) (fun hc => ?_) (fun hc => ?_)
      · have hf := xip hc hf
        refine J_bip dX7_append_35 (by decide) ?_
        exact J_ireti dX7_append_37 rfl (xq_i hf)
      · have hf := xin' hc hf
        refine J_aload_n 0 dX7_append_21 rfl rfl ?_
        refine J_getI (j := 1) xcf7 dX7_append_22 (xK_rg kO2) kO2 (Or.inl xq156) (by decide) (by decide) ?_
        refine J_iload_n 1 dX7_append_25 rfl rfl ?_
        refine J_iadd dX7_append_26 ?_
        refine J_aload_n 0 dX7_append_27 rfl rfl ?_
        refine J_getRl (j := 0) xcf7 dX7_append_28 kO2 (Or.inl xq155) (by decide) (by decide) rf_2_0 ?_
        refine J_alen dX7_append_31 (xK_r1 kO3) (Or.inl kO3) (by decide) nA3 ?_
        refine J_ic_le (tgt := 38) dX7_append_32 (by decide) (fun hc => ?_) (fun hc => ?_)
        · have hf := xip hc hf
          refine J_bip dX7_append_35 (by decide) ?_
          exact J_ireti dX7_append_37 rfl (xq_i hf)
        · have hf := xin' hc hf
          refine J_iconst dX7_append_38 (by decide) ?_
          refine J_istore (ls' := [(4, xI 0), (0, xR 2), (1, xI l1), (2, xL l2)]) dX7_append_39 (by decide) rfl rfl ?_
          refine J_sub [1, 2, 3, 0] rfl ?_
          exact j_Tape_append_41  hf
theorem dX11_feed_0 : decode cX11_feed 0 = .ok (.aload_n 0, 1) := by decide +kernel
theorem dX11_feed_1 : decode cX11_feed 1 = .ok (.getfield 12, 3) := by decide +kernel
theorem dX11_feed_4 : decode cX11_feed 4 = .ok (.iload_n 1, 1) := by decide +kernel
theorem dX11_feed_5 : decode cX11_feed 5 = .ok (.lload_n 2, 1) := by decide +kernel
theorem dX11_feed_6 : decode cX11_feed 6 = .ok (.invokevirtual 109, 3) := by decide +kernel
theorem dX11_feed_9 : decode cX11_feed 9 = .ok (.ireturn, 1) := by decide +kernel
theorem jm_WM_feed {l1 : Int} {l2 : Int64} {h : xH} {r0 : Int} {h0 : xH}  (hf : f_WM_feed l1 l2 h = some (r0, h0)) : J mX11_feed true 0 0 0 xKn (xen 0 [xR 1, xI l1, xL l2]) [] h (xEq (some r0) h0) := by
  unfold f_WM_feed at hf
  refine J_cong (ls2 := [(0, xR 1), (1, xI l1), (2, xL l2)]) (st2 := []) rfl rfl ?_
  refine J_aload_n 0 dX11_feed_0 rfl rfl ?_
  refine J_getRl (j := 0) xcf11 dX11_feed_1 kO1 (Or.inl xq435) (by decide) (by decide) rf_1_0 ?_
  refine J_iload_n 1 dX11_feed_4 rfl rfl ?_
  refine J_lload_n 2 dX11_feed_5 rfl rfl ?_
  obtain ⟨r1, h2, hq, hf⟩ := xc2_e hf
  refine J_cVi (Mc := mX7_append) [xI l1, xL l2] dX11_feed_6 (fc_Tape_append.fit ⟨xbl rfl, xbl rfl⟩) rfl ⟨Or.inr ⟨_, xq491⟩, xq493, xq0⟩ kO2 (ci := 7) rfl rfl (xbl rfl) (xbl rfl) (jm_Tape_append  hq) ?_
  exact J_ireti dX11_feed_9 rfl (xq_i hf)
theorem dX4_clear_0 : decode cX4_clear 0 = .ok (.aload_n 0, 1) := by decide +kernel
theorem dX4_clear_1 : decode cX4_clear 1 = .ok (.iconst 0, 1) := by decide +kernel
theorem dX4_clear_2 : decode cX4_clear 2 = .ok (.putfield 15, 3) := by decide +kernel
theorem dX4_clear_5 : decode cX4_clear 5 = .ok (.return_, 1) := by decide +kernel
theorem jm_Row_clear {l0 : Int} {h : xH} {h0 : xH} (kl0 : xK l0 = 3 + 4) (hf : f_Row_clear l0 h = some h0) : J mX4_clear true 0 0 0 xKn (xen 0 [xR l0]) [] h (xEq none h0) := by
  unfold f_Row_clear at hf
  refine J_cong (ls2 := [(0, xR l0)]) (st2 := []) rfl rfl ?_
  refine J_aload_n 0 dX4_clear_0 rfl rfl ?_
  refine J_iconst dX4_clear_1 (by decide) ?_
  obtain ⟨h1, eh1, hf⟩ := xlet_e hf
  refine J_putI (j := 1) xcf4 dX4_clear_2 (xK_rg kl0) kl0 (Or.inl xq248) (by decide) (by decide) eh1 ?_
  exact J_rt dX4_clear_5 rfl (xq_v hf)
theorem dX4_append_0 : decode cX4_append 0 = .ok (.aload_n 0, 1) := by decide +kernel
theorem dX4_append_1 : decode cX4_append 1 = .ok (.getfield 15, 3) := by decide +kernel
theorem dX4_append_4 : decode cX4_append 4 = .ok (.ifCond .lt 15, 3) := by decide +kernel
theorem dX4_append_7 : decode cX4_append 7 = .ok (.aload_n 0, 1) := by decide +kernel
theorem dX4_append_8 : decode cX4_append 8 = .ok (.getfield 15, 3) := by decide +kernel
theorem dX4_append_11 : decode cX4_append 11 = .ok (.aload_n 0, 1) := by decide +kernel
theorem dX4_append_12 : decode cX4_append 12 = .ok (.getfield 9, 3) := by decide +kernel
theorem dX4_append_15 : decode cX4_append 15 = .ok (.arraylength, 1) := by decide +kernel
theorem dX4_append_16 : decode cX4_append 16 = .ok (.if_icmp .lt 5, 3) := by decide +kernel
theorem dX4_append_19 : decode cX4_append 19 = .ok (.iconst 0, 1) := by decide +kernel
theorem dX4_append_20 : decode cX4_append 20 = .ok (.ireturn, 1) := by decide +kernel
theorem dX4_append_21 : decode cX4_append 21 = .ok (.aload_n 0, 1) := by decide +kernel
theorem dX4_append_22 : decode cX4_append 22 = .ok (.getfield 9, 3) := by decide +kernel
theorem dX4_append_25 : decode cX4_append 25 = .ok (.aload_n 0, 1) := by decide +kernel
theorem dX4_append_26 : decode cX4_append 26 = .ok (.getfield 15, 3) := by decide +kernel
theorem dX4_append_29 : decode cX4_append 29 = .ok (.iload_n 1, 1) := by decide +kernel
theorem dX4_append_30 : decode cX4_append 30 = .ok (.iastore, 1) := by decide +kernel
theorem dX4_append_31 : decode cX4_append 31 = .ok (.aload_n 0, 1) := by decide +kernel
theorem dX4_append_32 : decode cX4_append 32 = .ok (.dup, 1) := by decide +kernel
theorem dX4_append_33 : decode cX4_append 33 = .ok (.getfield 15, 3) := by decide +kernel
theorem dX4_append_36 : decode cX4_append 36 = .ok (.iconst 1, 1) := by decide +kernel
theorem dX4_append_37 : decode cX4_append 37 = .ok (.iadd, 1) := by decide +kernel
theorem dX4_append_38 : decode cX4_append 38 = .ok (.putfield 15, 3) := by decide +kernel
theorem dX4_append_41 : decode cX4_append 41 = .ok (.iconst 1, 1) := by decide +kernel
theorem dX4_append_42 : decode cX4_append 42 = .ok (.ireturn, 1) := by decide +kernel
theorem jm_Row_append {l0 : Int} {l1 : Int} {h : xH} {r0 : Int} {h0 : xH} (kl0 : xK l0 = 3 + 4) (hf : f_Row_append l0 l1 h = some (r0, h0)) : J mX4_append true 0 0 0 xKn (xen 0 [xR l0, xI l1]) [] h (xEq (some r0) h0) := by
  unfold f_Row_append at hf
  refine J_cong (ls2 := [(0, xR l0), (1, xI l1)]) (st2 := []) rfl rfl ?_
  refine J_aload_n 0 dX4_append_0 rfl rfl ?_
  refine J_getI (j := 1) xcf4 dX4_append_1 (xK_rg kl0) kl0 (Or.inl xq248) (by decide) (by decide) ?_
  refine J_if_lt (tgt := 19) dX4_append_4 (by decide) (fun hc => ?_) (fun hc => ?_)
  · have hf := xip hc hf
    refine J_iconst dX4_append_19 (by decide) ?_
    exact J_iretz dX4_append_20 rfl (by decide) (xq_i hf)
  · have hf := xin' hc hf
    refine J_aload_n 0 dX4_append_7 rfl rfl ?_
    refine J_getI (j := 1) xcf4 dX4_append_8 (xK_rg kl0) kl0 (Or.inl xq248) (by decide) (by decide) ?_
    refine J_aload_n 0 dX4_append_11 rfl rfl ?_
    refine J_getRl (j := 0) xcf4 dX4_append_12 kl0 (Or.inl xq245) (by decide) (by decide) (rfRow_0 kl0) ?_
    refine J_alen dX4_append_15 (xK_r1 (kRow_0 kl0)) (Or.inl (kRow_0 kl0)) (by decide) (nRow_0 kl0) ?_
    refine J_ic_lt (tgt := 21) dX4_append_16 (by decide) (fun hc => ?_) (fun hc => ?_)
    · have hf := xip hc hf
      refine J_aload_n 0 dX4_append_21 rfl rfl ?_
      refine J_getRl (j := 0) xcf4 dX4_append_22 kl0 (Or.inl xq245) (by decide) (by decide) (rfRow_0 kl0) ?_
      refine J_aload_n 0 dX4_append_25 rfl rfl ?_
      refine J_getI (j := 1) xcf4 dX4_append_26 (xK_rg kl0) kl0 (Or.inl xq248) (by decide) (by decide) ?_
      refine J_iload_n 1 dX4_append_29 rfl rfl ?_
      obtain ⟨hg, hf⟩ := xgd_e hf
      obtain ⟨h1, eh1, hf⟩ := xlet_e hf
      refine J_iast dX4_append_30 (xK_r1 (kRow_0 kl0)) (kRow_0 kl0) hg (nRow_0 kl0) eh1 ?_
      refine J_aload_n 0 dX4_append_31 rfl rfl ?_
      refine J_dup dX4_append_32 rfl ?_
      refine J_getI (j := 1) xcf4 dX4_append_33 (xK_rg kl0) kl0 (Or.inl xq248) (by decide) (by decide) ?_
      refine J_iconst dX4_append_36 (by decide) ?_
      refine J_iadd dX4_append_37 ?_
      obtain ⟨h2, eh2, hf⟩ := xlet_e hf
      refine J_putI (j := 1) xcf4 dX4_append_38 (xK_rg kl0) kl0 (Or.inl xq248) (by decide) (by decide) eh2 ?_
      refine J_iconst dX4_append_41 (by decide) ?_
      exact J_iretz dX4_append_42 rfl (by decide) (xq_i hf)
    · have hf := xin' hc hf
      refine J_iconst dX4_append_19 (by decide) ?_
      exact J_iretz dX4_append_20 rfl (by decide) (xq_i hf)
theorem dX7_read_0 : decode cX7_read 0 = .ok (.aload 4, 2) := by decide +kernel
theorem dX7_read_2 : decode cX7_read 2 = .ok (.invokevirtual 36, 3) := by decide +kernel
theorem dX7_read_5 : decode cX7_read 5 = .ok (.iload_n 1, 1) := by decide +kernel
theorem dX7_read_6 : decode cX7_read 6 = .ok (.ifCond .lt 26, 3) := by decide +kernel
theorem dX7_read_9 : decode cX7_read 9 = .ok (.iload_n 2, 1) := by decide +kernel
theorem dX7_read_10 : decode cX7_read 10 = .ok (.aload_n 0, 1) := by decide +kernel
theorem dX7_read_11 : decode cX7_read 11 = .ok (.getfield 9, 3) := by decide +kernel
theorem dX7_read_14 : decode cX7_read 14 = .ok (.arraylength, 1) := by decide +kernel
theorem dX7_read_15 : decode cX7_read 15 = .ok (.if_icmp .gt 17, 3) := by decide +kernel
theorem dX7_read_18 : decode cX7_read 18 = .ok (.iload_n 2, 1) := by decide +kernel
theorem dX7_read_19 : decode cX7_read 19 = .ok (.iload_n 1, 1) := by decide +kernel
theorem dX7_read_20 : decode cX7_read 20 = .ok (.isub, 1) := by decide +kernel
theorem dX7_read_21 : decode cX7_read 21 = .ok (.iconst 1, 1) := by decide +kernel
theorem dX7_read_22 : decode cX7_read 22 = .ok (.if_icmp .lt 10, 3) := by decide +kernel
theorem dX7_read_25 : decode cX7_read 25 = .ok (.iload_n 2, 1) := by decide +kernel
theorem dX7_read_26 : decode cX7_read 26 = .ok (.iload_n 1, 1) := by decide +kernel
theorem dX7_read_27 : decode cX7_read 27 = .ok (.isub, 1) := by decide +kernel
theorem dX7_read_28 : decode cX7_read 28 = .ok (.iload_n 3, 1) := by decide +kernel
theorem dX7_read_29 : decode cX7_read 29 = .ok (.if_icmp .le 5, 3) := by decide +kernel
theorem dX7_read_32 : decode cX7_read 32 = .ok (.iconst 0, 1) := by decide +kernel
theorem dX7_read_33 : decode cX7_read 33 = .ok (.ireturn, 1) := by decide +kernel
theorem dX7_read_34 : decode cX7_read 34 = .ok (.iload_n 1, 1) := by decide +kernel
theorem dX7_read_35 : decode cX7_read 35 = .ok (.istore 5, 2) := by decide +kernel
theorem dX7_read_37 : decode cX7_read 37 = .ok (.iload 5, 2) := by decide +kernel
theorem dX7_read_39 : decode cX7_read 39 = .ok (.iload_n 2, 1) := by decide +kernel
theorem dX7_read_40 : decode cX7_read 40 = .ok (.if_icmp .ge 45, 3) := by decide +kernel
theorem dX7_read_43 : decode cX7_read 43 = .ok (.aload_n 0, 1) := by decide +kernel
theorem dX7_read_44 : decode cX7_read 44 = .ok (.getfield 9, 3) := by decide +kernel
theorem dX7_read_47 : decode cX7_read 47 = .ok (.iload 5, 2) := by decide +kernel
theorem dX7_read_49 : decode cX7_read 49 = .ok (.iaload, 1) := by decide +kernel
theorem dX7_read_50 : decode cX7_read 50 = .ok (.bipush 97, 2) := by decide +kernel
theorem dX7_read_52 : decode cX7_read 52 = .ok (.isub, 1) := by decide +kernel
theorem dX7_read_53 : decode cX7_read 53 = .ok (.istore 6, 2) := by decide +kernel
theorem dX7_read_55 : decode cX7_read 55 = .ok (.iload 6, 2) := by decide +kernel
theorem dX7_read_57 : decode cX7_read 57 = .ok (.ifCond .lt 20, 3) := by decide +kernel
theorem dX7_read_60 : decode cX7_read 60 = .ok (.iload 6, 2) := by decide +kernel
theorem dX7_read_62 : decode cX7_read 62 = .ok (.bipush 26, 2) := by decide +kernel
theorem dX7_read_64 : decode cX7_read 64 = .ok (.if_icmp .ge 13, 3) := by decide +kernel
theorem dX7_read_67 : decode cX7_read 67 = .ok (.aload 4, 2) := by decide +kernel
theorem dX7_read_69 : decode cX7_read 69 = .ok (.iload 6, 2) := by decide +kernel
theorem dX7_read_71 : decode cX7_read 71 = .ok (.invokevirtual 39, 3) := by decide +kernel
theorem dX7_read_74 : decode cX7_read 74 = .ok (.ifCond .ne 5, 3) := by decide +kernel
theorem dX7_read_77 : decode cX7_read 77 = .ok (.iconst 0, 1) := by decide +kernel
theorem dX7_read_78 : decode cX7_read 78 = .ok (.ireturn, 1) := by decide +kernel
theorem dX7_read_79 : decode cX7_read 79 = .ok (.iinc 5 1, 3) := by decide +kernel
theorem dX7_read_82 : decode cX7_read 82 = .ok (.goto (-45), 3) := by decide +kernel
theorem dX7_read_85 : decode cX7_read 85 = .ok (.iconst 1, 1) := by decide +kernel
theorem dX7_read_86 : decode cX7_read 86 = .ok (.ireturn, 1) := by decide +kernel
theorem j_Tape_read_85  {h : xH} {r0 : Int} {h0 : xH}  (hf : f_Tape_read_85 h = some (r0, h0))  : J mX7_read true 0 0 85 xKn [] [] h (xEq (some r0) h0) := by
  unfold f_Tape_read_85 at hf
  refine J_iconst dX7_read_85 (by decide) ?_
  exact J_iretz dX7_read_86 rfl (by decide) (xq_i hf)
theorem j_Tape_read_s37 {l2 : Int} {l4 : Int} {l5 : Int} {h : xH} {x : ((Int × xH) ⊕ (xH ⊕ (Int × xH)))} {Q : xQ} (kl4 : xK l4 = 3 + 4) (hf : f_Tape_read_s37 l2 l4 l5 h = some x) (kb : ∀ (l5' : Int) (h' : xH), x = Sum.inl (l5', h') → J mX7_read true 0 0 37 xKn [(0, xR 2), (2, xI l2), (4, xR l4), (5, xI l5')] [] h' Q) (ke : ∀  (h' : xH), x = (Sum.inr (Sum.inl h')) → J mX7_read true 0 0 85 xKn [] [] h' Q) (kr : ∀ (v : Int) (h' : xH), x = (Sum.inr (Sum.inr (v, h'))) → Q (some v) xKn h') : J mX7_read true 0 0 37 xKn [(0, xR 2), (2, xI l2), (4, xR l4), (5, xI l5)] [] h Q := by
  unfold f_Tape_read_s37 at hf
  refine J_iload 3 dX7_read_37 rfl ?_
  refine J_iload_n 1 dX7_read_39 rfl rfl ?_
  refine J_ic_ge (tgt := 85) dX7_read_40 (by decide) (fun hc => ?_) (fun hc => ?_)
  · have hf := xip hc hf
    refine J_aload_n 0 dX7_read_43 rfl rfl ?_
    refine J_getRl (j := 0) xcf7 dX7_read_44 kO2 (Or.inl xq155) (by decide) (by decide) rf_2_0 ?_
    refine J_iload 3 dX7_read_47 rfl ?_
    obtain ⟨hg, hf⟩ := xgd_e hf
    refine J_iald dX7_read_49 (xK_r1 kO3) kO3 hg nA3 ?_
    refine J_bip dX7_read_50 (by decide) ?_
    refine J_isub dX7_read_52 ?_
    obtain ⟨x1, ex1, hf⟩ := xlet_e hf
    refine J_istore (ls' := [(6, xI x1), (0, xR 2), (2, xI l2), (4, xR l4), (5, xI l5)]) dX7_read_53 (by decide) ex1 rfl ?_
    refine J_iload 0 dX7_read_55 rfl ?_
    refine J_if_lt (tgt := 77) dX7_read_57 (by decide) (fun hc => ?_) (fun hc => ?_)
    · have hf := xip hc hf
      refine J_iconst dX7_read_77 (by decide) ?_
      exact J_iretz dX7_read_78 rfl (by decide) (kr _ _ (xinl hf))
    · have hf := xin' hc hf
      refine J_iload 0 dX7_read_60 rfl ?_
      refine J_bip dX7_read_62 (by decide) ?_
      refine J_ic_ge (tgt := 77) dX7_read_64 (by decide) (fun hc => ?_) (fun hc => ?_)
      · have hf := xip hc hf
        refine J_aload 3 dX7_read_67 rfl ?_
        refine J_iload 0 dX7_read_69 rfl ?_
        obtain ⟨r2, h3, hq, hf⟩ := xc2_e hf
        refine J_cVi (Mc := mX4_append) [xI x1] dX7_read_71 (fc_Row_append.fit ⟨xbl rfl, xbl rfl⟩) rfl ⟨Or.inr ⟨_, xq511⟩, xq513, xq4⟩ kl4 (ci := 4) rfl rfl (xbl rfl) (xbl rfl) (jm_Row_append kl4 hq) ?_
        refine J_if_ne (tgt := 79) dX7_read_74 (by decide) (fun hc => ?_) (fun hc => ?_)
        · have hf := xip hc hf
          refine J_iconst dX7_read_77 (by decide) ?_
          exact J_iretz dX7_read_78 rfl (by decide) (kr _ _ (xinl hf))
        · have hf := xin' hc hf
          obtain ⟨x4, ex4, hf⟩ := xlet_e hf
          refine J_iinc (ls' := [(5, xI x4), (6, xI x1), (0, xR 2), (2, xI l2), (4, xR l4)]) 4 dX7_read_79 rfl (by decide) ex4 rfl ?_
          refine J_goto (tgt := 37) dX7_read_82 (by decide) ?_
          refine J_sub [2, 3, 4, 0] rfl ?_
          exact kb _ _ (xinl hf)
      · have hf := xin' hc hf
        refine J_iconst dX7_read_77 (by decide) ?_
        exact J_iretz dX7_read_78 rfl (by decide) (kr _ _ (xinl hf))
  · have hf := xin' hc hf
    refine J_sub [] rfl ?_
    exact ke _ (xinl hf)
theorem j_Tape_read_37 {l2 : Int} {l4 : Int} {l5 : Int} {h : xH} {r0 : Int} {h0 : xH} (kl4 : xK l4 = 3 + 4) (hf : f_Tape_read_37 l2 l4 l5 h = some (r0, h0))  : J mX7_read true 0 0 37 xKn [(0, xR 2), (2, xI l2), (4, xR l4), (5, xI l5)] [] h (xEq (some r0) h0) := by
  unfold f_Tape_read_37 at hf
  obtain ⟨b0, hb0, hf⟩ := xc1_e hf
  refine xloop_ind (P := fun s : (Int × xH) => J mX7_read true 0 0 37 xKn [(0, xR 2), (2, xI l2), (4, xR l4), (5, xI s.1)] [] s.2 (xEq (some r0) h0)) hb0 (fun s x1 hs ib ie => ?_)
  exact j_Tape_read_s37 kl4 hs (fun _ _ e => ib _ e) (fun _ e => by have := ie _ e; subst this; exact j_Tape_read_85  hf) (fun _ _ e => by have := ie _ e; subst this; exact xq_i hf)
theorem jm_Tape_read {l1 : Int} {l2 : Int} {l3 : Int} {l4 : Int} {h : xH} {r0 : Int} {h0 : xH} (kl4 : xK l4 = 3 + 4) (hf : f_Tape_read l1 l2 l3 l4 h = some (r0, h0)) : J mX7_read true 0 0 0 xKn (xen 0 [xR 2, xI l1, xI l2, xI l3, xR l4]) [] h (xEq (some r0) h0) := by
  unfold f_Tape_read at hf
  refine J_cong (ls2 := [(0, xR 2), (1, xI l1), (2, xI l2), (3, xI l3), (4, xR l4)]) (st2 := []) rfl rfl ?_
  refine J_aload 4 dX7_read_0 rfl ?_
  obtain ⟨h1, hq, hf⟩ := xc1_e hf
  refine J_cVv (Mc := mX4_clear) [] dX7_read_2 (fc_Row_clear.fit ⟨xbl rfl, xbl rfl⟩) rfl ⟨Or.inr ⟨_, xq507⟩, xq509, xq3⟩ kl4 (ci := 4) rfl rfl (xbl rfl) (xbl rfl) (jm_Row_clear kl4 hq) ?_
  refine J_iload_n 1 dX7_read_5 rfl rfl ?_
  refine J_if_lt (tgt := 32) dX7_read_6 (by decide) (fun hc => ?_) (fun hc => ?_)
  · have hf := xip hc hf
    refine J_iconst dX7_read_32 (by decide) ?_
    exact J_iretz dX7_read_33 rfl (by decide) (xq_i hf)
  · have hf := xin' hc hf
    refine J_iload_n 2 dX7_read_9 rfl rfl ?_
    refine J_aload_n 0 dX7_read_10 rfl rfl ?_
    refine J_getRl (j := 0) xcf7 dX7_read_11 kO2 (Or.inl xq155) (by decide) (by decide) rf_2_0 ?_
    refine J_alen dX7_read_14 (xK_r1 kO3) (Or.inl kO3) (by decide) nA3 ?_
    refine J_ic_gt (tgt := 32) dX7_read_15 (by decide) (fun hc => ?_) (fun hc => ?_)
    · have hf := xip hc hf
      refine J_iconst dX7_read_32 (by decide) ?_
      exact J_iretz dX7_read_33 rfl (by decide) (xq_i hf)
    · have hf := xin' hc hf
      refine J_iload_n 2 dX7_read_18 rfl rfl ?_
      refine J_iload_n 1 dX7_read_19 rfl rfl ?_
      refine J_isub dX7_read_20 ?_
      refine J_iconst dX7_read_21 (by decide) ?_
      refine J_ic_lt (tgt := 32) dX7_read_22 (by decide) (fun hc => ?_) (fun hc => ?_)
      · have hf := xip hc hf
        refine J_iconst dX7_read_32 (by decide) ?_
        exact J_iretz dX7_read_33 rfl (by decide) (xq_i hf)
      · have hf := xin' hc hf
        refine J_iload_n 2 dX7_read_25 rfl rfl ?_
        refine J_iload_n 1 dX7_read_26 rfl rfl ?_
        refine J_isub dX7_read_27 ?_
        refine J_iload_n 3 dX7_read_28 rfl rfl ?_
        refine J_ic_le (tgt := 34) dX7_read_29 (by decide) (fun hc => ?_) (fun hc => ?_)
        · have hf := xip hc hf
          refine J_iconst dX7_read_32 (by decide) ?_
          exact J_iretz dX7_read_33 rfl (by decide) (xq_i hf)
        · have hf := xin' hc hf
          refine J_iload_n 1 dX7_read_34 rfl rfl ?_
          refine J_istore (ls' := [(5, xI l1), (0, xR 2), (1, xI l1), (2, xI l2), (3, xI l3), (4, xR l4)]) dX7_read_35 (by decide) rfl rfl ?_
          refine J_sub [1, 3, 5, 0] rfl ?_
          exact j_Tape_read_37 kl4 hf
theorem dX7_takeRow_0 : decode cX7_takeRow 0 = .ok (.aload_n 0, 1) := by decide +kernel
theorem dX7_takeRow_1 : decode cX7_takeRow 1 = .ok (.getfield 15, 3) := by decide +kernel
theorem dX7_takeRow_4 : decode cX7_takeRow 4 = .ok (.istore_n 2, 1) := by decide +kernel
theorem dX7_takeRow_5 : decode cX7_takeRow 5 = .ok (.aload_n 0, 1) := by decide +kernel
theorem dX7_takeRow_6 : decode cX7_takeRow 6 = .ok (.iconst 0, 1) := by decide +kernel
theorem dX7_takeRow_7 : decode cX7_takeRow 7 = .ok (.putfield 15, 3) := by decide +kernel
theorem dX7_takeRow_10 : decode cX7_takeRow 10 = .ok (.aload_n 0, 1) := by decide +kernel
theorem dX7_takeRow_11 : decode cX7_takeRow 11 = .ok (.iconst 0, 1) := by decide +kernel
theorem dX7_takeRow_12 : decode cX7_takeRow 12 = .ok (.iload_n 2, 1) := by decide +kernel
theorem dX7_takeRow_13 : decode cX7_takeRow 13 = .ok (.bipush 12, 2) := by decide +kernel
theorem dX7_takeRow_15 : decode cX7_takeRow 15 = .ok (.aload_n 1, 1) := by decide +kernel
theorem dX7_takeRow_16 : decode cX7_takeRow 16 = .ok (.invokevirtual 19, 3) := by decide +kernel
theorem dX7_takeRow_19 : decode cX7_takeRow 19 = .ok (.ireturn, 1) := by decide +kernel
theorem jm_Tape_takeRow {l1 : Int} {h : xH} {r0 : Int} {h0 : xH} (kl1 : xK l1 = 3 + 4) (hf : f_Tape_takeRow l1 h = some (r0, h0)) : J mX7_takeRow true 0 0 0 xKn (xen 0 [xR 2, xR l1]) [] h (xEq (some r0) h0) := by
  unfold f_Tape_takeRow at hf
  refine J_cong (ls2 := [(0, xR 2), (1, xR l1)]) (st2 := []) rfl rfl ?_
  refine J_aload_n 0 dX7_takeRow_0 rfl rfl ?_
  refine J_getI (j := 1) xcf7 dX7_takeRow_1 (xK_rg kO2) kO2 (Or.inl xq156) (by decide) (by decide) ?_
  obtain ⟨x1, ex1, hf⟩ := xlet_e hf
  refine J_istore_n (ls' := [(2, xI x1), (0, xR 2), (1, xR l1)]) dX7_takeRow_4 rfl (by decide) ex1 rfl ?_
  refine J_aload_n 1 dX7_takeRow_5 rfl rfl ?_
  refine J_iconst dX7_takeRow_6 (by decide) ?_
  obtain ⟨h2, eh2, hf⟩ := xlet_e hf
  refine J_putI (j := 1) xcf7 dX7_takeRow_7 (xK_rg kO2) kO2 (Or.inl xq156) (by decide) (by decide) eh2 ?_
  refine J_aload_n 1 dX7_takeRow_10 rfl rfl ?_
  refine J_iconst dX7_takeRow_11 (by decide) ?_
  refine J_iload_n 0 dX7_takeRow_12 rfl rfl ?_
  refine J_bip dX7_takeRow_13 (by decide) ?_
  refine J_aload_n 2 dX7_takeRow_15 rfl rfl ?_
  obtain ⟨r3, h4, hq, hf⟩ := xc2_e hf
  refine J_cVi (Mc := mX7_read) [xI 0, xI x1, xI 12, xR l1] dX7_takeRow_16 (fc_Tape_read.fit ⟨xbl rfl, xbl rfl⟩) rfl ⟨Or.inl xq503, xq505, xq2⟩ kO2 (ci := 7) rfl rfl (xbl rfl) (xbl rfl) (jm_Tape_read kl1 hq) ?_
  obtain ⟨hz, hf⟩ := xgb_e hf
  exact J_iretz dX7_takeRow_19 rfl hz (xq_i hf)
theorem dX5_at_0 : decode cX5_at 0 = .ok (.iload_n 1, 1) := by decide +kernel
theorem dX5_at_1 : decode cX5_at 1 = .ok (.ifCond .lt 34, 3) := by decide +kernel
theorem dX5_at_4 : decode cX5_at 4 = .ok (.iload_n 1, 1) := by decide +kernel
theorem dX5_at_5 : decode cX5_at 5 = .ok (.aload_n 0, 1) := by decide +kernel
theorem dX5_at_6 : decode cX5_at 6 = .ok (.getfield 24, 3) := by decide +kernel
theorem dX5_at_9 : decode cX5_at 9 = .ok (.if_icmp .ge 26, 3) := by decide +kernel
theorem dX5_at_12 : decode cX5_at 12 = .ok (.iload_n 1, 1) := by decide +kernel
theorem dX5_at_13 : decode cX5_at 13 = .ok (.aload_n 0, 1) := by decide +kernel
theorem dX5_at_14 : decode cX5_at 14 = .ok (.getfield 21, 3) := by decide +kernel
theorem dX5_at_17 : decode cX5_at 17 = .ok (.arraylength, 1) := by decide +kernel
theorem dX5_at_18 : decode cX5_at 18 = .ok (.if_icmp .ge 17, 3) := by decide +kernel
theorem dX5_at_21 : decode cX5_at 21 = .ok (.iload_n 2, 1) := by decide +kernel
theorem dX5_at_22 : decode cX5_at 22 = .ok (.ifCond .lt 13, 3) := by decide +kernel
theorem dX5_at_25 : decode cX5_at 25 = .ok (.iload_n 2, 1) := by decide +kernel
theorem dX5_at_26 : decode cX5_at 26 = .ok (.aload_n 0, 1) := by decide +kernel
theorem dX5_at_27 : decode cX5_at 27 = .ok (.getfield 21, 3) := by decide +kernel
theorem dX5_at_30 : decode cX5_at 30 = .ok (.iload_n 1, 1) := by decide +kernel
theorem dX5_at_31 : decode cX5_at 31 = .ok (.iaload, 1) := by decide +kernel
theorem dX5_at_32 : decode cX5_at 32 = .ok (.if_icmp .lt 5, 3) := by decide +kernel
theorem dX5_at_35 : decode cX5_at 35 = .ok (.iconst (-1), 1) := by decide +kernel
theorem dX5_at_36 : decode cX5_at 36 = .ok (.ireturn, 1) := by decide +kernel
theorem dX5_at_37 : decode cX5_at 37 = .ok (.iload_n 1, 1) := by decide +kernel
theorem dX5_at_38 : decode cX5_at 38 = .ok (.bipush 12, 2) := by decide +kernel
theorem dX5_at_40 : decode cX5_at 40 = .ok (.imul, 1) := by decide +kernel
theorem dX5_at_41 : decode cX5_at 41 = .ok (.iload_n 2, 1) := by decide +kernel
theorem dX5_at_42 : decode cX5_at 42 = .ok (.iadd, 1) := by decide +kernel
theorem dX5_at_43 : decode cX5_at 43 = .ok (.istore_n 3, 1) := by decide +kernel
theorem dX5_at_44 : decode cX5_at 44 = .ok (.iload_n 3, 1) := by decide +kernel
theorem dX5_at_45 : decode cX5_at 45 = .ok (.ifCond .lt 21, 3) := by decide +kernel
theorem dX5_at_48 : decode cX5_at 48 = .ok (.iload_n 3, 1) := by decide +kernel
theorem dX5_at_49 : decode cX5_at 49 = .ok (.aload_n 0, 1) := by decide +kernel
theorem dX5_at_50 : decode cX5_at 50 = .ok (.getfield 15, 3) := by decide +kernel
theorem dX5_at_53 : decode cX5_at 53 = .ok (.arraylength, 1) := by decide +kernel
theorem dX5_at_54 : decode cX5_at 54 = .ok (.if_icmp .ge 12, 3) := by decide +kernel
theorem dX5_at_57 : decode cX5_at 57 = .ok (.aload_n 0, 1) := by decide +kernel
theorem dX5_at_58 : decode cX5_at 58 = .ok (.getfield 15, 3) := by decide +kernel
theorem dX5_at_61 : decode cX5_at 61 = .ok (.iload_n 3, 1) := by decide +kernel
theorem dX5_at_62 : decode cX5_at 62 = .ok (.iaload, 1) := by decide +kernel
theorem dX5_at_63 : decode cX5_at 63 = .ok (.goto 4, 3) := by decide +kernel
theorem dX5_at_66 : decode cX5_at 66 = .ok (.iconst (-1), 1) := by decide +kernel
theorem dX5_at_67 : decode cX5_at 67 = .ok (.ireturn, 1) := by decide +kernel
theorem jm_Rows_at {l0 : Int} {l1 : Int} {l2 : Int} {h : xH} {r0 : Int} (kl0 : xK l0 = 3 + 5) (hf : f_Rows_at l0 l1 l2 h = some r0) : J mX5_at true 0 0 0 xKn (xen 0 [xR l0, xI l1, xI l2]) [] h (xEq (some r0) h) := by
  unfold f_Rows_at at hf
  refine J_cong (ls2 := [(0, xR l0), (1, xI l1), (2, xI l2)]) (st2 := []) rfl rfl ?_
  refine J_iload_n 1 dX5_at_0 rfl rfl ?_
  refine J_if_lt (tgt := 35) dX5_at_1 (by decide) (fun hc => ?_) (fun hc => ?_)
  · have hf := xip hc hf
    refine J_iconst dX5_at_35 (by decide) ?_
    exact J_ireti dX5_at_36 rfl (xq_p hf)
  · have hf := xin' hc hf
    refine J_iload_n 1 dX5_at_4 rfl rfl ?_
    refine J_aload_n 0 dX5_at_5 rfl rfl ?_
    refine J_getI (j := 2) xcf5 dX5_at_6 (xK_rg kl0) kl0 (Or.inl xq181) (by decide) (by decide) ?_
    refine J_ic_ge (tgt := 35) dX5_at_9 (by decide) (fun hc => ?_) (fun hc => ?_)
    · have hf := xip hc hf
      refine J_iload_n 1 dX5_at_12 rfl rfl ?_
      refine J_aload_n 0 dX5_at_13 rfl rfl ?_
      refine J_getRl (j := 1) xcf5 dX5_at_14 kl0 (Or.inl xq180) (by decide) (by decide) (rfRows_1 kl0) ?_
      refine J_alen dX5_at_17 (xK_r1 (kRows_1 kl0)) (Or.inl (kRows_1 kl0)) (xNok (l0 + 2)) rfl ?_
      refine J_ic_ge (tgt := 35) dX5_at_18 (by decide) (fun hc => ?_) (fun hc => ?_)
      · have hf := xip hc hf
        refine J_iload_n 2 dX5_at_21 rfl rfl ?_
        refine J_if_lt (tgt := 35) dX5_at_22 (by decide) (fun hc => ?_) (fun hc => ?_)
        · have hf := xip hc hf
          refine J_iconst dX5_at_35 (by decide) ?_
          exact J_ireti dX5_at_36 rfl (xq_p hf)
        · have hf := xin' hc hf
          refine J_iload_n 2 dX5_at_25 rfl rfl ?_
          refine J_aload_n 0 dX5_at_26 rfl rfl ?_
          refine J_getRl (j := 1) xcf5 dX5_at_27 kl0 (Or.inl xq180) (by decide) (by decide) (rfRows_1 kl0) ?_
          refine J_iload_n 1 dX5_at_30 rfl rfl ?_
          obtain ⟨hg, hf⟩ := xgd_e hf
          refine J_iald dX5_at_31 (xK_r1 (kRows_1 kl0)) (kRows_1 kl0) hg rfl ?_
          refine J_ic_lt (tgt := 37) dX5_at_32 (by decide) (fun hc => ?_) (fun hc => ?_)
          · have hf := xip hc hf
            refine J_iload_n 1 dX5_at_37 rfl rfl ?_
            refine J_bip dX5_at_38 (by decide) ?_
            refine J_imul dX5_at_40 ?_
            refine J_iload_n 2 dX5_at_41 rfl rfl ?_
            refine J_iadd dX5_at_42 ?_
            obtain ⟨x1, ex1, hf⟩ := xlet_e hf
            refine J_istore_n (ls' := [(3, xI x1), (0, xR l0), (1, xI l1), (2, xI l2)]) dX5_at_43 rfl (by decide) ex1 rfl ?_
            refine J_iload_n 0 dX5_at_44 rfl rfl ?_
            refine J_if_lt (tgt := 66) dX5_at_45 (by decide) (fun hc => ?_) (fun hc => ?_)
            · have hf := xip hc hf
              refine J_iconst dX5_at_66 (by decide) ?_
              exact J_ireti dX5_at_67 rfl (xq_p hf)
            · have hf := xin' hc hf
              refine J_iload_n 0 dX5_at_48 rfl rfl ?_
              refine J_aload_n 1 dX5_at_49 rfl rfl ?_
              refine J_getRl (j := 0) xcf5 dX5_at_50 kl0 (Or.inl xq179) (by decide) (by decide) (rfRows_0 kl0) ?_
              refine J_alen dX5_at_53 (xK_r1 (kRows_0 kl0)) (Or.inl (kRows_0 kl0)) (xNok (l0 + 1)) rfl ?_
              refine J_ic_ge (tgt := 66) dX5_at_54 (by decide) (fun hc => ?_) (fun hc => ?_)
              · have hf := xip hc hf
                refine J_aload_n 1 dX5_at_57 rfl rfl ?_
                refine J_getRl (j := 0) xcf5 dX5_at_58 kl0 (Or.inl xq179) (by decide) (by decide) (rfRows_0 kl0) ?_
                refine J_iload_n 0 dX5_at_61 rfl rfl ?_
                obtain ⟨hg, hf⟩ := xgd_e hf
                refine J_iald dX5_at_62 (xK_r1 (kRows_0 kl0)) (kRows_0 kl0) hg rfl ?_
                refine J_goto (tgt := 67) dX5_at_63 (by decide) ?_
                exact J_ireti dX5_at_67 rfl (xq_p hf)
              · have hf := xin' hc hf
                refine J_iconst dX5_at_66 (by decide) ?_
                exact J_ireti dX5_at_67 rfl (xq_p hf)
          · have hf := xin' hc hf
            refine J_iconst dX5_at_35 (by decide) ?_
            exact J_ireti dX5_at_36 rfl (xq_p hf)
      · have hf := xin' hc hf
        refine J_iconst dX5_at_35 (by decide) ?_
        exact J_ireti dX5_at_36 rfl (xq_p hf)
    · have hf := xin' hc hf
      refine J_iconst dX5_at_35 (by decide) ?_
      exact J_ireti dX5_at_36 rfl (xq_p hf)
theorem dX4_at_0 : decode cX4_at 0 = .ok (.iload_n 1, 1) := by decide +kernel
theorem dX4_at_1 : decode cX4_at 1 = .ok (.ifCond .lt 29, 3) := by decide +kernel
theorem dX4_at_4 : decode cX4_at 4 = .ok (.iload_n 1, 1) := by decide +kernel
theorem dX4_at_5 : decode cX4_at 5 = .ok (.aload_n 0, 1) := by decide +kernel
theorem dX4_at_6 : decode cX4_at 6 = .ok (.getfield 15, 3) := by decide +kernel
theorem dX4_at_9 : decode cX4_at 9 = .ok (.if_icmp .ge 21, 3) := by decide +kernel
theorem dX4_at_12 : decode cX4_at 12 = .ok (.iload_n 1, 1) := by decide +kernel
theorem dX4_at_13 : decode cX4_at 13 = .ok (.aload_n 0, 1) := by decide +kernel
theorem dX4_at_14 : decode cX4_at 14 = .ok (.getfield 9, 3) := by decide +kernel
theorem dX4_at_17 : decode cX4_at 17 = .ok (.arraylength, 1) := by decide +kernel
theorem dX4_at_18 : decode cX4_at 18 = .ok (.if_icmp .ge 12, 3) := by decide +kernel
theorem dX4_at_21 : decode cX4_at 21 = .ok (.aload_n 0, 1) := by decide +kernel
theorem dX4_at_22 : decode cX4_at 22 = .ok (.getfield 9, 3) := by decide +kernel
theorem dX4_at_25 : decode cX4_at 25 = .ok (.iload_n 1, 1) := by decide +kernel
theorem dX4_at_26 : decode cX4_at 26 = .ok (.iaload, 1) := by decide +kernel
theorem dX4_at_27 : decode cX4_at 27 = .ok (.goto 4, 3) := by decide +kernel
theorem dX4_at_30 : decode cX4_at 30 = .ok (.iconst (-1), 1) := by decide +kernel
theorem dX4_at_31 : decode cX4_at 31 = .ok (.ireturn, 1) := by decide +kernel
theorem jm_Row_at {l0 : Int} {l1 : Int} {h : xH} {r0 : Int} (kl0 : xK l0 = 3 + 4) (hf : f_Row_at l0 l1 h = some r0) : J mX4_at true 0 0 0 xKn (xen 0 [xR l0, xI l1]) [] h (xEq (some r0) h) := by
  unfold f_Row_at at hf
  refine J_cong (ls2 := [(0, xR l0), (1, xI l1)]) (st2 := []) rfl rfl ?_
  refine J_iload_n 1 dX4_at_0 rfl rfl ?_
  refine J_if_lt (tgt := 30) dX4_at_1 (by decide) (fun hc => ?_) (fun hc => ?_)
  · have hf := xip hc hf
    refine J_iconst dX4_at_30 (by decide) ?_
    exact J_ireti dX4_at_31 rfl (xq_p hf)
  · have hf := xin' hc hf
    refine J_iload_n 1 dX4_at_4 rfl rfl ?_
    refine J_aload_n 0 dX4_at_5 rfl rfl ?_
    refine J_getI (j := 1) xcf4 dX4_at_6 (xK_rg kl0) kl0 (Or.inl xq248) (by decide) (by decide) ?_
    refine J_ic_ge (tgt := 30) dX4_at_9 (by decide) (fun hc => ?_) (fun hc => ?_)
    · have hf := xip hc hf
      refine J_iload_n 1 dX4_at_12 rfl rfl ?_
      refine J_aload_n 0 dX4_at_13 rfl rfl ?_
      refine J_getRl (j := 0) xcf4 dX4_at_14 kl0 (Or.inl xq245) (by decide) (by decide) (rfRow_0 kl0) ?_
      refine J_alen dX4_at_17 (xK_r1 (kRow_0 kl0)) (Or.inl (kRow_0 kl0)) (by decide) (nRow_0 kl0) ?_
      refine J_ic_ge (tgt := 30) dX4_at_18 (by decide) (fun hc => ?_) (fun hc => ?_)
      · have hf := xip hc hf
        refine J_aload_n 0 dX4_at_21 rfl rfl ?_
        refine J_getRl (j := 0) xcf4 dX4_at_22 kl0 (Or.inl xq245) (by decide) (by decide) (rfRow_0 kl0) ?_
        refine J_iload_n 1 dX4_at_25 rfl rfl ?_
        obtain ⟨hg, hf⟩ := xgd_e hf
        refine J_iald dX4_at_26 (xK_r1 (kRow_0 kl0)) (kRow_0 kl0) hg (nRow_0 kl0) ?_
        refine J_goto (tgt := 31) dX4_at_27 (by decide) ?_
        exact J_ireti dX4_at_31 rfl (xq_p hf)
      · have hf := xin' hc hf
        refine J_iconst dX4_at_30 (by decide) ?_
        exact J_ireti dX4_at_31 rfl (xq_p hf)
    · have hf := xin' hc hf
      refine J_iconst dX4_at_30 (by decide) ?_
      exact J_ireti dX4_at_31 rfl (xq_p hf)
theorem dX5_order_0 : decode cX5_order 0 = .ok (.iconst 0, 1) := by decide +kernel
theorem dX5_order_1 : decode cX5_order 1 = .ok (.istore_n 3, 1) := by decide +kernel
theorem dX5_order_2 : decode cX5_order 2 = .ok (.iload_n 3, 1) := by decide +kernel
theorem dX5_order_3 : decode cX5_order 3 = .ok (.bipush 12, 2) := by decide +kernel
theorem dX5_order_5 : decode cX5_order 5 = .ok (.if_icmp .ge 31, 3) := by decide +kernel
theorem dX5_order_8 : decode cX5_order 8 = .ok (.aload_n 0, 1) := by decide +kernel
theorem dX5_order_9 : decode cX5_order 9 = .ok (.iload_n 1, 1) := by decide +kernel
theorem dX5_order_10 : decode cX5_order 10 = .ok (.iload_n 3, 1) := by decide +kernel
theorem dX5_order_11 : decode cX5_order 11 = .ok (.invokevirtual 37, 3) := by decide +kernel
theorem dX5_order_14 : decode cX5_order 14 = .ok (.aload_n 2, 1) := by decide +kernel
theorem dX5_order_15 : decode cX5_order 15 = .ok (.iload_n 3, 1) := by decide +kernel
theorem dX5_order_16 : decode cX5_order 16 = .ok (.invokevirtual 60, 3) := by decide +kernel
theorem dX5_order_19 : decode cX5_order 19 = .ok (.isub, 1) := by decide +kernel
theorem dX5_order_20 : decode cX5_order 20 = .ok (.istore 4, 2) := by decide +kernel
theorem dX5_order_22 : decode cX5_order 22 = .ok (.iload 4, 2) := by decide +kernel
theorem dX5_order_24 : decode cX5_order 24 = .ok (.ifCond .eq 6, 3) := by decide +kernel
theorem dX5_order_27 : decode cX5_order 27 = .ok (.iload 4, 2) := by decide +kernel
theorem dX5_order_29 : decode cX5_order 29 = .ok (.ireturn, 1) := by decide +kernel
theorem dX5_order_30 : decode cX5_order 30 = .ok (.iinc 3 1, 3) := by decide +kernel
theorem dX5_order_33 : decode cX5_order 33 = .ok (.goto (-31), 3) := by decide +kernel
theorem dX5_order_36 : decode cX5_order 36 = .ok (.iconst 0, 1) := by decide +kernel
theorem dX5_order_37 : decode cX5_order 37 = .ok (.ireturn, 1) := by decide +kernel
theorem j_Rows_order_36  {h : xH} {r0 : Int}  (hf : f_Rows_order_36 h = some r0)  : J mX5_order true 0 0 36 xKn [] [] h (xEq (some r0) h) := by
  unfold f_Rows_order_36 at hf
  refine J_iconst dX5_order_36 (by decide) ?_
  exact J_ireti dX5_order_37 rfl (xq_p hf)
theorem j_Rows_order_s2 {l0 : Int} {l1 : Int} {l2 : Int} {l3 : Int} {h : xH} {x : (Int ⊕ (Unit ⊕ Int))} {Q : xQ} (kl0 : xK l0 = 3 + 5) (kl2 : xK l2 = 3 + 4) (hf : f_Rows_order_s2 l0 l1 l2 l3 h = some x) (kb : ∀ (l3' : Int), x = Sum.inl l3' → J mX5_order true 0 0 2 xKn [(0, xR l0), (1, xI l1), (2, xR l2), (3, xI l3')] [] h Q) (ke : x = (Sum.inr (Sum.inl ())) → J mX5_order true 0 0 36 xKn [] [] h Q) (kr : ∀ v : Int, x = (Sum.inr (Sum.inr v)) → Q (some v) xKn h) : J mX5_order true 0 0 2 xKn [(0, xR l0), (1, xI l1), (2, xR l2), (3, xI l3)] [] h Q := by
  unfold f_Rows_order_s2 at hf
  refine J_iload_n 3 dX5_order_2 rfl rfl ?_
  refine J_bip dX5_order_3 (by decide) ?_
  refine J_ic_ge (tgt := 36) dX5_order_5 (by decide) (fun hc => ?_) (fun hc => ?_)
  · have hf := xip hc hf
    refine J_aload_n 0 dX5_order_8 rfl rfl ?_
    refine J_iload_n 1 dX5_order_9 rfl rfl ?_
    refine J_iload_n 3 dX5_order_10 rfl rfl ?_
    obtain ⟨r1, hq, hf⟩ := xc1_e hf
    refine J_cVi (Mc := mX5_at) [xI l1, xI l3] dX5_order_11 (fc_Rows_at.fit ⟨xbl rfl, xbl rfl⟩) rfl ⟨Or.inl xq532, xq534, xq9⟩ kl0 (ci := 5) rfl rfl (xbl rfl) (xbl rfl) (jm_Rows_at kl0 hq) ?_
    refine J_aload_n 2 dX5_order_14 rfl rfl ?_
    refine J_iload_n 3 dX5_order_15 rfl rfl ?_
    obtain ⟨r2, hq, hf⟩ := xc1_e hf
    refine J_cVi (Mc := mX4_at) [xI l3] dX5_order_16 (fc_Row_at.fit ⟨xbl rfl, xbl rfl⟩) rfl ⟨Or.inr ⟨_, xq536⟩, xq538, xq10⟩ kl2 (ci := 4) rfl rfl (xbl rfl) (xbl rfl) (jm_Row_at kl2 hq) ?_
    refine J_isub dX5_order_19 ?_
    obtain ⟨x3, ex3, hf⟩ := xlet_e hf
    refine J_istore (ls' := [(4, xI x3), (0, xR l0), (1, xI l1), (2, xR l2), (3, xI l3)]) dX5_order_20 (by decide) ex3 rfl ?_
    refine J_iload 0 dX5_order_22 rfl ?_
    refine J_if_eq (tgt := 30) dX5_order_24 (by decide) (fun hc => ?_) (fun hc => ?_)
    · have hf := xip hc hf
      obtain ⟨x4, ex4, hf⟩ := xlet_e hf
      refine J_iinc (ls' := [(3, xI x4), (4, xI x3), (0, xR l0), (1, xI l1), (2, xR l2)]) 4 dX5_order_30 rfl (by decide) ex4 rfl ?_
      refine J_goto (tgt := 2) dX5_order_33 (by decide) ?_
      refine J_sub [2, 3, 4, 0] rfl ?_
      exact kb _ (xinl hf)
    · have hf := xin' hc hf
      refine J_iload 0 dX5_order_27 rfl ?_
      exact J_ireti dX5_order_29 rfl (kr _ (xinl hf))
  · have hf := xin' hc hf
    refine J_sub [] rfl ?_
    exact ke  (xinl hf)
theorem j_Rows_order_2 {l0 : Int} {l1 : Int} {l2 : Int} {l3 : Int} {h : xH} {r0 : Int} (kl0 : xK l0 = 3 + 5) (kl2 : xK l2 = 3 + 4) (hf : f_Rows_order_2 l0 l1 l2 l3 h = some r0)  : J mX5_order true 0 0 2 xKn [(0, xR l0), (1, xI l1), (2, xR l2), (3, xI l3)] [] h (xEq (some r0) h) := by
  unfold f_Rows_order_2 at hf
  obtain ⟨b0, hb0, hf⟩ := xc1_e hf
  refine xloop_ind (P := fun s : Int => J mX5_order true 0 0 2 xKn [(0, xR l0), (1, xI l1), (2, xR l2), (3, xI s)] [] h (xEq (some r0) h)) hb0 (fun s x1 hs ib ie => ?_)
  exact j_Rows_order_s2 kl0 kl2 hs (fun _ e => ib _ e) (fun  e => by have := ie _ e; subst this; exact j_Rows_order_36  hf) (fun _ e => by have := ie _ e; subst this; exact xq_p hf)
theorem jm_Rows_order {l0 : Int} {l1 : Int} {l2 : Int} {h : xH} {r0 : Int} (kl0 : xK l0 = 3 + 5) (kl2 : xK l2 = 3 + 4) (hf : f_Rows_order l0 l1 l2 h = some r0) : J mX5_order true 0 0 0 xKn (xen 0 [xR l0, xI l1, xR l2]) [] h (xEq (some r0) h) := by
  unfold f_Rows_order at hf
  refine J_cong (ls2 := [(0, xR l0), (1, xI l1), (2, xR l2)]) (st2 := []) rfl rfl ?_
  refine J_iconst dX5_order_0 (by decide) ?_
  refine J_istore_n (ls' := [(3, xI 0), (0, xR l0), (1, xI l1), (2, xR l2)]) dX5_order_1 rfl (by decide) rfl rfl ?_
  refine J_sub [1, 2, 3, 0] rfl ?_
  exact j_Rows_order_2 kl0 kl2 hf
theorem dX1_place_0 : decode cX1_place 0 = .ok (.iconst 0, 1) := by decide +kernel
theorem dX1_place_1 : decode cX1_place 1 = .ok (.istore_n 2, 1) := by decide +kernel
theorem dX1_place_2 : decode cX1_place 2 = .ok (.sipush 128, 3) := by decide +kernel
theorem dX1_place_5 : decode cX1_place 5 = .ok (.istore_n 3, 1) := by decide +kernel
theorem dX1_place_6 : decode cX1_place 6 = .ok (.iload_n 3, 1) := by decide +kernel
theorem dX1_place_7 : decode cX1_place 7 = .ok (.ifCond .le 45, 3) := by decide +kernel
theorem dX1_place_10 : decode cX1_place 10 = .ok (.iload_n 2, 1) := by decide +kernel
theorem dX1_place_11 : decode cX1_place 11 = .ok (.iload_n 3, 1) := by decide +kernel
theorem dX1_place_12 : decode cX1_place 12 = .ok (.iadd, 1) := by decide +kernel
theorem dX1_place_13 : decode cX1_place 13 = .ok (.istore 4, 2) := by decide +kernel
theorem dX1_place_15 : decode cX1_place 15 = .ok (.iload 4, 2) := by decide +kernel
theorem dX1_place_17 : decode cX1_place 17 = .ok (.aload_n 0, 1) := by decide +kernel
theorem dX1_place_18 : decode cX1_place 18 = .ok (.getfield 14, 3) := by decide +kernel
theorem dX1_place_21 : decode cX1_place 21 = .ok (.getfield 24, 3) := by decide +kernel
theorem dX1_place_24 : decode cX1_place 24 = .ok (.if_icmp .gt 21, 3) := by decide +kernel
theorem dX1_place_27 : decode cX1_place 27 = .ok (.aload_n 0, 1) := by decide +kernel
theorem dX1_place_28 : decode cX1_place 28 = .ok (.getfield 14, 3) := by decide +kernel
theorem dX1_place_31 : decode cX1_place 31 = .ok (.iload 4, 2) := by decide +kernel
theorem dX1_place_33 : decode cX1_place 33 = .ok (.iconst 1, 1) := by decide +kernel
theorem dX1_place_34 : decode cX1_place 34 = .ok (.isub, 1) := by decide +kernel
theorem dX1_place_35 : decode cX1_place 35 = .ok (.aload_n 1, 1) := by decide +kernel
theorem dX1_place_36 : decode cX1_place 36 = .ok (.invokevirtual 28, 3) := by decide +kernel
theorem dX1_place_39 : decode cX1_place 39 = .ok (.ifCond .ge 6, 3) := by decide +kernel
theorem dX1_place_42 : decode cX1_place 42 = .ok (.iload 4, 2) := by decide +kernel
theorem dX1_place_44 : decode cX1_place 44 = .ok (.istore_n 2, 1) := by decide +kernel
theorem dX1_place_45 : decode cX1_place 45 = .ok (.iload_n 3, 1) := by decide +kernel
theorem dX1_place_46 : decode cX1_place 46 = .ok (.iconst 2, 1) := by decide +kernel
theorem dX1_place_47 : decode cX1_place 47 = .ok (.idiv, 1) := by decide +kernel
theorem dX1_place_48 : decode cX1_place 48 = .ok (.istore_n 3, 1) := by decide +kernel
theorem dX1_place_49 : decode cX1_place 49 = .ok (.goto (-43), 3) := by decide +kernel
theorem dX1_place_52 : decode cX1_place 52 = .ok (.iload_n 2, 1) := by decide +kernel
theorem dX1_place_53 : decode cX1_place 53 = .ok (.ireturn, 1) := by decide +kernel
theorem j_Lex_place_52 {l2 : Int} {h : xH} {r0 : Int}  (hf : f_Lex_place_52 l2 h = some r0)  : J mX1_place true 0 0 52 xKn [(2, xI l2)] [] h (xEq (some r0) h) := by
  unfold f_Lex_place_52 at hf
  refine J_iload_n 0 dX1_place_52 rfl rfl ?_
  exact J_ireti dX1_place_53 rfl (xq_p hf)
theorem j_Lex_place_45 {l1 : Int} {l2 : Int} {l3 : Int} {h : xH} {x : ((Int × Int) ⊕ Int)} {Q : xQ} (kl1 : xK l1 = 3 + 4) (hf : f_Lex_place_45 l1 l2 l3 h = some x) (kb : ∀ (l2' : Int) (l3' : Int), x = Sum.inl (l2', l3') → J mX1_place true 0 0 6 xKn [(0, xR 4), (1, xR l1), (2, xI l2'), (3, xI l3')] [] h Q) (ke : ∀ (l2' : Int), x = (Sum.inr l2') → J mX1_place true 0 0 52 xKn [(2, xI l2')] [] h Q) : J mX1_place true 0 0 45 xKn [(0, xR 4), (1, xR l1), (2, xI l2), (3, xI l3)] [] h Q := by
  unfold f_Lex_place_45 at hf
  refine J_iload_n 3 dX1_place_45 rfl rfl ?_
  refine J_iconst dX1_place_46 (by decide) ?_
  refine J_idiv dX1_place_47 (by decide) ?_
  obtain ⟨x1, ex1, hf⟩ := xlet_e hf
  refine J_istore_n (ls' := [(3, xI x1), (0, xR 4), (1, xR l1), (2, xI l2)]) dX1_place_48 rfl (by decide) ex1 rfl ?_
  refine J_goto (tgt := 6) dX1_place_49 (by decide) ?_
  refine J_sub [1, 2, 3, 0] rfl ?_
  exact kb _ _ (xinl hf)
theorem j_Lex_place_s6 {l1 : Int} {l2 : Int} {l3 : Int} {h : xH} {x : ((Int × Int) ⊕ Int)} {Q : xQ} (kl1 : xK l1 = 3 + 4) (hf : f_Lex_place_s6 l1 l2 l3 h = some x) (kb : ∀ (l2' : Int) (l3' : Int), x = Sum.inl (l2', l3') → J mX1_place true 0 0 6 xKn [(0, xR 4), (1, xR l1), (2, xI l2'), (3, xI l3')] [] h Q) (ke : ∀ (l2' : Int), x = (Sum.inr l2') → J mX1_place true 0 0 52 xKn [(2, xI l2')] [] h Q) : J mX1_place true 0 0 6 xKn [(0, xR 4), (1, xR l1), (2, xI l2), (3, xI l3)] [] h Q := by
  unfold f_Lex_place_s6 at hf
  refine J_iload_n 3 dX1_place_6 rfl rfl ?_
  refine J_if_le (tgt := 52) dX1_place_7 (by decide) (fun hc => ?_) (fun hc => ?_)
  · have hf := xip hc hf
    refine J_iload_n 2 dX1_place_10 rfl rfl ?_
    refine J_iload_n 3 dX1_place_11 rfl rfl ?_
    refine J_iadd dX1_place_12 ?_
    obtain ⟨x1, ex1, hf⟩ := xlet_e hf
    refine J_istore (ls' := [(4, xI x1), (0, xR 4), (1, xR l1), (2, xI l2), (3, xI l3)]) dX1_place_13 (by decide) ex1 rfl ?_
    refine J_iload 0 dX1_place_15 rfl ?_
    refine J_aload_n 1 dX1_place_17 rfl rfl ?_
    refine J_getRl (j := 0) xcf1 dX1_place_18 kO4 (Or.inl xq194) (by decide) (by decide) rf_4_0 ?_
    refine J_getI (j := 2) xcf5 dX1_place_21 (xK_rg kO5) kO5 (Or.inr ⟨_, xq183⟩) (by decide) (by decide) ?_
    refine J_ic_gt (tgt := 45) dX1_place_24 (by decide) (fun hc => ?_) (fun hc => ?_)
    · have hf := xip hc hf
      refine J_sub [1, 2, 3, 4] rfl ?_
      exact j_Lex_place_45 kl1 hf kb ke
    · have hf := xin' hc hf
      refine J_aload_n 1 dX1_place_27 rfl rfl ?_
      refine J_getRl (j := 0) xcf1 dX1_place_28 kO4 (Or.inl xq194) (by decide) (by decide) rf_4_0 ?_
      refine J_iload 0 dX1_place_31 rfl ?_
      refine J_iconst dX1_place_33 (by decide) ?_
      refine J_isub dX1_place_34 ?_
      refine J_aload_n 2 dX1_place_35 rfl rfl ?_
      obtain ⟨r2, hq, hf⟩ := xc1_e hf
      refine J_cVi (Mc := mX5_order) [xI (w32 (x1 - 1)), xR l1] dX1_place_36 (fc_Rows_order.fit ⟨xbl rfl, xbl rfl⟩) rfl ⟨Or.inr ⟨_, xq528⟩, xq530, xq8⟩ kO5 (ci := 5) rfl rfl (xbl rfl) (xbl rfl) (jm_Rows_order kO5 kl1 hq) ?_
      refine J_if_ge (tgt := 45) dX1_place_39 (by decide) (fun hc => ?_) (fun hc => ?_)
      · have hf := xip hc hf
        refine J_iload 0 dX1_place_42 rfl ?_
        refine J_istore_n (ls' := [(2, xI x1), (4, xI x1), (0, xR 4), (1, xR l1), (3, xI l3)]) dX1_place_44 rfl (by decide) rfl rfl ?_
        refine J_sub [2, 3, 0, 4] rfl ?_
        exact j_Lex_place_45 kl1 hf kb ke
      · have hf := xin' hc hf
        refine J_sub [1, 2, 3, 4] rfl ?_
        exact j_Lex_place_45 kl1 hf kb ke
  · have hf := xin' hc hf
    refine J_sub [2] rfl ?_
    exact ke _ (xinl hf)
theorem j_Lex_place_6 {l1 : Int} {l2 : Int} {l3 : Int} {h : xH} {r0 : Int} (kl1 : xK l1 = 3 + 4) (hf : f_Lex_place_6 l1 l2 l3 h = some r0)  : J mX1_place true 0 0 6 xKn [(0, xR 4), (1, xR l1), (2, xI l2), (3, xI l3)] [] h (xEq (some r0) h) := by
  unfold f_Lex_place_6 at hf
  obtain ⟨b0, hb0, hf⟩ := xc1_e hf
  refine xloop_ind (P := fun s : (Int × Int) => J mX1_place true 0 0 6 xKn [(0, xR 4), (1, xR l1), (2, xI s.1), (3, xI s.2)] [] h (xEq (some r0) h)) hb0 (fun s x1 hs ib ie => ?_)
  exact j_Lex_place_s6 kl1 hs (fun _ _ e => ib _ e) (fun _ e => by have := ie _ e; subst this; exact j_Lex_place_52  hf)
theorem jm_Lex_place {l1 : Int} {h : xH} {r0 : Int} (kl1 : xK l1 = 3 + 4) (hf : f_Lex_place l1 h = some r0) : J mX1_place true 0 0 0 xKn (xen 0 [xR 4, xR l1]) [] h (xEq (some r0) h) := by
  unfold f_Lex_place at hf
  refine J_cong (ls2 := [(0, xR 4), (1, xR l1)]) (st2 := []) rfl rfl ?_
  refine J_iconst dX1_place_0 (by decide) ?_
  refine J_istore_n (ls' := [(2, xI 0), (0, xR 4), (1, xR l1)]) dX1_place_1 rfl (by decide) rfl rfl ?_
  refine J_sip dX1_place_2 (by decide) ?_
  refine J_istore_n (ls' := [(3, xI 128), (2, xI 0), (0, xR 4), (1, xR l1)]) dX1_place_5 rfl (by decide) rfl rfl ?_
  refine J_sub [2, 3, 1, 0] rfl ?_
  exact j_Lex_place_6 kl1 hf
theorem dX1_numberOf_0 : decode cX1_numberOf 0 = .ok (.aload_n 0, 1) := by decide +kernel
theorem dX1_numberOf_1 : decode cX1_numberOf 1 = .ok (.aload_n 1, 1) := by decide +kernel
theorem dX1_numberOf_2 : decode cX1_numberOf 2 = .ok (.invokevirtual 32, 3) := by decide +kernel
theorem dX1_numberOf_5 : decode cX1_numberOf 5 = .ok (.istore_n 2, 1) := by decide +kernel
theorem dX1_numberOf_6 : decode cX1_numberOf 6 = .ok (.iload_n 2, 1) := by decide +kernel
theorem dX1_numberOf_7 : decode cX1_numberOf 7 = .ok (.aload_n 0, 1) := by decide +kernel
theorem dX1_numberOf_8 : decode cX1_numberOf 8 = .ok (.getfield 14, 3) := by decide +kernel
theorem dX1_numberOf_11 : decode cX1_numberOf 11 = .ok (.getfield 24, 3) := by decide +kernel
theorem dX1_numberOf_14 : decode cX1_numberOf 14 = .ok (.if_icmp .ge 19, 3) := by decide +kernel
theorem dX1_numberOf_17 : decode cX1_numberOf 17 = .ok (.aload_n 0, 1) := by decide +kernel
theorem dX1_numberOf_18 : decode cX1_numberOf 18 = .ok (.getfield 14, 3) := by decide +kernel
theorem dX1_numberOf_21 : decode cX1_numberOf 21 = .ok (.iload_n 2, 1) := by decide +kernel
theorem dX1_numberOf_22 : decode cX1_numberOf 22 = .ok (.aload_n 1, 1) := by decide +kernel
theorem dX1_numberOf_23 : decode cX1_numberOf 23 = .ok (.invokevirtual 28, 3) := by decide +kernel
theorem dX1_numberOf_26 : decode cX1_numberOf 26 = .ok (.ifCond .ne 7, 3) := by decide +kernel
theorem dX1_numberOf_29 : decode cX1_numberOf 29 = .ok (.iload_n 2, 1) := by decide +kernel
theorem dX1_numberOf_30 : decode cX1_numberOf 30 = .ok (.goto 4, 3) := by decide +kernel
theorem dX1_numberOf_33 : decode cX1_numberOf 33 = .ok (.iconst (-1), 1) := by decide +kernel
theorem dX1_numberOf_34 : decode cX1_numberOf 34 = .ok (.ireturn, 1) := by decide +kernel
theorem jm_Lex_numberOf {l1 : Int} {h : xH} {r0 : Int} (kl1 : xK l1 = 3 + 4) (hf : f_Lex_numberOf l1 h = some r0) : J mX1_numberOf true 0 0 0 xKn (xen 0 [xR 4, xR l1]) [] h (xEq (some r0) h) := by
  unfold f_Lex_numberOf at hf
  refine J_cong (ls2 := [(0, xR 4), (1, xR l1)]) (st2 := []) rfl rfl ?_
  refine J_aload_n 0 dX1_numberOf_0 rfl rfl ?_
  refine J_aload_n 1 dX1_numberOf_1 rfl rfl ?_
  obtain ⟨r1, hq, hf⟩ := xc1_e hf
  refine J_cVi (Mc := mX1_place) [xR l1] dX1_numberOf_2 (fc_Lex_place.fit ⟨xbl rfl, xbl rfl⟩) rfl ⟨Or.inl xq524, xq526, xq7⟩ kO4 (ci := 1) rfl rfl (xbl rfl) (xbl rfl) (jm_Lex_place kl1 hq) ?_
  refine J_istore_n (ls' := [(2, xI r1), (0, xR 4), (1, xR l1)]) dX1_numberOf_5 rfl (by decide) rfl rfl ?_
  refine J_iload_n 0 dX1_numberOf_6 rfl rfl ?_
  refine J_aload_n 1 dX1_numberOf_7 rfl rfl ?_
  refine J_getRl (j := 0) xcf1 dX1_numberOf_8 kO4 (Or.inl xq194) (by decide) (by decide) rf_4_0 ?_
  refine J_getI (j := 2) xcf5 dX1_numberOf_11 (xK_rg kO5) kO5 (Or.inr ⟨_, xq183⟩) (by decide) (by decide) ?_
  refine J_ic_ge (tgt := 33) dX1_numberOf_14 (by decide) (fun hc => ?_) (fun hc => ?_)
  · have hf := xip hc hf
    refine J_aload_n 1 dX1_numberOf_17 rfl rfl ?_
    refine J_getRl (j := 0) xcf1 dX1_numberOf_18 kO4 (Or.inl xq194) (by decide) (by decide) rf_4_0 ?_
    refine J_iload_n 0 dX1_numberOf_21 rfl rfl ?_
    refine J_aload_n 2 dX1_numberOf_22 rfl rfl ?_
    obtain ⟨r2, hq, hf⟩ := xc1_e hf
    refine J_cVi (Mc := mX5_order) [xI r1, xR l1] dX1_numberOf_23 (fc_Rows_order.fit ⟨xbl rfl, xbl rfl⟩) rfl ⟨Or.inr ⟨_, xq528⟩, xq530, xq8⟩ kO5 (ci := 5) rfl rfl (xbl rfl) (xbl rfl) (jm_Rows_order kO5 kl1 hq) ?_
    refine J_if_ne (tgt := 33) dX1_numberOf_26 (by decide) (fun hc => ?_) (fun hc => ?_)
    · have hf := xip hc hf
      refine J_iload_n 0 dX1_numberOf_29 rfl rfl ?_
      refine J_goto (tgt := 34) dX1_numberOf_30 (by decide) ?_
      exact J_ireti dX1_numberOf_34 rfl (xq_p hf)
    · have hf := xin' hc hf
      refine J_iconst dX1_numberOf_33 (by decide) ?_
      exact J_ireti dX1_numberOf_34 rfl (xq_p hf)
  · have hf := xin' hc hf
    refine J_iconst dX1_numberOf_33 (by decide) ?_
    exact J_ireti dX1_numberOf_34 rfl (xq_p hf)
theorem dX5_isFull_0 : decode cX5_isFull 0 = .ok (.aload_n 0, 1) := by decide +kernel
theorem dX5_isFull_1 : decode cX5_isFull 1 = .ok (.getfield 24, 3) := by decide +kernel
theorem dX5_isFull_4 : decode cX5_isFull 4 = .ok (.aload_n 0, 1) := by decide +kernel
theorem dX5_isFull_5 : decode cX5_isFull 5 = .ok (.getfield 21, 3) := by decide +kernel
theorem dX5_isFull_8 : decode cX5_isFull 8 = .ok (.arraylength, 1) := by decide +kernel
theorem dX5_isFull_9 : decode cX5_isFull 9 = .ok (.if_icmp .lt 7, 3) := by decide +kernel
theorem dX5_isFull_12 : decode cX5_isFull 12 = .ok (.iconst 1, 1) := by decide +kernel
theorem dX5_isFull_13 : decode cX5_isFull 13 = .ok (.goto 4, 3) := by decide +kernel
theorem dX5_isFull_16 : decode cX5_isFull 16 = .ok (.iconst 0, 1) := by decide +kernel
theorem dX5_isFull_17 : decode cX5_isFull 17 = .ok (.ireturn, 1) := by decide +kernel
theorem jm_Rows_isFull {l0 : Int} {h : xH} {r0 : Int} (kl0 : xK l0 = 3 + 5) (hf : f_Rows_isFull l0 h = some r0) : J mX5_isFull true 0 0 0 xKn (xen 0 [xR l0]) [] h (xEq (some r0) h) := by
  unfold f_Rows_isFull at hf
  refine J_cong (ls2 := [(0, xR l0)]) (st2 := []) rfl rfl ?_
  refine J_aload_n 0 dX5_isFull_0 rfl rfl ?_
  refine J_getI (j := 2) xcf5 dX5_isFull_1 (xK_rg kl0) kl0 (Or.inl xq181) (by decide) (by decide) ?_
  refine J_aload_n 0 dX5_isFull_4 rfl rfl ?_
  refine J_getRl (j := 1) xcf5 dX5_isFull_5 kl0 (Or.inl xq180) (by decide) (by decide) (rfRows_1 kl0) ?_
  refine J_alen dX5_isFull_8 (xK_r1 (kRows_1 kl0)) (Or.inl (kRows_1 kl0)) (xNok (l0 + 2)) rfl ?_
  refine J_ic_lt (tgt := 16) dX5_isFull_9 (by decide) (fun hc => ?_) (fun hc => ?_)
  · have hf := xip hc hf
    refine J_iconst dX5_isFull_16 (by decide) ?_
    exact J_iretz dX5_isFull_17 rfl (by decide) (xq_p hf)
  · have hf := xin' hc hf
    refine J_iconst dX5_isFull_12 (by decide) ?_
    refine J_goto (tgt := 17) dX5_isFull_13 (by decide) ?_
    exact J_iretz dX5_isFull_17 rfl (by decide) (xq_p hf)
theorem dX5_insert_0 : decode cX5_insert 0 = .ok (.iload_n 1, 1) := by decide +kernel
theorem dX5_insert_1 : decode cX5_insert 1 = .ok (.ifCond .lt 18, 3) := by decide +kernel
theorem dX5_insert_4 : decode cX5_insert 4 = .ok (.iload_n 1, 1) := by decide +kernel
theorem dX5_insert_5 : decode cX5_insert 5 = .ok (.aload_n 0, 1) := by decide +kernel
theorem dX5_insert_6 : decode cX5_insert 6 = .ok (.getfield 24, 3) := by decide +kernel
theorem dX5_insert_9 : decode cX5_insert 9 = .ok (.if_icmp .gt 10, 3) := by decide +kernel
theorem dX5_insert_12 : decode cX5_insert 12 = .ok (.aload_n 0, 1) := by decide +kernel
theorem dX5_insert_13 : decode cX5_insert 13 = .ok (.invokevirtual 48, 3) := by decide +kernel
theorem dX5_insert_16 : decode cX5_insert 16 = .ok (.ifCond .eq 4, 3) := by decide +kernel
theorem dX5_insert_19 : decode cX5_insert 19 = .ok (.return_, 1) := by decide +kernel
theorem dX5_insert_20 : decode cX5_insert 20 = .ok (.aload_n 0, 1) := by decide +kernel
theorem dX5_insert_21 : decode cX5_insert 21 = .ok (.getfield 15, 3) := by decide +kernel
theorem dX5_insert_24 : decode cX5_insert 24 = .ok (.iload_n 1, 1) := by decide +kernel
theorem dX5_insert_25 : decode cX5_insert 25 = .ok (.bipush 12, 2) := by decide +kernel
theorem dX5_insert_27 : decode cX5_insert 27 = .ok (.imul, 1) := by decide +kernel
theorem dX5_insert_28 : decode cX5_insert 28 = .ok (.aload_n 0, 1) := by decide +kernel
theorem dX5_insert_29 : decode cX5_insert 29 = .ok (.getfield 15, 3) := by decide +kernel
theorem dX5_insert_32 : decode cX5_insert 32 = .ok (.iload_n 1, 1) := by decide +kernel
theorem dX5_insert_33 : decode cX5_insert 33 = .ok (.iconst 1, 1) := by decide +kernel
theorem dX5_insert_34 : decode cX5_insert 34 = .ok (.iadd, 1) := by decide +kernel
theorem dX5_insert_35 : decode cX5_insert 35 = .ok (.bipush 12, 2) := by decide +kernel
theorem dX5_insert_37 : decode cX5_insert 37 = .ok (.imul, 1) := by decide +kernel
theorem dX5_insert_38 : decode cX5_insert 38 = .ok (.aload_n 0, 1) := by decide +kernel
theorem dX5_insert_39 : decode cX5_insert 39 = .ok (.getfield 24, 3) := by decide +kernel
theorem dX5_insert_42 : decode cX5_insert 42 = .ok (.iload_n 1, 1) := by decide +kernel
theorem dX5_insert_43 : decode cX5_insert 43 = .ok (.isub, 1) := by decide +kernel
theorem dX5_insert_44 : decode cX5_insert 44 = .ok (.bipush 12, 2) := by decide +kernel
theorem dX5_insert_46 : decode cX5_insert 46 = .ok (.imul, 1) := by decide +kernel
theorem dX5_insert_47 : decode cX5_insert 47 = .ok (.invokestatic 52, 3) := by decide +kernel
theorem dX5_insert_50 : decode cX5_insert 50 = .ok (.aload_n 0, 1) := by decide +kernel
theorem dX5_insert_51 : decode cX5_insert 51 = .ok (.getfield 21, 3) := by decide +kernel
theorem dX5_insert_54 : decode cX5_insert 54 = .ok (.iload_n 1, 1) := by decide +kernel
theorem dX5_insert_55 : decode cX5_insert 55 = .ok (.aload_n 0, 1) := by decide +kernel
theorem dX5_insert_56 : decode cX5_insert 56 = .ok (.getfield 21, 3) := by decide +kernel
theorem dX5_insert_59 : decode cX5_insert 59 = .ok (.iload_n 1, 1) := by decide +kernel
theorem dX5_insert_60 : decode cX5_insert 60 = .ok (.iconst 1, 1) := by decide +kernel
theorem dX5_insert_61 : decode cX5_insert 61 = .ok (.iadd, 1) := by decide +kernel
theorem dX5_insert_62 : decode cX5_insert 62 = .ok (.aload_n 0, 1) := by decide +kernel
theorem dX5_insert_63 : decode cX5_insert 63 = .ok (.getfield 24, 3) := by decide +kernel
theorem dX5_insert_66 : decode cX5_insert 66 = .ok (.iload_n 1, 1) := by decide +kernel
theorem dX5_insert_67 : decode cX5_insert 67 = .ok (.isub, 1) := by decide +kernel
theorem dX5_insert_68 : decode cX5_insert 68 = .ok (.invokestatic 52, 3) := by decide +kernel
theorem dX5_insert_71 : decode cX5_insert 71 = .ok (.aload_n 2, 1) := by decide +kernel
theorem dX5_insert_72 : decode cX5_insert 72 = .ok (.getfield 58, 3) := by decide +kernel
theorem dX5_insert_75 : decode cX5_insert 75 = .ok (.iconst 0, 1) := by decide +kernel
theorem dX5_insert_76 : decode cX5_insert 76 = .ok (.aload_n 0, 1) := by decide +kernel
theorem dX5_insert_77 : decode cX5_insert 77 = .ok (.getfield 15, 3) := by decide +kernel
theorem dX5_insert_80 : decode cX5_insert 80 = .ok (.iload_n 1, 1) := by decide +kernel
theorem dX5_insert_81 : decode cX5_insert 81 = .ok (.bipush 12, 2) := by decide +kernel
theorem dX5_insert_83 : decode cX5_insert 83 = .ok (.imul, 1) := by decide +kernel
theorem dX5_insert_84 : decode cX5_insert 84 = .ok (.bipush 12, 2) := by decide +kernel
theorem dX5_insert_86 : decode cX5_insert 86 = .ok (.invokestatic 52, 3) := by decide +kernel
theorem dX5_insert_89 : decode cX5_insert 89 = .ok (.aload_n 0, 1) := by decide +kernel
theorem dX5_insert_90 : decode cX5_insert 90 = .ok (.getfield 21, 3) := by decide +kernel
theorem dX5_insert_93 : decode cX5_insert 93 = .ok (.iload_n 1, 1) := by decide +kernel
theorem dX5_insert_94 : decode cX5_insert 94 = .ok (.aload_n 2, 1) := by decide +kernel
theorem dX5_insert_95 : decode cX5_insert 95 = .ok (.getfield 59, 3) := by decide +kernel
theorem dX5_insert_98 : decode cX5_insert 98 = .ok (.iastore, 1) := by decide +kernel
theorem dX5_insert_99 : decode cX5_insert 99 = .ok (.aload_n 0, 1) := by decide +kernel
theorem dX5_insert_100 : decode cX5_insert 100 = .ok (.dup, 1) := by decide +kernel
theorem dX5_insert_101 : decode cX5_insert 101 = .ok (.getfield 24, 3) := by decide +kernel
theorem dX5_insert_104 : decode cX5_insert 104 = .ok (.iconst 1, 1) := by decide +kernel
theorem dX5_insert_105 : decode cX5_insert 105 = .ok (.iadd, 1) := by decide +kernel
theorem dX5_insert_106 : decode cX5_insert 106 = .ok (.putfield 24, 3) := by decide +kernel
theorem dX5_insert_109 : decode cX5_insert 109 = .ok (.return_, 1) := by decide +kernel
theorem jm_Rows_insert {l0 : Int} {l1 : Int} {l2 : Int} {h : xH} {h0 : xH} (kl0 : xK l0 = 3 + 5) (kl2 : xK l2 = 3 + 4) (hf : f_Rows_insert l0 l1 l2 h = some h0) : J mX5_insert true 0 0 0 xKn (xen 0 [xR l0, xI l1, xR l2]) [] h (xEq none h0) := by
  unfold f_Rows_insert at hf
  refine J_cong (ls2 := [(0, xR l0), (1, xI l1), (2, xR l2)]) (st2 := []) rfl rfl ?_
  refine J_iload_n 1 dX5_insert_0 rfl rfl ?_
  refine J_if_lt (tgt := 19) dX5_insert_1 (by decide) (fun hc => ?_) (fun hc => ?_)
  · have hf := xip hc hf
    exact J_rt dX5_insert_19 rfl (xq_v hf)
  · have hf := xin' hc hf
    refine J_iload_n 1 dX5_insert_4 rfl rfl ?_
    refine J_aload_n 0 dX5_insert_5 rfl rfl ?_
    refine J_getI (j := 2) xcf5 dX5_insert_6 (xK_rg kl0) kl0 (Or.inl xq181) (by decide) (by decide) ?_
    refine J_ic_gt (tgt := 19) dX5_insert_9 (by decide) (fun hc => ?_) (fun hc => ?_)
    · have hf := xip hc hf
      exact J_rt dX5_insert_19 rfl (xq_v hf)
    · have hf := xin' hc hf
      refine J_aload_n 0 dX5_insert_12 rfl rfl ?_
      obtain ⟨r1, hq, hf⟩ := xc1_e hf
      refine J_cVi (Mc := mX5_isFull) [] dX5_insert_13 (fc_Rows_isFull.fit ⟨xbl rfl, xbl rfl⟩) rfl ⟨Or.inl xq555, xq546, xq11⟩ kl0 (ci := 5) rfl rfl (xbl rfl) (xbl rfl) (jm_Rows_isFull kl0 hq) ?_
      refine J_if_eq (tgt := 20) dX5_insert_16 (by decide) (fun hc => ?_) (fun hc => ?_)
      · have hf := xip hc hf
        refine J_aload_n 0 dX5_insert_20 rfl rfl ?_
        refine J_getRl (j := 0) xcf5 dX5_insert_21 kl0 (Or.inl xq179) (by decide) (by decide) (rfRows_0 kl0) ?_
        refine J_iload_n 1 dX5_insert_24 rfl rfl ?_
        refine J_bip dX5_insert_25 (by decide) ?_
        refine J_imul dX5_insert_27 ?_
        refine J_aload_n 0 dX5_insert_28 rfl rfl ?_
        refine J_getRl (j := 0) xcf5 dX5_insert_29 kl0 (Or.inl xq179) (by decide) (by decide) (rfRows_0 kl0) ?_
        refine J_iload_n 1 dX5_insert_32 rfl rfl ?_
        refine J_iconst dX5_insert_33 (by decide) ?_
        refine J_iadd dX5_insert_34 ?_
        refine J_bip dX5_insert_35 (by decide) ?_
        refine J_imul dX5_insert_37 ?_
        refine J_aload_n 0 dX5_insert_38 rfl rfl ?_
        refine J_getI (j := 2) xcf5 dX5_insert_39 (xK_rg kl0) kl0 (Or.inl xq181) (by decide) (by decide) ?_
        refine J_iload_n 1 dX5_insert_42 rfl rfl ?_
        refine J_isub dX5_insert_43 ?_
        refine J_bip dX5_insert_44 (by decide) ?_
        refine J_imul dX5_insert_46 ?_
        obtain ⟨hg, hf⟩ := xgc_e hf
        obtain ⟨h2, eh2, hf⟩ := xlet_e hf
        refine J_copy dX5_insert_47 ⟨xq556, xq550, xq549, xq139⟩ (xK_r1 (kRows_0 kl0)) (xK_r1 (kRows_0 kl0)) (kRows_0 kl0) (kRows_0 kl0) hg rfl rfl eh2 (xbl rfl) (xbl rfl) ?_
        refine J_aload_n 0 dX5_insert_50 rfl rfl ?_
        refine J_getRl (j := 1) xcf5 dX5_insert_51 kl0 (Or.inl xq180) (by decide) (by decide) (rfRows_1 kl0) ?_
        refine J_iload_n 1 dX5_insert_54 rfl rfl ?_
        refine J_aload_n 0 dX5_insert_55 rfl rfl ?_
        refine J_getRl (j := 1) xcf5 dX5_insert_56 kl0 (Or.inl xq180) (by decide) (by decide) (rfRows_1 kl0) ?_
        refine J_iload_n 1 dX5_insert_59 rfl rfl ?_
        refine J_iconst dX5_insert_60 (by decide) ?_
        refine J_iadd dX5_insert_61 ?_
        refine J_aload_n 0 dX5_insert_62 rfl rfl ?_
        refine J_getI (j := 2) xcf5 dX5_insert_63 (xK_rg kl0) kl0 (Or.inl xq181) (by decide) (by decide) ?_
        refine J_iload_n 1 dX5_insert_66 rfl rfl ?_
        refine J_isub dX5_insert_67 ?_
        obtain ⟨hg, hf⟩ := xgc_e hf
        obtain ⟨h3, eh3, hf⟩ := xlet_e hf
        refine J_copy dX5_insert_68 ⟨xq556, xq550, xq549, xq139⟩ (xK_r1 (kRows_1 kl0)) (xK_r1 (kRows_1 kl0)) (kRows_1 kl0) (kRows_1 kl0) hg rfl rfl eh3 (xbl rfl) (xbl rfl) ?_
        refine J_aload_n 2 dX5_insert_71 rfl rfl ?_
        refine J_getRl (j := 0) xcf4 dX5_insert_72 kl2 (Or.inr ⟨_, xq246⟩) (by decide) (by decide) (rfRow_0 kl2) ?_
        refine J_iconst dX5_insert_75 (by decide) ?_
        refine J_aload_n 0 dX5_insert_76 rfl rfl ?_
        refine J_getRl (j := 0) xcf5 dX5_insert_77 kl0 (Or.inl xq179) (by decide) (by decide) (rfRows_0 kl0) ?_
        refine J_iload_n 1 dX5_insert_80 rfl rfl ?_
        refine J_bip dX5_insert_81 (by decide) ?_
        refine J_imul dX5_insert_83 ?_
        refine J_bip dX5_insert_84 (by decide) ?_
        obtain ⟨hg, hf⟩ := xgc_e hf
        obtain ⟨h4, eh4, hf⟩ := xlet_e hf
        refine J_copy dX5_insert_86 ⟨xq556, xq550, xq549, xq139⟩ (xK_r1 (kRow_0 kl2)) (xK_r1 (kRows_0 kl0)) (kRow_0 kl2) (kRows_0 kl0) hg (nRow_0 kl2) rfl eh4 (xbl rfl) (xbl rfl) ?_
        refine J_aload_n 0 dX5_insert_89 rfl rfl ?_
        refine J_getRl (j := 1) xcf5 dX5_insert_90 kl0 (Or.inl xq180) (by decide) (by decide) (rfRows_1 kl0) ?_
        refine J_iload_n 1 dX5_insert_93 rfl rfl ?_
        refine J_aload_n 2 dX5_insert_94 rfl rfl ?_
        refine J_getI (j := 1) xcf4 dX5_insert_95 (xK_rg kl2) kl2 (Or.inr ⟨_, xq250⟩) (by decide) (by decide) ?_
        obtain ⟨hg, hf⟩ := xgd_e hf
        obtain ⟨h5, eh5, hf⟩ := xlet_e hf
        refine J_iast dX5_insert_98 (xK_r1 (kRows_1 kl0)) (kRows_1 kl0) hg rfl eh5 ?_
        refine J_aload_n 0 dX5_insert_99 rfl rfl ?_
        refine J_dup dX5_insert_100 rfl ?_
        refine J_getI (j := 2) xcf5 dX5_insert_101 (xK_rg kl0) kl0 (Or.inl xq181) (by decide) (by decide) ?_
        refine J_iconst dX5_insert_104 (by decide) ?_
        refine J_iadd dX5_insert_105 ?_
        obtain ⟨h6, eh6, hf⟩ := xlet_e hf
        refine J_putI (j := 2) xcf5 dX5_insert_106 (xK_rg kl0) kl0 (Or.inl xq181) (by decide) (by decide) eh6 ?_
        exact J_rt dX5_insert_109 rfl (xq_v hf)
      · have hf := xin' hc hf
        exact J_rt dX5_insert_19 rfl (xq_v hf)
theorem dX1_grow_0 : decode cX1_grow 0 = .ok (.aload_n 0, 1) := by decide +kernel
theorem dX1_grow_1 : decode cX1_grow 1 = .ok (.aload_n 1, 1) := by decide +kernel
theorem dX1_grow_2 : decode cX1_grow 2 = .ok (.invokevirtual 36, 3) := by decide +kernel
theorem dX1_grow_5 : decode cX1_grow 5 = .ok (.istore_n 3, 1) := by decide +kernel
theorem dX1_grow_6 : decode cX1_grow 6 = .ok (.iload_n 3, 1) := by decide +kernel
theorem dX1_grow_7 : decode cX1_grow 7 = .ok (.ifCond .lt 38, 3) := by decide +kernel
theorem dX1_grow_10 : decode cX1_grow 10 = .ok (.iload_n 3, 1) := by decide +kernel
theorem dX1_grow_11 : decode cX1_grow 11 = .ok (.aload_n 0, 1) := by decide +kernel
theorem dX1_grow_12 : decode cX1_grow 12 = .ok (.getfield 20, 3) := by decide +kernel
theorem dX1_grow_15 : decode cX1_grow 15 = .ok (.arraylength, 1) := by decide +kernel
theorem dX1_grow_16 : decode cX1_grow 16 = .ok (.if_icmp .ge 29, 3) := by decide +kernel
theorem dX1_grow_19 : decode cX1_grow 19 = .ok (.aload_n 0, 1) := by decide +kernel
theorem dX1_grow_20 : decode cX1_grow 20 = .ok (.getfield 20, 3) := by decide +kernel
theorem dX1_grow_23 : decode cX1_grow 23 = .ok (.iload_n 3, 1) := by decide +kernel
theorem dX1_grow_24 : decode cX1_grow 24 = .ok (.aload_n 0, 1) := by decide +kernel
theorem dX1_grow_25 : decode cX1_grow 25 = .ok (.getfield 20, 3) := by decide +kernel
theorem dX1_grow_28 : decode cX1_grow 28 = .ok (.iload_n 3, 1) := by decide +kernel
theorem dX1_grow_29 : decode cX1_grow 29 = .ok (.iaload, 1) := by decide +kernel
theorem dX1_grow_30 : decode cX1_grow 30 = .ok (.iload_n 2, 1) := by decide +kernel
theorem dX1_grow_31 : decode cX1_grow 31 = .ok (.iadd, 1) := by decide +kernel
theorem dX1_grow_32 : decode cX1_grow 32 = .ok (.ldc 39, 2) := by decide +kernel
theorem dX1_grow_34 : decode cX1_grow 34 = .ok (.invokestatic 40, 3) := by decide +kernel
theorem dX1_grow_37 : decode cX1_grow 37 = .ok (.iastore, 1) := by decide +kernel
theorem dX1_grow_38 : decode cX1_grow 38 = .ok (.aload_n 0, 1) := by decide +kernel
theorem dX1_grow_39 : decode cX1_grow 39 = .ok (.getfield 20, 3) := by decide +kernel
theorem dX1_grow_42 : decode cX1_grow 42 = .ok (.iload_n 3, 1) := by decide +kernel
theorem dX1_grow_43 : decode cX1_grow 43 = .ok (.iaload, 1) := by decide +kernel
theorem dX1_grow_44 : decode cX1_grow 44 = .ok (.ireturn, 1) := by decide +kernel
theorem dX1_grow_45 : decode cX1_grow 45 = .ok (.aload_n 0, 1) := by decide +kernel
theorem dX1_grow_46 : decode cX1_grow 46 = .ok (.aload_n 1, 1) := by decide +kernel
theorem dX1_grow_47 : decode cX1_grow 47 = .ok (.invokevirtual 32, 3) := by decide +kernel
theorem dX1_grow_50 : decode cX1_grow 50 = .ok (.istore 4, 2) := by decide +kernel
theorem dX1_grow_52 : decode cX1_grow 52 = .ok (.aload_n 0, 1) := by decide +kernel
theorem dX1_grow_53 : decode cX1_grow 53 = .ok (.getfield 14, 3) := by decide +kernel
theorem dX1_grow_56 : decode cX1_grow 56 = .ok (.invokevirtual 46, 3) := by decide +kernel
theorem dX1_grow_59 : decode cX1_grow 59 = .ok (.ifCond .ne 30, 3) := by decide +kernel
theorem dX1_grow_62 : decode cX1_grow 62 = .ok (.iload 4, 2) := by decide +kernel
theorem dX1_grow_64 : decode cX1_grow 64 = .ok (.ifCond .lt 25, 3) := by decide +kernel
theorem dX1_grow_67 : decode cX1_grow 67 = .ok (.iload 4, 2) := by decide +kernel
theorem dX1_grow_69 : decode cX1_grow 69 = .ok (.aload_n 0, 1) := by decide +kernel
theorem dX1_grow_70 : decode cX1_grow 70 = .ok (.getfield 14, 3) := by decide +kernel
theorem dX1_grow_73 : decode cX1_grow 73 = .ok (.getfield 24, 3) := by decide +kernel
theorem dX1_grow_76 : decode cX1_grow 76 = .ok (.if_icmp .gt 13, 3) := by decide +kernel
theorem dX1_grow_79 : decode cX1_grow 79 = .ok (.iload 4, 2) := by decide +kernel
theorem dX1_grow_81 : decode cX1_grow 81 = .ok (.aload_n 0, 1) := by decide +kernel
theorem dX1_grow_82 : decode cX1_grow 82 = .ok (.getfield 20, 3) := by decide +kernel
theorem dX1_grow_85 : decode cX1_grow 85 = .ok (.arraylength, 1) := by decide +kernel
theorem dX1_grow_86 : decode cX1_grow 86 = .ok (.if_icmp .lt 6, 3) := by decide +kernel
theorem dX1_grow_89 : decode cX1_grow 89 = .ok (.bipush (-4), 2) := by decide +kernel
theorem dX1_grow_91 : decode cX1_grow 91 = .ok (.ireturn, 1) := by decide +kernel
theorem dX1_grow_92 : decode cX1_grow 92 = .ok (.aload_n 0, 1) := by decide +kernel
theorem dX1_grow_93 : decode cX1_grow 93 = .ok (.getfield 20, 3) := by decide +kernel
theorem dX1_grow_96 : decode cX1_grow 96 = .ok (.iload 4, 2) := by decide +kernel
theorem dX1_grow_98 : decode cX1_grow 98 = .ok (.aload_n 0, 1) := by decide +kernel
theorem dX1_grow_99 : decode cX1_grow 99 = .ok (.getfield 20, 3) := by decide +kernel
theorem dX1_grow_102 : decode cX1_grow 102 = .ok (.iload 4, 2) := by decide +kernel
theorem dX1_grow_104 : decode cX1_grow 104 = .ok (.iconst 1, 1) := by decide +kernel
theorem dX1_grow_105 : decode cX1_grow 105 = .ok (.iadd, 1) := by decide +kernel
theorem dX1_grow_106 : decode cX1_grow 106 = .ok (.aload_n 0, 1) := by decide +kernel
theorem dX1_grow_107 : decode cX1_grow 107 = .ok (.getfield 14, 3) := by decide +kernel
theorem dX1_grow_110 : decode cX1_grow 110 = .ok (.getfield 24, 3) := by decide +kernel
theorem dX1_grow_113 : decode cX1_grow 113 = .ok (.iload 4, 2) := by decide +kernel
theorem dX1_grow_115 : decode cX1_grow 115 = .ok (.isub, 1) := by decide +kernel
theorem dX1_grow_116 : decode cX1_grow 116 = .ok (.invokestatic 50, 3) := by decide +kernel
theorem dX1_grow_119 : decode cX1_grow 119 = .ok (.aload_n 0, 1) := by decide +kernel
theorem dX1_grow_120 : decode cX1_grow 120 = .ok (.getfield 20, 3) := by decide +kernel
theorem dX1_grow_123 : decode cX1_grow 123 = .ok (.iload 4, 2) := by decide +kernel
theorem dX1_grow_125 : decode cX1_grow 125 = .ok (.iload_n 2, 1) := by decide +kernel
theorem dX1_grow_126 : decode cX1_grow 126 = .ok (.iastore, 1) := by decide +kernel
theorem dX1_grow_127 : decode cX1_grow 127 = .ok (.aload_n 0, 1) := by decide +kernel
theorem dX1_grow_128 : decode cX1_grow 128 = .ok (.getfield 14, 3) := by decide +kernel
theorem dX1_grow_131 : decode cX1_grow 131 = .ok (.iload 4, 2) := by decide +kernel
theorem dX1_grow_133 : decode cX1_grow 133 = .ok (.aload_n 1, 1) := by decide +kernel
theorem dX1_grow_134 : decode cX1_grow 134 = .ok (.invokevirtual 56, 3) := by decide +kernel
theorem dX1_grow_137 : decode cX1_grow 137 = .ok (.iload_n 2, 1) := by decide +kernel
theorem dX1_grow_138 : decode cX1_grow 138 = .ok (.ireturn, 1) := by decide +kernel
theorem j_Lex_grow_45 {l1 : Int} {l2 : Int} {h : xH} {r0 : Int} {h0 : xH} (kl1 : xK l1 = 3 + 4) (hf : f_Lex_grow_45 l1 l2 h = some (r0, h0))  : J mX1_grow true 0 0 45 xKn [(0, xR 4), (1, xR l1), (2, xI l2)] [] h (xEq (some r0) h0) := by
  unfold f_Lex_grow_45 at hf
  refine J_aload_n 0 dX1_grow_45 rfl rfl ?_
  refine J_aload_n 1 dX1_grow_46 rfl rfl ?_
  obtain ⟨r1, hq, hf⟩ := xc1_e hf
  refine J_cVi (Mc := mX1_place) [xR l1] dX1_grow_47 (fc_Lex_place.fit ⟨xbl rfl, xbl rfl⟩) rfl ⟨Or.inl xq524, xq526, xq7⟩ kO4 (ci := 1) rfl rfl (xbl rfl) (xbl rfl) (jm_Lex_place kl1 hq) ?_
  refine J_istore (ls' := [(4, xI r1), (0, xR 4), (1, xR l1), (2, xI l2)]) dX1_grow_50 (by decide) rfl rfl ?_
  refine J_aload_n 1 dX1_grow_52 rfl rfl ?_
  refine J_getRl (j := 0) xcf1 dX1_grow_53 kO4 (Or.inl xq194) (by decide) (by decide) rf_4_0 ?_
  obtain ⟨r2, hq, hf⟩ := xc1_e hf
  refine J_cVi (Mc := mX5_isFull) [] dX1_grow_56 (fc_Rows_isFull.fit ⟨xbl rfl, xbl rfl⟩) rfl ⟨Or.inr ⟨_, xq544⟩, xq546, xq11⟩ kO5 (ci := 5) rfl rfl (xbl rfl) (xbl rfl) (jm_Rows_isFull kO5 hq) ?_
  refine J_if_ne (tgt := 89) dX1_grow_59 (by decide) (fun hc => ?_) (fun hc => ?_)
  · have hf := xip hc hf
    refine J_iload 0 dX1_grow_62 rfl ?_
    refine J_if_lt (tgt := 89) dX1_grow_64 (by decide) (fun hc => ?_) (fun hc => ?_)
    · have hf := xip hc hf
      refine J_bip dX1_grow_89 (by decide) ?_
      exact J_ireti dX1_grow_91 rfl (xq_i hf)
    · have hf := xin' hc hf
      refine J_iload 0 dX1_grow_67 rfl ?_
      refine J_aload_n 1 dX1_grow_69 rfl rfl ?_
      refine J_getRl (j := 0) xcf1 dX1_grow_70 kO4 (Or.inl xq194) (by decide) (by decide) rf_4_0 ?_
      refine J_getI (j := 2) xcf5 dX1_grow_73 (xK_rg kO5) kO5 (Or.inr ⟨_, xq183⟩) (by decide) (by decide) ?_
      refine J_ic_gt (tgt := 89) dX1_grow_76 (by decide) (fun hc => ?_) (fun hc => ?_)
      · have hf := xip hc hf
        refine J_bip dX1_grow_89 (by decide) ?_
        exact J_ireti dX1_grow_91 rfl (xq_i hf)
      · have hf := xin' hc hf
        refine J_iload 0 dX1_grow_79 rfl ?_
        refine J_aload_n 1 dX1_grow_81 rfl rfl ?_
        refine J_getRl (j := 1) xcf1 dX1_grow_82 kO4 (Or.inl xq198) (by decide) (by decide) rf_4_1 ?_
        refine J_alen dX1_grow_85 (xK_r1 kO8) (Or.inl kO8) (by decide) nA8 ?_
        refine J_ic_lt (tgt := 92) dX1_grow_86 (by decide) (fun hc => ?_) (fun hc => ?_)
        · have hf := xip hc hf
          refine J_aload_n 1 dX1_grow_92 rfl rfl ?_
          refine J_getRl (j := 1) xcf1 dX1_grow_93 kO4 (Or.inl xq198) (by decide) (by decide) rf_4_1 ?_
          refine J_iload 0 dX1_grow_96 rfl ?_
          refine J_aload_n 1 dX1_grow_98 rfl rfl ?_
          refine J_getRl (j := 1) xcf1 dX1_grow_99 kO4 (Or.inl xq198) (by decide) (by decide) rf_4_1 ?_
          refine J_iload 0 dX1_grow_102 rfl ?_
          refine J_iconst dX1_grow_104 (by decide) ?_
          refine J_iadd dX1_grow_105 ?_
          refine J_aload_n 1 dX1_grow_106 rfl rfl ?_
          refine J_getRl (j := 0) xcf1 dX1_grow_107 kO4 (Or.inl xq194) (by decide) (by decide) rf_4_0 ?_
          refine J_getI (j := 2) xcf5 dX1_grow_110 (xK_rg kO5) kO5 (Or.inr ⟨_, xq183⟩) (by decide) (by decide) ?_
          refine J_iload 0 dX1_grow_113 rfl ?_
          refine J_isub dX1_grow_115 ?_
          obtain ⟨hg, hf⟩ := xgc_e hf
          obtain ⟨h3, eh3, hf⟩ := xlet_e hf
          refine J_copy dX1_grow_116 ⟨xq548, xq550, xq549, xq139⟩ (xK_r1 kO8) (xK_r1 kO8) kO8 kO8 hg nA8 nA8 eh3 (xbl rfl) (xbl rfl) ?_
          refine J_aload_n 1 dX1_grow_119 rfl rfl ?_
          refine J_getRl (j := 1) xcf1 dX1_grow_120 kO4 (Or.inl xq198) (by decide) (by decide) rf_4_1 ?_
          refine J_iload 0 dX1_grow_123 rfl ?_
          refine J_iload_n 3 dX1_grow_125 rfl rfl ?_
          obtain ⟨hg, hf⟩ := xgd_e hf
          obtain ⟨h4, eh4, hf⟩ := xlet_e hf
          refine J_iast dX1_grow_126 (xK_r1 kO8) kO8 hg nA8 eh4 ?_
          refine J_aload_n 1 dX1_grow_127 rfl rfl ?_
          refine J_getRl (j := 0) xcf1 dX1_grow_128 kO4 (Or.inl xq194) (by decide) (by decide) rf_4_0 ?_
          refine J_iload 0 dX1_grow_131 rfl ?_
          refine J_aload_n 2 dX1_grow_133 rfl rfl ?_
          obtain ⟨h5, hq, hf⟩ := xc1_e hf
          refine J_cVv (Mc := mX5_insert) [xI r1, xR l1] dX1_grow_134 (fc_Rows_insert.fit ⟨xbl rfl, xbl rfl⟩) rfl ⟨Or.inr ⟨_, xq551⟩, xq553, xq12⟩ kO5 (ci := 5) rfl rfl (xbl rfl) (xbl rfl) (jm_Rows_insert kO5 kl1 hq) ?_
          refine J_iload_n 3 dX1_grow_137 rfl rfl ?_
          exact J_ireti dX1_grow_138 rfl (xq_i hf)
        · have hf := xin' hc hf
          refine J_bip dX1_grow_89 (by decide) ?_
          exact J_ireti dX1_grow_91 rfl (xq_i hf)
  · have hf := xin' hc hf
    refine J_bip dX1_grow_89 (by decide) ?_
    exact J_ireti dX1_grow_91 rfl (xq_i hf)
theorem jm_Lex_grow {l1 : Int} {l2 : Int} {h : xH} {r0 : Int} {h0 : xH} (kl1 : xK l1 = 3 + 4) (hf : f_Lex_grow l1 l2 h = some (r0, h0)) : J mX1_grow true 0 0 0 xKn (xen 0 [xR 4, xR l1, xI l2]) [] h (xEq (some r0) h0) := by
  unfold f_Lex_grow at hf
  refine J_cong (ls2 := [(0, xR 4), (1, xR l1), (2, xI l2)]) (st2 := []) rfl rfl ?_
  refine J_aload_n 0 dX1_grow_0 rfl rfl ?_
  refine J_aload_n 1 dX1_grow_1 rfl rfl ?_
  obtain ⟨r1, hq, hf⟩ := xc1_e hf
  refine J_cVi (Mc := mX1_numberOf) [xR l1] dX1_grow_2 (fc_Lex_numberOf.fit ⟨xbl rfl, xbl rfl⟩) rfl ⟨Or.inl xq520, xq522, xq6⟩ kO4 (ci := 1) rfl rfl (xbl rfl) (xbl rfl) (jm_Lex_numberOf kl1 hq) ?_
  refine J_istore_n (ls' := [(3, xI r1), (0, xR 4), (1, xR l1), (2, xI l2)]) dX1_grow_5 rfl (by decide) rfl rfl ?_
  refine J_iload_n 0 dX1_grow_6 rfl rfl ?_
  refine J_if_lt (tgt := 45) dX1_grow_7 (by decide) (fun hc => ?_) (fun hc => ?_)
  · have hf := xip hc hf
    refine J_sub [1, 2, 3] rfl ?_
    exact j_Lex_grow_45 kl1 hf
  · have hf := xin' hc hf
    refine J_iload_n 0 dX1_grow_10 rfl rfl ?_
    refine J_aload_n 1 dX1_grow_11 rfl rfl ?_
    refine J_getRl (j := 1) xcf1 dX1_grow_12 kO4 (Or.inl xq198) (by decide) (by decide) rf_4_1 ?_
    refine J_alen dX1_grow_15 (xK_r1 kO8) (Or.inl kO8) (by decide) nA8 ?_
    refine J_ic_ge (tgt := 45) dX1_grow_16 (by decide) (fun hc => ?_) (fun hc => ?_)
    · have hf := xip hc hf
      refine J_aload_n 1 dX1_grow_19 rfl rfl ?_
      refine J_getRl (j := 1) xcf1 dX1_grow_20 kO4 (Or.inl xq198) (by decide) (by decide) rf_4_1 ?_
      refine J_iload_n 0 dX1_grow_23 rfl rfl ?_
      refine J_aload_n 1 dX1_grow_24 rfl rfl ?_
      refine J_getRl (j := 1) xcf1 dX1_grow_25 kO4 (Or.inl xq198) (by decide) (by decide) rf_4_1 ?_
      refine J_iload_n 0 dX1_grow_28 rfl rfl ?_
      obtain ⟨hg, hf⟩ := xgd_e hf
      refine J_iald dX1_grow_29 (xK_r1 kO8) kO8 hg nA8 ?_
      refine J_iload_n 3 dX1_grow_30 rfl rfl ?_
      refine J_iadd dX1_grow_31 ?_
      refine J_ldc (v := 100000) dX1_grow_32 xq540 (by decide) ?_
      refine J_mmin dX1_grow_34 ⟨xq541, xq542, xq129, xq543⟩ (xbl rfl) (xbl rfl) ?_
      obtain ⟨hg, hf⟩ := xgd_e hf
      obtain ⟨h2, eh2, hf⟩ := xlet_e hf
      refine J_iast dX1_grow_37 (xK_r1 kO8) kO8 hg nA8 eh2 ?_
      refine J_aload_n 1 dX1_grow_38 rfl rfl ?_
      refine J_getRl (j := 1) xcf1 dX1_grow_39 kO4 (Or.inl xq198) (by decide) (by decide) rf_4_1 ?_
      refine J_iload_n 0 dX1_grow_42 rfl rfl ?_
      obtain ⟨hg, hf⟩ := xgd_e hf
      refine J_iald dX1_grow_43 (xK_r1 kO8) kO8 hg nA8 ?_
      exact J_ireti dX1_grow_44 rfl (xq_i hf)
    · have hf := xin' hc hf
      refine J_sub [1, 2, 3] rfl ?_
      exact j_Lex_grow_45 kl1 hf
theorem dX11_add_0 : decode cX11_add 0 = .ok (.aload_n 0, 1) := by decide +kernel
theorem dX11_add_1 : decode cX11_add 1 = .ok (.getfield 12, 3) := by decide +kernel
theorem dX11_add_4 : decode cX11_add 4 = .ok (.aload_n 0, 1) := by decide +kernel
theorem dX11_add_5 : decode cX11_add 5 = .ok (.getfield 37, 3) := by decide +kernel
theorem dX11_add_8 : decode cX11_add 8 = .ok (.invokevirtual 113, 3) := by decide +kernel
theorem dX11_add_11 : decode cX11_add 11 = .ok (.istore_n 2, 1) := by decide +kernel
theorem dX11_add_12 : decode cX11_add 12 = .ok (.iload_n 2, 1) := by decide +kernel
theorem dX11_add_13 : decode cX11_add 13 = .ok (.ifCond .eq 14, 3) := by decide +kernel
theorem dX11_add_16 : decode cX11_add 16 = .ok (.iload_n 1, 1) := by decide +kernel
theorem dX11_add_17 : decode cX11_add 17 = .ok (.iconst 1, 1) := by decide +kernel
theorem dX11_add_18 : decode cX11_add 18 = .ok (.if_icmp .lt 9, 3) := by decide +kernel
theorem dX11_add_21 : decode cX11_add 21 = .ok (.iload_n 1, 1) := by decide +kernel
theorem dX11_add_22 : decode cX11_add 22 = .ok (.ldc 117, 2) := by decide +kernel
theorem dX11_add_24 : decode cX11_add 24 = .ok (.if_icmp .le 6, 3) := by decide +kernel
theorem dX11_add_27 : decode cX11_add 27 = .ok (.bipush (-2), 2) := by decide +kernel
theorem dX11_add_29 : decode cX11_add 29 = .ok (.ireturn, 1) := by decide +kernel
theorem dX11_add_30 : decode cX11_add 30 = .ok (.aload_n 0, 1) := by decide +kernel
theorem dX11_add_31 : decode cX11_add 31 = .ok (.getfield 19, 3) := by decide +kernel
theorem dX11_add_34 : decode cX11_add 34 = .ok (.aload_n 0, 1) := by decide +kernel
theorem dX11_add_35 : decode cX11_add 35 = .ok (.getfield 37, 3) := by decide +kernel
theorem dX11_add_38 : decode cX11_add 38 = .ok (.iload_n 1, 1) := by decide +kernel
theorem dX11_add_39 : decode cX11_add 39 = .ok (.invokevirtual 118, 3) := by decide +kernel
theorem dX11_add_42 : decode cX11_add 42 = .ok (.ireturn, 1) := by decide +kernel
theorem jm_WM_add {l1 : Int} {h : xH} {r0 : Int} {h0 : xH}  (hf : f_WM_add l1 h = some (r0, h0)) : J mX11_add true 0 0 0 xKn (xen 0 [xR 1, xI l1]) [] h (xEq (some r0) h0) := by
  unfold f_WM_add at hf
  refine J_cong (ls2 := [(0, xR 1), (1, xI l1)]) (st2 := []) rfl rfl ?_
  refine J_aload_n 0 dX11_add_0 rfl rfl ?_
  refine J_getRl (j := 0) xcf11 dX11_add_1 kO1 (Or.inl xq435) (by decide) (by decide) rf_1_0 ?_
  refine J_aload_n 0 dX11_add_4 rfl rfl ?_
  refine J_getRl (j := 4) xcf11 dX11_add_5 kO1 (Or.inl xq439) (by decide) (by decide) rf_1_4 ?_
  obtain ⟨r1, h2, hq, hf⟩ := xc2_e hf
  refine J_cVi (Mc := mX7_takeRow) [xR 23] dX11_add_8 (fc_Tape_takeRow.fit ⟨xbl rfl, xbl rfl⟩) rfl ⟨Or.inr ⟨_, xq499⟩, xq501, xq1⟩ kO2 (ci := 7) rfl rfl (xbl rfl) (xbl rfl) (jm_Tape_takeRow kO23 hq) ?_
  refine J_istore_n (ls' := [(2, xI r1), (0, xR 1), (1, xI l1)]) dX11_add_11 rfl (by decide) rfl rfl ?_
  refine J_iload_n 0 dX11_add_12 rfl rfl ?_
  refine J_if_eq (tgt := 27) dX11_add_13 (by decide) (fun hc => ?_) (fun hc => ?_)
  · have hf := xip hc hf
    refine J_bip dX11_add_27 (by decide) ?_
    exact J_ireti dX11_add_29 rfl (xq_i hf)
  · have hf := xin' hc hf
    refine J_iload_n 2 dX11_add_16 rfl rfl ?_
    refine J_iconst dX11_add_17 (by decide) ?_
    refine J_ic_lt (tgt := 27) dX11_add_18 (by decide) (fun hc => ?_) (fun hc => ?_)
    · have hf := xip hc hf
      refine J_bip dX11_add_27 (by decide) ?_
      exact J_ireti dX11_add_29 rfl (xq_i hf)
    · have hf := xin' hc hf
      refine J_iload_n 2 dX11_add_21 rfl rfl ?_
      refine J_ldc (v := 100000) dX11_add_22 xq515 (by decide) ?_
      refine J_ic_le (tgt := 30) dX11_add_24 (by decide) (fun hc => ?_) (fun hc => ?_)
      · have hf := xip hc hf
        refine J_bip dX11_add_27 (by decide) ?_
        exact J_ireti dX11_add_29 rfl (xq_i hf)
      · have hf := xin' hc hf
        refine J_aload_n 1 dX11_add_30 rfl rfl ?_
        refine J_getRl (j := 1) xcf11 dX11_add_31 kO1 (Or.inl xq436) (by decide) (by decide) rf_1_1 ?_
        refine J_aload_n 1 dX11_add_34 rfl rfl ?_
        refine J_getRl (j := 4) xcf11 dX11_add_35 kO1 (Or.inl xq439) (by decide) (by decide) rf_1_4 ?_
        refine J_iload_n 2 dX11_add_38 rfl rfl ?_
        obtain ⟨r3, h4, hq, hf⟩ := xc2_e hf
        refine J_cVi (Mc := mX1_grow) [xR 23, xI l1] dX11_add_39 (fc_Lex_grow.fit ⟨xbl rfl, xbl rfl⟩) rfl ⟨Or.inr ⟨_, xq516⟩, xq518, xq5⟩ kO4 (ci := 1) rfl rfl (xbl rfl) (xbl rfl) (jm_Lex_grow kO23 hq) ?_
        exact J_ireti dX11_add_42 rfl (xq_i hf)
theorem dX5_remove_0 : decode cX5_remove 0 = .ok (.iload_n 1, 1) := by decide +kernel
theorem dX5_remove_1 : decode cX5_remove 1 = .ok (.ifCond .lt 23, 3) := by decide +kernel
theorem dX5_remove_4 : decode cX5_remove 4 = .ok (.iload_n 1, 1) := by decide +kernel
theorem dX5_remove_5 : decode cX5_remove 5 = .ok (.aload_n 0, 1) := by decide +kernel
theorem dX5_remove_6 : decode cX5_remove 6 = .ok (.getfield 24, 3) := by decide +kernel
theorem dX5_remove_9 : decode cX5_remove 9 = .ok (.if_icmp .ge 15, 3) := by decide +kernel
theorem dX5_remove_12 : decode cX5_remove 12 = .ok (.aload_n 0, 1) := by decide +kernel
theorem dX5_remove_13 : decode cX5_remove 13 = .ok (.getfield 24, 3) := by decide +kernel
theorem dX5_remove_16 : decode cX5_remove 16 = .ok (.aload_n 0, 1) := by decide +kernel
theorem dX5_remove_17 : decode cX5_remove 17 = .ok (.getfield 21, 3) := by decide +kernel
theorem dX5_remove_20 : decode cX5_remove 20 = .ok (.arraylength, 1) := by decide +kernel
theorem dX5_remove_21 : decode cX5_remove 21 = .ok (.if_icmp .le 4, 3) := by decide +kernel
theorem dX5_remove_24 : decode cX5_remove 24 = .ok (.return_, 1) := by decide +kernel
theorem dX5_remove_25 : decode cX5_remove 25 = .ok (.aload_n 0, 1) := by decide +kernel
theorem dX5_remove_26 : decode cX5_remove 26 = .ok (.getfield 24, 3) := by decide +kernel
theorem dX5_remove_29 : decode cX5_remove 29 = .ok (.iload_n 1, 1) := by decide +kernel
theorem dX5_remove_30 : decode cX5_remove 30 = .ok (.isub, 1) := by decide +kernel
theorem dX5_remove_31 : decode cX5_remove 31 = .ok (.iconst 1, 1) := by decide +kernel
theorem dX5_remove_32 : decode cX5_remove 32 = .ok (.isub, 1) := by decide +kernel
theorem dX5_remove_33 : decode cX5_remove 33 = .ok (.istore_n 2, 1) := by decide +kernel
theorem dX5_remove_34 : decode cX5_remove 34 = .ok (.aload_n 0, 1) := by decide +kernel
theorem dX5_remove_35 : decode cX5_remove 35 = .ok (.getfield 15, 3) := by decide +kernel
theorem dX5_remove_38 : decode cX5_remove 38 = .ok (.iload_n 1, 1) := by decide +kernel
theorem dX5_remove_39 : decode cX5_remove 39 = .ok (.iconst 1, 1) := by decide +kernel
theorem dX5_remove_40 : decode cX5_remove 40 = .ok (.iadd, 1) := by decide +kernel
theorem dX5_remove_41 : decode cX5_remove 41 = .ok (.bipush 12, 2) := by decide +kernel
theorem dX5_remove_43 : decode cX5_remove 43 = .ok (.imul, 1) := by decide +kernel
theorem dX5_remove_44 : decode cX5_remove 44 = .ok (.aload_n 0, 1) := by decide +kernel
theorem dX5_remove_45 : decode cX5_remove 45 = .ok (.getfield 15, 3) := by decide +kernel
theorem dX5_remove_48 : decode cX5_remove 48 = .ok (.iload_n 1, 1) := by decide +kernel
theorem dX5_remove_49 : decode cX5_remove 49 = .ok (.bipush 12, 2) := by decide +kernel
theorem dX5_remove_51 : decode cX5_remove 51 = .ok (.imul, 1) := by decide +kernel
theorem dX5_remove_52 : decode cX5_remove 52 = .ok (.iload_n 2, 1) := by decide +kernel
theorem dX5_remove_53 : decode cX5_remove 53 = .ok (.bipush 12, 2) := by decide +kernel
theorem dX5_remove_55 : decode cX5_remove 55 = .ok (.imul, 1) := by decide +kernel
theorem dX5_remove_56 : decode cX5_remove 56 = .ok (.invokestatic 52, 3) := by decide +kernel
theorem dX5_remove_59 : decode cX5_remove 59 = .ok (.aload_n 0, 1) := by decide +kernel
theorem dX5_remove_60 : decode cX5_remove 60 = .ok (.getfield 21, 3) := by decide +kernel
theorem dX5_remove_63 : decode cX5_remove 63 = .ok (.iload_n 1, 1) := by decide +kernel
theorem dX5_remove_64 : decode cX5_remove 64 = .ok (.iconst 1, 1) := by decide +kernel
theorem dX5_remove_65 : decode cX5_remove 65 = .ok (.iadd, 1) := by decide +kernel
theorem dX5_remove_66 : decode cX5_remove 66 = .ok (.aload_n 0, 1) := by decide +kernel
theorem dX5_remove_67 : decode cX5_remove 67 = .ok (.getfield 21, 3) := by decide +kernel
theorem dX5_remove_70 : decode cX5_remove 70 = .ok (.iload_n 1, 1) := by decide +kernel
theorem dX5_remove_71 : decode cX5_remove 71 = .ok (.iload_n 2, 1) := by decide +kernel
theorem dX5_remove_72 : decode cX5_remove 72 = .ok (.invokestatic 52, 3) := by decide +kernel
theorem dX5_remove_75 : decode cX5_remove 75 = .ok (.aload_n 0, 1) := by decide +kernel
theorem dX5_remove_76 : decode cX5_remove 76 = .ok (.dup, 1) := by decide +kernel
theorem dX5_remove_77 : decode cX5_remove 77 = .ok (.getfield 24, 3) := by decide +kernel
theorem dX5_remove_80 : decode cX5_remove 80 = .ok (.iconst 1, 1) := by decide +kernel
theorem dX5_remove_81 : decode cX5_remove 81 = .ok (.isub, 1) := by decide +kernel
theorem dX5_remove_82 : decode cX5_remove 82 = .ok (.putfield 24, 3) := by decide +kernel
theorem dX5_remove_85 : decode cX5_remove 85 = .ok (.return_, 1) := by decide +kernel
theorem jm_Rows_remove {l0 : Int} {l1 : Int} {h : xH} {h0 : xH} (kl0 : xK l0 = 3 + 5) (hf : f_Rows_remove l0 l1 h = some h0) : J mX5_remove true 0 0 0 xKn (xen 0 [xR l0, xI l1]) [] h (xEq none h0) := by
  unfold f_Rows_remove at hf
  refine J_cong (ls2 := [(0, xR l0), (1, xI l1)]) (st2 := []) rfl rfl ?_
  refine J_iload_n 1 dX5_remove_0 rfl rfl ?_
  refine J_if_lt (tgt := 24) dX5_remove_1 (by decide) (fun hc => ?_) (fun hc => ?_)
  · have hf := xip hc hf
    exact J_rt dX5_remove_24 rfl (xq_v hf)
  · have hf := xin' hc hf
    refine J_iload_n 1 dX5_remove_4 rfl rfl ?_
    refine J_aload_n 0 dX5_remove_5 rfl rfl ?_
    refine J_getI (j := 2) xcf5 dX5_remove_6 (xK_rg kl0) kl0 (Or.inl xq181) (by decide) (by decide) ?_
    refine J_ic_ge (tgt := 24) dX5_remove_9 (by decide) (fun hc => ?_) (fun hc => ?_)
    · have hf := xip hc hf
      refine J_aload_n 0 dX5_remove_12 rfl rfl ?_
      refine J_getI (j := 2) xcf5 dX5_remove_13 (xK_rg kl0) kl0 (Or.inl xq181) (by decide) (by decide) ?_
      refine J_aload_n 0 dX5_remove_16 rfl rfl ?_
      refine J_getRl (j := 1) xcf5 dX5_remove_17 kl0 (Or.inl xq180) (by decide) (by decide) (rfRows_1 kl0) ?_
      refine J_alen dX5_remove_20 (xK_r1 (kRows_1 kl0)) (Or.inl (kRows_1 kl0)) (xNok (l0 + 2)) rfl ?_
      refine J_ic_le (tgt := 25) dX5_remove_21 (by decide) (fun hc => ?_) (fun hc => ?_)
      · have hf := xip hc hf
        exact J_rt dX5_remove_24 rfl (xq_v hf)
      · have hf := xin' hc hf
        refine J_aload_n 0 dX5_remove_25 rfl rfl ?_
        refine J_getI (j := 2) xcf5 dX5_remove_26 (xK_rg kl0) kl0 (Or.inl xq181) (by decide) (by decide) ?_
        refine J_iload_n 1 dX5_remove_29 rfl rfl ?_
        refine J_isub dX5_remove_30 ?_
        refine J_iconst dX5_remove_31 (by decide) ?_
        refine J_isub dX5_remove_32 ?_
        obtain ⟨x1, ex1, hf⟩ := xlet_e hf
        refine J_istore_n (ls' := [(2, xI x1), (0, xR l0), (1, xI l1)]) dX5_remove_33 rfl (by decide) ex1 rfl ?_
        refine J_aload_n 1 dX5_remove_34 rfl rfl ?_
        refine J_getRl (j := 0) xcf5 dX5_remove_35 kl0 (Or.inl xq179) (by decide) (by decide) (rfRows_0 kl0) ?_
        refine J_iload_n 2 dX5_remove_38 rfl rfl ?_
        refine J_iconst dX5_remove_39 (by decide) ?_
        refine J_iadd dX5_remove_40 ?_
        refine J_bip dX5_remove_41 (by decide) ?_
        refine J_imul dX5_remove_43 ?_
        refine J_aload_n 1 dX5_remove_44 rfl rfl ?_
        refine J_getRl (j := 0) xcf5 dX5_remove_45 kl0 (Or.inl xq179) (by decide) (by decide) (rfRows_0 kl0) ?_
        refine J_iload_n 2 dX5_remove_48 rfl rfl ?_
        refine J_bip dX5_remove_49 (by decide) ?_
        refine J_imul dX5_remove_51 ?_
        refine J_iload_n 0 dX5_remove_52 rfl rfl ?_
        refine J_bip dX5_remove_53 (by decide) ?_
        refine J_imul dX5_remove_55 ?_
        obtain ⟨hg, hf⟩ := xgc_e hf
        obtain ⟨h2, eh2, hf⟩ := xlet_e hf
        refine J_copy dX5_remove_56 ⟨xq556, xq550, xq549, xq139⟩ (xK_r1 (kRows_0 kl0)) (xK_r1 (kRows_0 kl0)) (kRows_0 kl0) (kRows_0 kl0) hg rfl rfl eh2 (xbl rfl) (xbl rfl) ?_
        refine J_aload_n 1 dX5_remove_59 rfl rfl ?_
        refine J_getRl (j := 1) xcf5 dX5_remove_60 kl0 (Or.inl xq180) (by decide) (by decide) (rfRows_1 kl0) ?_
        refine J_iload_n 2 dX5_remove_63 rfl rfl ?_
        refine J_iconst dX5_remove_64 (by decide) ?_
        refine J_iadd dX5_remove_65 ?_
        refine J_aload_n 1 dX5_remove_66 rfl rfl ?_
        refine J_getRl (j := 1) xcf5 dX5_remove_67 kl0 (Or.inl xq180) (by decide) (by decide) (rfRows_1 kl0) ?_
        refine J_iload_n 2 dX5_remove_70 rfl rfl ?_
        refine J_iload_n 0 dX5_remove_71 rfl rfl ?_
        obtain ⟨hg, hf⟩ := xgc_e hf
        obtain ⟨h3, eh3, hf⟩ := xlet_e hf
        refine J_copy dX5_remove_72 ⟨xq556, xq550, xq549, xq139⟩ (xK_r1 (kRows_1 kl0)) (xK_r1 (kRows_1 kl0)) (kRows_1 kl0) (kRows_1 kl0) hg rfl rfl eh3 (xbl rfl) (xbl rfl) ?_
        refine J_aload_n 1 dX5_remove_75 rfl rfl ?_
        refine J_dup dX5_remove_76 rfl ?_
        refine J_getI (j := 2) xcf5 dX5_remove_77 (xK_rg kl0) kl0 (Or.inl xq181) (by decide) (by decide) ?_
        refine J_iconst dX5_remove_80 (by decide) ?_
        refine J_isub dX5_remove_81 ?_
        obtain ⟨h4, eh4, hf⟩ := xlet_e hf
        refine J_putI (j := 2) xcf5 dX5_remove_82 (xK_rg kl0) kl0 (Or.inl xq181) (by decide) (by decide) eh4 ?_
        exact J_rt dX5_remove_85 rfl (xq_v hf)
    · have hf := xin' hc hf
      exact J_rt dX5_remove_24 rfl (xq_v hf)
theorem dX1_remove_0 : decode cX1_remove 0 = .ok (.aload_n 0, 1) := by decide +kernel
theorem dX1_remove_1 : decode cX1_remove 1 = .ok (.aload_n 1, 1) := by decide +kernel
theorem dX1_remove_2 : decode cX1_remove 2 = .ok (.invokevirtual 36, 3) := by decide +kernel
theorem dX1_remove_5 : decode cX1_remove 5 = .ok (.istore_n 2, 1) := by decide +kernel
theorem dX1_remove_6 : decode cX1_remove 6 = .ok (.iload_n 2, 1) := by decide +kernel
theorem dX1_remove_7 : decode cX1_remove 7 = .ok (.ifCond .lt 12, 3) := by decide +kernel
theorem dX1_remove_10 : decode cX1_remove 10 = .ok (.iload_n 2, 1) := by decide +kernel
theorem dX1_remove_11 : decode cX1_remove 11 = .ok (.aload_n 0, 1) := by decide +kernel
theorem dX1_remove_12 : decode cX1_remove 12 = .ok (.getfield 20, 3) := by decide +kernel
theorem dX1_remove_15 : decode cX1_remove 15 = .ok (.arraylength, 1) := by decide +kernel
theorem dX1_remove_16 : decode cX1_remove 16 = .ok (.if_icmp .lt 5, 3) := by decide +kernel
theorem dX1_remove_19 : decode cX1_remove 19 = .ok (.iconst 0, 1) := by decide +kernel
theorem dX1_remove_20 : decode cX1_remove 20 = .ok (.ireturn, 1) := by decide +kernel
theorem dX1_remove_21 : decode cX1_remove 21 = .ok (.aload_n 0, 1) := by decide +kernel
theorem dX1_remove_22 : decode cX1_remove 22 = .ok (.getfield 20, 3) := by decide +kernel
theorem dX1_remove_25 : decode cX1_remove 25 = .ok (.iload_n 2, 1) := by decide +kernel
theorem dX1_remove_26 : decode cX1_remove 26 = .ok (.iaload, 1) := by decide +kernel
theorem dX1_remove_27 : decode cX1_remove 27 = .ok (.istore_n 3, 1) := by decide +kernel
theorem dX1_remove_28 : decode cX1_remove 28 = .ok (.aload_n 0, 1) := by decide +kernel
theorem dX1_remove_29 : decode cX1_remove 29 = .ok (.getfield 20, 3) := by decide +kernel
theorem dX1_remove_32 : decode cX1_remove 32 = .ok (.iload_n 2, 1) := by decide +kernel
theorem dX1_remove_33 : decode cX1_remove 33 = .ok (.iconst 1, 1) := by decide +kernel
theorem dX1_remove_34 : decode cX1_remove 34 = .ok (.iadd, 1) := by decide +kernel
theorem dX1_remove_35 : decode cX1_remove 35 = .ok (.aload_n 0, 1) := by decide +kernel
theorem dX1_remove_36 : decode cX1_remove 36 = .ok (.getfield 20, 3) := by decide +kernel
theorem dX1_remove_39 : decode cX1_remove 39 = .ok (.iload_n 2, 1) := by decide +kernel
theorem dX1_remove_40 : decode cX1_remove 40 = .ok (.aload_n 0, 1) := by decide +kernel
theorem dX1_remove_41 : decode cX1_remove 41 = .ok (.getfield 14, 3) := by decide +kernel
theorem dX1_remove_44 : decode cX1_remove 44 = .ok (.getfield 24, 3) := by decide +kernel
theorem dX1_remove_47 : decode cX1_remove 47 = .ok (.iload_n 2, 1) := by decide +kernel
theorem dX1_remove_48 : decode cX1_remove 48 = .ok (.isub, 1) := by decide +kernel
theorem dX1_remove_49 : decode cX1_remove 49 = .ok (.iconst 1, 1) := by decide +kernel
theorem dX1_remove_50 : decode cX1_remove 50 = .ok (.isub, 1) := by decide +kernel
theorem dX1_remove_51 : decode cX1_remove 51 = .ok (.invokestatic 50, 3) := by decide +kernel
theorem dX1_remove_54 : decode cX1_remove 54 = .ok (.aload_n 0, 1) := by decide +kernel
theorem dX1_remove_55 : decode cX1_remove 55 = .ok (.getfield 14, 3) := by decide +kernel
theorem dX1_remove_58 : decode cX1_remove 58 = .ok (.iload_n 2, 1) := by decide +kernel
theorem dX1_remove_59 : decode cX1_remove 59 = .ok (.invokevirtual 60, 3) := by decide +kernel
theorem dX1_remove_62 : decode cX1_remove 62 = .ok (.iload_n 3, 1) := by decide +kernel
theorem dX1_remove_63 : decode cX1_remove 63 = .ok (.ireturn, 1) := by decide +kernel
theorem jm_Lex_remove {l1 : Int} {h : xH} {r0 : Int} {h0 : xH} (kl1 : xK l1 = 3 + 4) (hf : f_Lex_remove l1 h = some (r0, h0)) : J mX1_remove true 0 0 0 xKn (xen 0 [xR 4, xR l1]) [] h (xEq (some r0) h0) := by
  unfold f_Lex_remove at hf
  refine J_cong (ls2 := [(0, xR 4), (1, xR l1)]) (st2 := []) rfl rfl ?_
  refine J_aload_n 0 dX1_remove_0 rfl rfl ?_
  refine J_aload_n 1 dX1_remove_1 rfl rfl ?_
  obtain ⟨r1, hq, hf⟩ := xc1_e hf
  refine J_cVi (Mc := mX1_numberOf) [xR l1] dX1_remove_2 (fc_Lex_numberOf.fit ⟨xbl rfl, xbl rfl⟩) rfl ⟨Or.inl xq520, xq522, xq6⟩ kO4 (ci := 1) rfl rfl (xbl rfl) (xbl rfl) (jm_Lex_numberOf kl1 hq) ?_
  refine J_istore_n (ls' := [(2, xI r1), (0, xR 4), (1, xR l1)]) dX1_remove_5 rfl (by decide) rfl rfl ?_
  refine J_iload_n 0 dX1_remove_6 rfl rfl ?_
  refine J_if_lt (tgt := 19) dX1_remove_7 (by decide) (fun hc => ?_) (fun hc => ?_)
  · have hf := xip hc hf
    refine J_iconst dX1_remove_19 (by decide) ?_
    exact J_ireti dX1_remove_20 rfl (xq_i hf)
  · have hf := xin' hc hf
    refine J_iload_n 0 dX1_remove_10 rfl rfl ?_
    refine J_aload_n 1 dX1_remove_11 rfl rfl ?_
    refine J_getRl (j := 1) xcf1 dX1_remove_12 kO4 (Or.inl xq198) (by decide) (by decide) rf_4_1 ?_
    refine J_alen dX1_remove_15 (xK_r1 kO8) (Or.inl kO8) (by decide) nA8 ?_
    refine J_ic_lt (tgt := 21) dX1_remove_16 (by decide) (fun hc => ?_) (fun hc => ?_)
    · have hf := xip hc hf
      refine J_aload_n 1 dX1_remove_21 rfl rfl ?_
      refine J_getRl (j := 1) xcf1 dX1_remove_22 kO4 (Or.inl xq198) (by decide) (by decide) rf_4_1 ?_
      refine J_iload_n 0 dX1_remove_25 rfl rfl ?_
      obtain ⟨hg, hf⟩ := xgd_e hf
      refine J_iald dX1_remove_26 (xK_r1 kO8) kO8 hg nA8 ?_
      obtain ⟨x2, ex2, hf⟩ := xlet_e hf
      refine J_istore_n (ls' := [(3, xI x2), (2, xI r1), (0, xR 4), (1, xR l1)]) dX1_remove_27 rfl (by decide) ex2 rfl ?_
      refine J_aload_n 2 dX1_remove_28 rfl rfl ?_
      refine J_getRl (j := 1) xcf1 dX1_remove_29 kO4 (Or.inl xq198) (by decide) (by decide) rf_4_1 ?_
      refine J_iload_n 1 dX1_remove_32 rfl rfl ?_
      refine J_iconst dX1_remove_33 (by decide) ?_
      refine J_iadd dX1_remove_34 ?_
      refine J_aload_n 2 dX1_remove_35 rfl rfl ?_
      refine J_getRl (j := 1) xcf1 dX1_remove_36 kO4 (Or.inl xq198) (by decide) (by decide) rf_4_1 ?_
      refine J_iload_n 1 dX1_remove_39 rfl rfl ?_
      refine J_aload_n 2 dX1_remove_40 rfl rfl ?_
      refine J_getRl (j := 0) xcf1 dX1_remove_41 kO4 (Or.inl xq194) (by decide) (by decide) rf_4_0 ?_
      refine J_getI (j := 2) xcf5 dX1_remove_44 (xK_rg kO5) kO5 (Or.inr ⟨_, xq183⟩) (by decide) (by decide) ?_
      refine J_iload_n 1 dX1_remove_47 rfl rfl ?_
      refine J_isub dX1_remove_48 ?_
      refine J_iconst dX1_remove_49 (by decide) ?_
      refine J_isub dX1_remove_50 ?_
      obtain ⟨hg, hf⟩ := xgc_e hf
      obtain ⟨h3, eh3, hf⟩ := xlet_e hf
      refine J_copy dX1_remove_51 ⟨xq548, xq550, xq549, xq139⟩ (xK_r1 kO8) (xK_r1 kO8) kO8 kO8 hg nA8 nA8 eh3 (xbl rfl) (xbl rfl) ?_
      refine J_aload_n 2 dX1_remove_54 rfl rfl ?_
      refine J_getRl (j := 0) xcf1 dX1_remove_55 kO4 (Or.inl xq194) (by decide) (by decide) rf_4_0 ?_
      refine J_iload_n 1 dX1_remove_58 rfl rfl ?_
      obtain ⟨h4, hq, hf⟩ := xc1_e hf
      refine J_cVv (Mc := mX5_remove) [xI r1] dX1_remove_59 (fc_Rows_remove.fit ⟨xbl rfl, xbl rfl⟩) rfl ⟨Or.inr ⟨_, xq565⟩, xq567, xq14⟩ kO5 (ci := 5) rfl rfl (xbl rfl) (xbl rfl) (jm_Rows_remove kO5 hq) ?_
      refine J_iload_n 0 dX1_remove_62 rfl rfl ?_
      exact J_ireti dX1_remove_63 rfl (xq_i hf)
    · have hf := xin' hc hf
      refine J_iconst dX1_remove_19 (by decide) ?_
      exact J_ireti dX1_remove_20 rfl (xq_i hf)
theorem dX11_drop_0 : decode cX11_drop 0 = .ok (.aload_n 0, 1) := by decide +kernel
theorem dX11_drop_1 : decode cX11_drop 1 = .ok (.getfield 12, 3) := by decide +kernel
theorem dX11_drop_4 : decode cX11_drop 4 = .ok (.aload_n 0, 1) := by decide +kernel
theorem dX11_drop_5 : decode cX11_drop 5 = .ok (.getfield 37, 3) := by decide +kernel
theorem dX11_drop_8 : decode cX11_drop 8 = .ok (.invokevirtual 113, 3) := by decide +kernel
theorem dX11_drop_11 : decode cX11_drop 11 = .ok (.ifCond .eq 17, 3) := by decide +kernel
theorem dX11_drop_14 : decode cX11_drop 14 = .ok (.aload_n 0, 1) := by decide +kernel
theorem dX11_drop_15 : decode cX11_drop 15 = .ok (.getfield 19, 3) := by decide +kernel
theorem dX11_drop_18 : decode cX11_drop 18 = .ok (.aload_n 0, 1) := by decide +kernel
theorem dX11_drop_19 : decode cX11_drop 19 = .ok (.getfield 37, 3) := by decide +kernel
theorem dX11_drop_22 : decode cX11_drop 22 = .ok (.invokevirtual 122, 3) := by decide +kernel
theorem dX11_drop_25 : decode cX11_drop 25 = .ok (.goto 5, 3) := by decide +kernel
theorem dX11_drop_28 : decode cX11_drop 28 = .ok (.bipush (-2), 2) := by decide +kernel
theorem dX11_drop_30 : decode cX11_drop 30 = .ok (.ireturn, 1) := by decide +kernel
theorem jm_WM_drop  {h : xH} {r0 : Int} {h0 : xH}  (hf : f_WM_drop h = some (r0, h0)) : J mX11_drop true 0 0 0 xKn (xen 0 [xR 1]) [] h (xEq (some r0) h0) := by
  unfold f_WM_drop at hf
  refine J_cong (ls2 := [(0, xR 1)]) (st2 := []) rfl rfl ?_
  refine J_aload_n 0 dX11_drop_0 rfl rfl ?_
  refine J_getRl (j := 0) xcf11 dX11_drop_1 kO1 (Or.inl xq435) (by decide) (by decide) rf_1_0 ?_
  refine J_aload_n 0 dX11_drop_4 rfl rfl ?_
  refine J_getRl (j := 4) xcf11 dX11_drop_5 kO1 (Or.inl xq439) (by decide) (by decide) rf_1_4 ?_
  obtain ⟨r1, h2, hq, hf⟩ := xc2_e hf
  refine J_cVi (Mc := mX7_takeRow) [xR 23] dX11_drop_8 (fc_Tape_takeRow.fit ⟨xbl rfl, xbl rfl⟩) rfl ⟨Or.inr ⟨_, xq499⟩, xq501, xq1⟩ kO2 (ci := 7) rfl rfl (xbl rfl) (xbl rfl) (jm_Tape_takeRow kO23 hq) ?_
  refine J_if_eq (tgt := 28) dX11_drop_11 (by decide) (fun hc => ?_) (fun hc => ?_)
  · have hf := xip hc hf
    refine J_bip dX11_drop_28 (by decide) ?_
    exact J_ireti dX11_drop_30 rfl (xq_i hf)
  · have hf := xin' hc hf
    refine J_aload_n 0 dX11_drop_14 rfl rfl ?_
    refine J_getRl (j := 1) xcf11 dX11_drop_15 kO1 (Or.inl xq436) (by decide) (by decide) rf_1_1 ?_
    refine J_aload_n 0 dX11_drop_18 rfl rfl ?_
    refine J_getRl (j := 4) xcf11 dX11_drop_19 kO1 (Or.inl xq439) (by decide) (by decide) rf_1_4 ?_
    obtain ⟨r3, h4, hq, hf⟩ := xc2_e hf
    refine J_cVi (Mc := mX1_remove) [xR 23] dX11_drop_22 (fc_Lex_remove.fit ⟨xbl rfl, xbl rfl⟩) rfl ⟨Or.inr ⟨_, xq561⟩, xq563, xq13⟩ kO4 (ci := 1) rfl rfl (xbl rfl) (xbl rfl) (jm_Lex_remove kO23 hq) ?_
    refine J_goto (tgt := 30) dX11_drop_25 (by decide) ?_
    exact J_ireti dX11_drop_30 rfl (xq_i hf)
theorem dX11_find_0 : decode cX11_find 0 = .ok (.aload_n 0, 1) := by decide +kernel
theorem dX11_find_1 : decode cX11_find 1 = .ok (.getfield 12, 3) := by decide +kernel
theorem dX11_find_4 : decode cX11_find 4 = .ok (.aload_n 0, 1) := by decide +kernel
theorem dX11_find_5 : decode cX11_find 5 = .ok (.getfield 37, 3) := by decide +kernel
theorem dX11_find_8 : decode cX11_find 8 = .ok (.invokevirtual 113, 3) := by decide +kernel
theorem dX11_find_11 : decode cX11_find 11 = .ok (.ifCond .eq 17, 3) := by decide +kernel
theorem dX11_find_14 : decode cX11_find 14 = .ok (.aload_n 0, 1) := by decide +kernel
theorem dX11_find_15 : decode cX11_find 15 = .ok (.getfield 19, 3) := by decide +kernel
theorem dX11_find_18 : decode cX11_find 18 = .ok (.aload_n 0, 1) := by decide +kernel
theorem dX11_find_19 : decode cX11_find 19 = .ok (.getfield 37, 3) := by decide +kernel
theorem dX11_find_22 : decode cX11_find 22 = .ok (.invokevirtual 126, 3) := by decide +kernel
theorem dX11_find_25 : decode cX11_find 25 = .ok (.goto 5, 3) := by decide +kernel
theorem dX11_find_28 : decode cX11_find 28 = .ok (.bipush (-2), 2) := by decide +kernel
theorem dX11_find_30 : decode cX11_find 30 = .ok (.ireturn, 1) := by decide +kernel
theorem jm_WM_find  {h : xH} {r0 : Int} {h0 : xH}  (hf : f_WM_find h = some (r0, h0)) : J mX11_find true 0 0 0 xKn (xen 0 [xR 1]) [] h (xEq (some r0) h0) := by
  unfold f_WM_find at hf
  refine J_cong (ls2 := [(0, xR 1)]) (st2 := []) rfl rfl ?_
  refine J_aload_n 0 dX11_find_0 rfl rfl ?_
  refine J_getRl (j := 0) xcf11 dX11_find_1 kO1 (Or.inl xq435) (by decide) (by decide) rf_1_0 ?_
  refine J_aload_n 0 dX11_find_4 rfl rfl ?_
  refine J_getRl (j := 4) xcf11 dX11_find_5 kO1 (Or.inl xq439) (by decide) (by decide) rf_1_4 ?_
  obtain ⟨r1, h2, hq, hf⟩ := xc2_e hf
  refine J_cVi (Mc := mX7_takeRow) [xR 23] dX11_find_8 (fc_Tape_takeRow.fit ⟨xbl rfl, xbl rfl⟩) rfl ⟨Or.inr ⟨_, xq499⟩, xq501, xq1⟩ kO2 (ci := 7) rfl rfl (xbl rfl) (xbl rfl) (jm_Tape_takeRow kO23 hq) ?_
  refine J_if_eq (tgt := 28) dX11_find_11 (by decide) (fun hc => ?_) (fun hc => ?_)
  · have hf := xip hc hf
    refine J_bip dX11_find_28 (by decide) ?_
    exact J_ireti dX11_find_30 rfl (xq_i hf)
  · have hf := xin' hc hf
    refine J_aload_n 0 dX11_find_14 rfl rfl ?_
    refine J_getRl (j := 1) xcf11 dX11_find_15 kO1 (Or.inl xq436) (by decide) (by decide) rf_1_1 ?_
    refine J_aload_n 0 dX11_find_18 rfl rfl ?_
    refine J_getRl (j := 4) xcf11 dX11_find_19 kO1 (Or.inl xq439) (by decide) (by decide) rf_1_4 ?_
    obtain ⟨r3, hq, hf⟩ := xc1_e hf
    refine J_cVi (Mc := mX1_numberOf) [xR 23] dX11_find_22 (fc_Lex_numberOf.fit ⟨xbl rfl, xbl rfl⟩) rfl ⟨Or.inr ⟨_, xq573⟩, xq522, xq6⟩ kO4 (ci := 1) rfl rfl (xbl rfl) (xbl rfl) (jm_Lex_numberOf kO23 hq) ?_
    refine J_goto (tgt := 30) dX11_find_25 (by decide) ?_
    exact J_ireti dX11_find_30 rfl (xq_i hf)
theorem dX1_countOf_0 : decode cX1_countOf 0 = .ok (.iload_n 1, 1) := by decide +kernel
theorem dX1_countOf_1 : decode cX1_countOf 1 = .ok (.ifCond .lt 21, 3) := by decide +kernel
theorem dX1_countOf_4 : decode cX1_countOf 4 = .ok (.iload_n 1, 1) := by decide +kernel
theorem dX1_countOf_5 : decode cX1_countOf 5 = .ok (.aload_n 0, 1) := by decide +kernel
theorem dX1_countOf_6 : decode cX1_countOf 6 = .ok (.getfield 20, 3) := by decide +kernel
theorem dX1_countOf_9 : decode cX1_countOf 9 = .ok (.arraylength, 1) := by decide +kernel
theorem dX1_countOf_10 : decode cX1_countOf 10 = .ok (.if_icmp .ge 12, 3) := by decide +kernel
theorem dX1_countOf_13 : decode cX1_countOf 13 = .ok (.aload_n 0, 1) := by decide +kernel
theorem dX1_countOf_14 : decode cX1_countOf 14 = .ok (.getfield 20, 3) := by decide +kernel
theorem dX1_countOf_17 : decode cX1_countOf 17 = .ok (.iload_n 1, 1) := by decide +kernel
theorem dX1_countOf_18 : decode cX1_countOf 18 = .ok (.iaload, 1) := by decide +kernel
theorem dX1_countOf_19 : decode cX1_countOf 19 = .ok (.goto 4, 3) := by decide +kernel
theorem dX1_countOf_22 : decode cX1_countOf 22 = .ok (.iconst 0, 1) := by decide +kernel
theorem dX1_countOf_23 : decode cX1_countOf 23 = .ok (.ireturn, 1) := by decide +kernel
theorem jm_Lex_countOf {l1 : Int} {h : xH} {r0 : Int}  (hf : f_Lex_countOf l1 h = some r0) : J mX1_countOf true 0 0 0 xKn (xen 0 [xR 4, xI l1]) [] h (xEq (some r0) h) := by
  unfold f_Lex_countOf at hf
  refine J_cong (ls2 := [(0, xR 4), (1, xI l1)]) (st2 := []) rfl rfl ?_
  refine J_iload_n 1 dX1_countOf_0 rfl rfl ?_
  refine J_if_lt (tgt := 22) dX1_countOf_1 (by decide) (fun hc => ?_) (fun hc => ?_)
  · have hf := xip hc hf
    refine J_iconst dX1_countOf_22 (by decide) ?_
    exact J_ireti dX1_countOf_23 rfl (xq_p hf)
  · have hf := xin' hc hf
    refine J_iload_n 1 dX1_countOf_4 rfl rfl ?_
    refine J_aload_n 0 dX1_countOf_5 rfl rfl ?_
    refine J_getRl (j := 1) xcf1 dX1_countOf_6 kO4 (Or.inl xq198) (by decide) (by decide) rf_4_1 ?_
    refine J_alen dX1_countOf_9 (xK_r1 kO8) (Or.inl kO8) (by decide) nA8 ?_
    refine J_ic_ge (tgt := 22) dX1_countOf_10 (by decide) (fun hc => ?_) (fun hc => ?_)
    · have hf := xip hc hf
      refine J_aload_n 0 dX1_countOf_13 rfl rfl ?_
      refine J_getRl (j := 1) xcf1 dX1_countOf_14 kO4 (Or.inl xq198) (by decide) (by decide) rf_4_1 ?_
      refine J_iload_n 1 dX1_countOf_17 rfl rfl ?_
      obtain ⟨hg, hf⟩ := xgd_e hf
      refine J_iald dX1_countOf_18 (xK_r1 kO8) kO8 hg nA8 ?_
      refine J_goto (tgt := 23) dX1_countOf_19 (by decide) ?_
      exact J_ireti dX1_countOf_23 rfl (xq_p hf)
    · have hf := xin' hc hf
      refine J_iconst dX1_countOf_22 (by decide) ?_
      exact J_ireti dX1_countOf_23 rfl (xq_p hf)
theorem dX5_sizeOf_0 : decode cX5_sizeOf 0 = .ok (.iload_n 1, 1) := by decide +kernel
theorem dX5_sizeOf_1 : decode cX5_sizeOf 1 = .ok (.ifCond .lt 29, 3) := by decide +kernel
theorem dX5_sizeOf_4 : decode cX5_sizeOf 4 = .ok (.iload_n 1, 1) := by decide +kernel
theorem dX5_sizeOf_5 : decode cX5_sizeOf 5 = .ok (.aload_n 0, 1) := by decide +kernel
theorem dX5_sizeOf_6 : decode cX5_sizeOf 6 = .ok (.getfield 24, 3) := by decide +kernel
theorem dX5_sizeOf_9 : decode cX5_sizeOf 9 = .ok (.if_icmp .ge 21, 3) := by decide +kernel
theorem dX5_sizeOf_12 : decode cX5_sizeOf 12 = .ok (.iload_n 1, 1) := by decide +kernel
theorem dX5_sizeOf_13 : decode cX5_sizeOf 13 = .ok (.aload_n 0, 1) := by decide +kernel
theorem dX5_sizeOf_14 : decode cX5_sizeOf 14 = .ok (.getfield 21, 3) := by decide +kernel
theorem dX5_sizeOf_17 : decode cX5_sizeOf 17 = .ok (.arraylength, 1) := by decide +kernel
theorem dX5_sizeOf_18 : decode cX5_sizeOf 18 = .ok (.if_icmp .ge 12, 3) := by decide +kernel
theorem dX5_sizeOf_21 : decode cX5_sizeOf 21 = .ok (.aload_n 0, 1) := by decide +kernel
theorem dX5_sizeOf_22 : decode cX5_sizeOf 22 = .ok (.getfield 21, 3) := by decide +kernel
theorem dX5_sizeOf_25 : decode cX5_sizeOf 25 = .ok (.iload_n 1, 1) := by decide +kernel
theorem dX5_sizeOf_26 : decode cX5_sizeOf 26 = .ok (.iaload, 1) := by decide +kernel
theorem dX5_sizeOf_27 : decode cX5_sizeOf 27 = .ok (.goto 4, 3) := by decide +kernel
theorem dX5_sizeOf_30 : decode cX5_sizeOf 30 = .ok (.iconst 0, 1) := by decide +kernel
theorem dX5_sizeOf_31 : decode cX5_sizeOf 31 = .ok (.ireturn, 1) := by decide +kernel
theorem jm_Rows_sizeOf {l0 : Int} {l1 : Int} {h : xH} {r0 : Int} (kl0 : xK l0 = 3 + 5) (hf : f_Rows_sizeOf l0 l1 h = some r0) : J mX5_sizeOf true 0 0 0 xKn (xen 0 [xR l0, xI l1]) [] h (xEq (some r0) h) := by
  unfold f_Rows_sizeOf at hf
  refine J_cong (ls2 := [(0, xR l0), (1, xI l1)]) (st2 := []) rfl rfl ?_
  refine J_iload_n 1 dX5_sizeOf_0 rfl rfl ?_
  refine J_if_lt (tgt := 30) dX5_sizeOf_1 (by decide) (fun hc => ?_) (fun hc => ?_)
  · have hf := xip hc hf
    refine J_iconst dX5_sizeOf_30 (by decide) ?_
    exact J_ireti dX5_sizeOf_31 rfl (xq_p hf)
  · have hf := xin' hc hf
    refine J_iload_n 1 dX5_sizeOf_4 rfl rfl ?_
    refine J_aload_n 0 dX5_sizeOf_5 rfl rfl ?_
    refine J_getI (j := 2) xcf5 dX5_sizeOf_6 (xK_rg kl0) kl0 (Or.inl xq181) (by decide) (by decide) ?_
    refine J_ic_ge (tgt := 30) dX5_sizeOf_9 (by decide) (fun hc => ?_) (fun hc => ?_)
    · have hf := xip hc hf
      refine J_iload_n 1 dX5_sizeOf_12 rfl rfl ?_
      refine J_aload_n 0 dX5_sizeOf_13 rfl rfl ?_
      refine J_getRl (j := 1) xcf5 dX5_sizeOf_14 kl0 (Or.inl xq180) (by decide) (by decide) (rfRows_1 kl0) ?_
      refine J_alen dX5_sizeOf_17 (xK_r1 (kRows_1 kl0)) (Or.inl (kRows_1 kl0)) (xNok (l0 + 2)) rfl ?_
      refine J_ic_ge (tgt := 30) dX5_sizeOf_18 (by decide) (fun hc => ?_) (fun hc => ?_)
      · have hf := xip hc hf
        refine J_aload_n 0 dX5_sizeOf_21 rfl rfl ?_
        refine J_getRl (j := 1) xcf5 dX5_sizeOf_22 kl0 (Or.inl xq180) (by decide) (by decide) (rfRows_1 kl0) ?_
        refine J_iload_n 1 dX5_sizeOf_25 rfl rfl ?_
        obtain ⟨hg, hf⟩ := xgd_e hf
        refine J_iald dX5_sizeOf_26 (xK_r1 (kRows_1 kl0)) (kRows_1 kl0) hg rfl ?_
        refine J_goto (tgt := 31) dX5_sizeOf_27 (by decide) ?_
        exact J_ireti dX5_sizeOf_31 rfl (xq_p hf)
      · have hf := xin' hc hf
        refine J_iconst dX5_sizeOf_30 (by decide) ?_
        exact J_ireti dX5_sizeOf_31 rfl (xq_p hf)
    · have hf := xin' hc hf
      refine J_iconst dX5_sizeOf_30 (by decide) ?_
      exact J_ireti dX5_sizeOf_31 rfl (xq_p hf)
theorem dX11_word_0 : decode cX11_word 0 = .ok (.iload_n 1, 1) := by decide +kernel
theorem dX11_word_1 : decode cX11_word 1 = .ok (.ifCond .lt 21, 3) := by decide +kernel
theorem dX11_word_4 : decode cX11_word 4 = .ok (.iload_n 1, 1) := by decide +kernel
theorem dX11_word_5 : decode cX11_word 5 = .ok (.aload_n 0, 1) := by decide +kernel
theorem dX11_word_6 : decode cX11_word 6 = .ok (.getfield 19, 3) := by decide +kernel
theorem dX11_word_9 : decode cX11_word 9 = .ok (.getfield 129, 3) := by decide +kernel
theorem dX11_word_12 : decode cX11_word 12 = .ok (.getfield 132, 3) := by decide +kernel
theorem dX11_word_15 : decode cX11_word 15 = .ok (.if_icmp .ge 7, 3) := by decide +kernel
theorem dX11_word_18 : decode cX11_word 18 = .ok (.iload_n 2, 1) := by decide +kernel
theorem dX11_word_19 : decode cX11_word 19 = .ok (.ifCond .ge 6, 3) := by decide +kernel
theorem dX11_word_22 : decode cX11_word 22 = .ok (.bipush (-2), 2) := by decide +kernel
theorem dX11_word_24 : decode cX11_word 24 = .ok (.ireturn, 1) := by decide +kernel
theorem dX11_word_25 : decode cX11_word 25 = .ok (.iload_n 2, 1) := by decide +kernel
theorem dX11_word_26 : decode cX11_word 26 = .ok (.ifCond .ne 12, 3) := by decide +kernel
theorem dX11_word_29 : decode cX11_word 29 = .ok (.aload_n 0, 1) := by decide +kernel
theorem dX11_word_30 : decode cX11_word 30 = .ok (.getfield 19, 3) := by decide +kernel
theorem dX11_word_33 : decode cX11_word 33 = .ok (.iload_n 1, 1) := by decide +kernel
theorem dX11_word_34 : decode cX11_word 34 = .ok (.invokevirtual 136, 3) := by decide +kernel
theorem dX11_word_37 : decode cX11_word 37 = .ok (.ireturn, 1) := by decide +kernel
theorem dX11_word_38 : decode cX11_word 38 = .ok (.iload_n 2, 1) := by decide +kernel
theorem dX11_word_39 : decode cX11_word 39 = .ok (.iconst 1, 1) := by decide +kernel
theorem dX11_word_40 : decode cX11_word 40 = .ok (.if_icmp .ne 17, 3) := by decide +kernel
theorem dX11_word_43 : decode cX11_word 43 = .ok (.aload_n 0, 1) := by decide +kernel
theorem dX11_word_44 : decode cX11_word 44 = .ok (.getfield 19, 3) := by decide +kernel
theorem dX11_word_47 : decode cX11_word 47 = .ok (.getfield 129, 3) := by decide +kernel
theorem dX11_word_50 : decode cX11_word 50 = .ok (.iload_n 1, 1) := by decide +kernel
theorem dX11_word_51 : decode cX11_word 51 = .ok (.invokevirtual 140, 3) := by decide +kernel
theorem dX11_word_54 : decode cX11_word 54 = .ok (.goto 17, 3) := by decide +kernel
theorem dX11_word_57 : decode cX11_word 57 = .ok (.aload_n 0, 1) := by decide +kernel
theorem dX11_word_58 : decode cX11_word 58 = .ok (.getfield 19, 3) := by decide +kernel
theorem dX11_word_61 : decode cX11_word 61 = .ok (.getfield 129, 3) := by decide +kernel
theorem dX11_word_64 : decode cX11_word 64 = .ok (.iload_n 1, 1) := by decide +kernel
theorem dX11_word_65 : decode cX11_word 65 = .ok (.iload_n 2, 1) := by decide +kernel
theorem dX11_word_66 : decode cX11_word 66 = .ok (.iconst 2, 1) := by decide +kernel
theorem dX11_word_67 : decode cX11_word 67 = .ok (.isub, 1) := by decide +kernel
theorem dX11_word_68 : decode cX11_word 68 = .ok (.invokevirtual 143, 3) := by decide +kernel
theorem dX11_word_71 : decode cX11_word 71 = .ok (.ireturn, 1) := by decide +kernel
theorem jm_WM_word {l1 : Int} {l2 : Int} {h : xH} {r0 : Int}  (hf : f_WM_word l1 l2 h = some r0) : J mX11_word true 0 0 0 xKn (xen 0 [xR 1, xI l1, xI l2]) [] h (xEq (some r0) h) := by
  unfold f_WM_word at hf
  refine J_cong (ls2 := [(0, xR 1), (1, xI l1), (2, xI l2)]) (st2 := []) rfl rfl ?_
  refine J_iload_n 1 dX11_word_0 rfl rfl ?_
  refine J_if_lt (tgt := 22) dX11_word_1 (by decide) (fun hc => ?_) (fun hc => ?_)
  · have hf := xip hc hf
    refine J_bip dX11_word_22 (by decide) ?_
    exact J_ireti dX11_word_24 rfl (xq_p hf)
  · have hf := xin' hc hf
    refine J_iload_n 1 dX11_word_4 rfl rfl ?_
    refine J_aload_n 0 dX11_word_5 rfl rfl ?_
    refine J_getRl (j := 1) xcf11 dX11_word_6 kO1 (Or.inl xq436) (by decide) (by decide) rf_1_1 ?_
    refine J_getRl (j := 0) xcf1 dX11_word_9 kO4 (Or.inr ⟨_, xq197⟩) (by decide) (by decide) rf_4_0 ?_
    refine J_getI (j := 2) xcf5 dX11_word_12 (xK_rg kO5) kO5 (Or.inr ⟨_, xq185⟩) (by decide) (by decide) ?_
    refine J_ic_ge (tgt := 22) dX11_word_15 (by decide) (fun hc => ?_) (fun hc => ?_)
    · have hf := xip hc hf
      refine J_iload_n 2 dX11_word_18 rfl rfl ?_
      refine J_if_ge (tgt := 25) dX11_word_19 (by decide) (fun hc => ?_) (fun hc => ?_)
      · have hf := xip hc hf
        refine J_bip dX11_word_22 (by decide) ?_
        exact J_ireti dX11_word_24 rfl (xq_p hf)
      · have hf := xin' hc hf
        refine J_iload_n 2 dX11_word_25 rfl rfl ?_
        refine J_if_ne (tgt := 38) dX11_word_26 (by decide) (fun hc => ?_) (fun hc => ?_)
        · have hf := xip hc hf
          refine J_aload_n 0 dX11_word_29 rfl rfl ?_
          refine J_getRl (j := 1) xcf11 dX11_word_30 kO1 (Or.inl xq436) (by decide) (by decide) rf_1_1 ?_
          refine J_iload_n 1 dX11_word_33 rfl rfl ?_
          obtain ⟨r1, hq, hf⟩ := xc1_e hf
          refine J_cVi (Mc := mX1_countOf) [xI l1] dX11_word_34 (fc_Lex_countOf.fit ⟨xbl rfl, xbl rfl⟩) rfl ⟨Or.inr ⟨_, xq578⟩, xq580, xq15⟩ kO4 (ci := 1) rfl rfl (xbl rfl) (xbl rfl) (jm_Lex_countOf  hq) ?_
          exact J_ireti dX11_word_37 rfl (xq_p hf)
        · have hf := xin' hc hf
          refine J_iload_n 2 dX11_word_38 rfl rfl ?_
          refine J_iconst dX11_word_39 (by decide) ?_
          refine J_ic_ne (tgt := 57) dX11_word_40 (by decide) (fun hc => ?_) (fun hc => ?_)
          · have hf := xip hc hf
            refine J_aload_n 0 dX11_word_43 rfl rfl ?_
            refine J_getRl (j := 1) xcf11 dX11_word_44 kO1 (Or.inl xq436) (by decide) (by decide) rf_1_1 ?_
            refine J_getRl (j := 0) xcf1 dX11_word_47 kO4 (Or.inr ⟨_, xq197⟩) (by decide) (by decide) rf_4_0 ?_
            refine J_iload_n 1 dX11_word_50 rfl rfl ?_
            obtain ⟨r2, hq, hf⟩ := xc1_e hf
            refine J_cVi (Mc := mX5_sizeOf) [xI l1] dX11_word_51 (fc_Rows_sizeOf.fit ⟨xbl rfl, xbl rfl⟩) rfl ⟨Or.inr ⟨_, xq582⟩, xq584, xq16⟩ kO5 (ci := 5) rfl rfl (xbl rfl) (xbl rfl) (jm_Rows_sizeOf kO5 hq) ?_
            refine J_goto (tgt := 71) dX11_word_54 (by decide) ?_
            exact J_ireti dX11_word_71 rfl (xq_p hf)
          · have hf := xin' hc hf
            refine J_aload_n 0 dX11_word_57 rfl rfl ?_
            refine J_getRl (j := 1) xcf11 dX11_word_58 kO1 (Or.inl xq436) (by decide) (by decide) rf_1_1 ?_
            refine J_getRl (j := 0) xcf1 dX11_word_61 kO4 (Or.inr ⟨_, xq197⟩) (by decide) (by decide) rf_4_0 ?_
            refine J_iload_n 1 dX11_word_64 rfl rfl ?_
            refine J_iload_n 2 dX11_word_65 rfl rfl ?_
            refine J_iconst dX11_word_66 (by decide) ?_
            refine J_isub dX11_word_67 ?_
            obtain ⟨r3, hq, hf⟩ := xc1_e hf
            refine J_cVi (Mc := mX5_at) [xI l1, xI (w32 (l2 - 2))] dX11_word_68 (fc_Rows_at.fit ⟨xbl rfl, xbl rfl⟩) rfl ⟨Or.inr ⟨_, xq586⟩, xq534, xq9⟩ kO5 (ci := 5) rfl rfl (xbl rfl) (xbl rfl) (jm_Rows_at kO5 hq) ?_
            exact J_ireti dX11_word_71 rfl (xq_p hf)
    · have hf := xin' hc hf
      refine J_bip dX11_word_22 (by decide) ?_
      exact J_ireti dX11_word_24 rfl (xq_p hf)
theorem dX5_shared_0 : decode cX5_shared 0 = .ok (.iload_n 1, 1) := by decide +kernel
theorem dX5_shared_1 : decode cX5_shared 1 = .ok (.iconst 1, 1) := by decide +kernel
theorem dX5_shared_2 : decode cX5_shared 2 = .ok (.if_icmp .ge 5, 3) := by decide +kernel
theorem dX5_shared_5 : decode cX5_shared 5 = .ok (.iconst (-1), 1) := by decide +kernel
theorem dX5_shared_6 : decode cX5_shared 6 = .ok (.ireturn, 1) := by decide +kernel
theorem dX5_shared_7 : decode cX5_shared 7 = .ok (.iconst 0, 1) := by decide +kernel
theorem dX5_shared_8 : decode cX5_shared 8 = .ok (.istore_n 2, 1) := by decide +kernel
theorem dX5_shared_9 : decode cX5_shared 9 = .ok (.iload_n 2, 1) := by decide +kernel
theorem dX5_shared_10 : decode cX5_shared 10 = .ok (.aload_n 0, 1) := by decide +kernel
theorem dX5_shared_11 : decode cX5_shared 11 = .ok (.iload_n 1, 1) := by decide +kernel
theorem dX5_shared_12 : decode cX5_shared 12 = .ok (.invokevirtual 33, 3) := by decide +kernel
theorem dX5_shared_15 : decode cX5_shared 15 = .ok (.if_icmp .ge 26, 3) := by decide +kernel
theorem dX5_shared_18 : decode cX5_shared 18 = .ok (.aload_n 0, 1) := by decide +kernel
theorem dX5_shared_19 : decode cX5_shared 19 = .ok (.iload_n 1, 1) := by decide +kernel
theorem dX5_shared_20 : decode cX5_shared 20 = .ok (.iload_n 2, 1) := by decide +kernel
theorem dX5_shared_21 : decode cX5_shared 21 = .ok (.invokevirtual 37, 3) := by decide +kernel
theorem dX5_shared_24 : decode cX5_shared 24 = .ok (.aload_n 0, 1) := by decide +kernel
theorem dX5_shared_25 : decode cX5_shared 25 = .ok (.iload_n 1, 1) := by decide +kernel
theorem dX5_shared_26 : decode cX5_shared 26 = .ok (.iconst 1, 1) := by decide +kernel
theorem dX5_shared_27 : decode cX5_shared 27 = .ok (.isub, 1) := by decide +kernel
theorem dX5_shared_28 : decode cX5_shared 28 = .ok (.iload_n 2, 1) := by decide +kernel
theorem dX5_shared_29 : decode cX5_shared 29 = .ok (.invokevirtual 37, 3) := by decide +kernel
theorem dX5_shared_32 : decode cX5_shared 32 = .ok (.if_icmp .ne 9, 3) := by decide +kernel
theorem dX5_shared_35 : decode cX5_shared 35 = .ok (.iinc 2 1, 3) := by decide +kernel
theorem dX5_shared_38 : decode cX5_shared 38 = .ok (.goto (-29), 3) := by decide +kernel
theorem dX5_shared_41 : decode cX5_shared 41 = .ok (.iload_n 2, 1) := by decide +kernel
theorem dX5_shared_42 : decode cX5_shared 42 = .ok (.ireturn, 1) := by decide +kernel
theorem j_Rows_shared_41 {l2 : Int} {h : xH} {r0 : Int}  (hf : f_Rows_shared_41 l2 h = some r0)  : J mX5_shared true 0 0 41 xKn [(2, xI l2)] [] h (xEq (some r0) h) := by
  unfold f_Rows_shared_41 at hf
  refine J_iload_n 0 dX5_shared_41 rfl rfl ?_
  exact J_ireti dX5_shared_42 rfl (xq_p hf)
theorem j_Rows_shared_s9 {l0 : Int} {l1 : Int} {l2 : Int} {h : xH} {x : (Int ⊕ Int)} {Q : xQ} (kl0 : xK l0 = 3 + 5) (hf : f_Rows_shared_s9 l0 l1 l2 h = some x) (kb : ∀ (l2' : Int), x = Sum.inl l2' → J mX5_shared true 0 0 9 xKn [(0, xR l0), (1, xI l1), (2, xI l2')] [] h Q) (ke : ∀ (l2' : Int), x = (Sum.inr l2') → J mX5_shared true 0 0 41 xKn [(2, xI l2')] [] h Q) : J mX5_shared true 0 0 9 xKn [(0, xR l0), (1, xI l1), (2, xI l2)] [] h Q := by
  unfold f_Rows_shared_s9 at hf
  refine J_iload_n 2 dX5_shared_9 rfl rfl ?_
  refine J_aload_n 0 dX5_shared_10 rfl rfl ?_
  refine J_iload_n 1 dX5_shared_11 rfl rfl ?_
  obtain ⟨r1, hq, hf⟩ := xc1_e hf
  refine J_cVi (Mc := mX5_sizeOf) [xI l1] dX5_shared_12 (fc_Rows_sizeOf.fit ⟨xbl rfl, xbl rfl⟩) rfl ⟨Or.inl xq600, xq584, xq16⟩ kl0 (ci := 5) rfl rfl (xbl rfl) (xbl rfl) (jm_Rows_sizeOf kl0 hq) ?_
  refine J_ic_ge (tgt := 41) dX5_shared_15 (by decide) (fun hc => ?_) (fun hc => ?_)
  · have hf := xip hc hf
    refine J_aload_n 0 dX5_shared_18 rfl rfl ?_
    refine J_iload_n 1 dX5_shared_19 rfl rfl ?_
    refine J_iload_n 2 dX5_shared_20 rfl rfl ?_
    obtain ⟨r2, hq, hf⟩ := xc1_e hf
    refine J_cVi (Mc := mX5_at) [xI l1, xI l2] dX5_shared_21 (fc_Rows_at.fit ⟨xbl rfl, xbl rfl⟩) rfl ⟨Or.inl xq532, xq534, xq9⟩ kl0 (ci := 5) rfl rfl (xbl rfl) (xbl rfl) (jm_Rows_at kl0 hq) ?_
    refine J_aload_n 0 dX5_shared_24 rfl rfl ?_
    refine J_iload_n 1 dX5_shared_25 rfl rfl ?_
    refine J_iconst dX5_shared_26 (by decide) ?_
    refine J_isub dX5_shared_27 ?_
    refine J_iload_n 2 dX5_shared_28 rfl rfl ?_
    obtain ⟨r3, hq, hf⟩ := xc1_e hf
    refine J_cVi (Mc := mX5_at) [xI (w32 (l1 - 1)), xI l2] dX5_shared_29 (fc_Rows_at.fit ⟨xbl rfl, xbl rfl⟩) rfl ⟨Or.inl xq532, xq534, xq9⟩ kl0 (ci := 5) rfl rfl (xbl rfl) (xbl rfl) (jm_Rows_at kl0 hq) ?_
    refine J_ic_ne (tgt := 41) dX5_shared_32 (by decide) (fun hc => ?_) (fun hc => ?_)
    · have hf := xip hc hf
      obtain ⟨x4, ex4, hf⟩ := xlet_e hf
      refine J_iinc (ls' := [(2, xI x4), (0, xR l0), (1, xI l1)]) 2 dX5_shared_35 rfl (by decide) ex4 rfl ?_
      refine J_goto (tgt := 9) dX5_shared_38 (by decide) ?_
      refine J_sub [1, 2, 0] rfl ?_
      exact kb _ (xinl hf)
    · have hf := xin' hc hf
      refine J_sub [2] rfl ?_
      exact ke _ (xinl hf)
  · have hf := xin' hc hf
    refine J_sub [2] rfl ?_
    exact ke _ (xinl hf)
theorem j_Rows_shared_9 {l0 : Int} {l1 : Int} {l2 : Int} {h : xH} {r0 : Int} (kl0 : xK l0 = 3 + 5) (hf : f_Rows_shared_9 l0 l1 l2 h = some r0)  : J mX5_shared true 0 0 9 xKn [(0, xR l0), (1, xI l1), (2, xI l2)] [] h (xEq (some r0) h) := by
  unfold f_Rows_shared_9 at hf
  obtain ⟨b0, hb0, hf⟩ := xc1_e hf
  refine xloop_ind (P := fun s : Int => J mX5_shared true 0 0 9 xKn [(0, xR l0), (1, xI l1), (2, xI s)] [] h (xEq (some r0) h)) hb0 (fun s x1 hs ib ie => ?_)
  exact j_Rows_shared_s9 kl0 hs (fun _ e => ib _ e) (fun _ e => by have := ie _ e; subst this; exact j_Rows_shared_41  hf)
theorem jm_Rows_shared {l0 : Int} {l1 : Int} {h : xH} {r0 : Int} (kl0 : xK l0 = 3 + 5) (hf : f_Rows_shared l0 l1 h = some r0) : J mX5_shared true 0 0 0 xKn (xen 0 [xR l0, xI l1]) [] h (xEq (some r0) h) := by
  unfold f_Rows_shared at hf
  refine J_cong (ls2 := [(0, xR l0), (1, xI l1)]) (st2 := []) rfl rfl ?_
  refine J_iload_n 1 dX5_shared_0 rfl rfl ?_
  refine J_iconst dX5_shared_1 (by decide) ?_
  refine J_ic_ge (tgt := 7) dX5_shared_2 (by decide) (fun hc => ?_) (fun hc => ?_)
  · have hf := xip hc hf
    refine J_iconst dX5_shared_5 (by decide) ?_
    exact J_ireti dX5_shared_6 rfl (xq_p hf)
  · have hf := xin' hc hf
    refine J_iconst dX5_shared_7 (by decide) ?_
    refine J_istore_n (ls' := [(2, xI 0), (0, xR l0), (1, xI l1)]) dX5_shared_8 rfl (by decide) rfl rfl ?_
    refine J_sub [1, 2, 0] rfl ?_
    exact j_Rows_shared_9 kl0 hf
theorem dX1_nodes_0 : decode cX1_nodes 0 = .ok (.iconst 0, 1) := by decide +kernel
theorem dX1_nodes_1 : decode cX1_nodes 1 = .ok (.istore_n 1, 1) := by decide +kernel
theorem dX1_nodes_2 : decode cX1_nodes 2 = .ok (.iconst 0, 1) := by decide +kernel
theorem dX1_nodes_3 : decode cX1_nodes 3 = .ok (.istore_n 2, 1) := by decide +kernel
theorem dX1_nodes_4 : decode cX1_nodes 4 = .ok (.iload_n 2, 1) := by decide +kernel
theorem dX1_nodes_5 : decode cX1_nodes 5 = .ok (.aload_n 0, 1) := by decide +kernel
theorem dX1_nodes_6 : decode cX1_nodes 6 = .ok (.getfield 14, 3) := by decide +kernel
theorem dX1_nodes_9 : decode cX1_nodes 9 = .ok (.getfield 24, 3) := by decide +kernel
theorem dX1_nodes_12 : decode cX1_nodes 12 = .ok (.if_icmp .ge 29, 3) := by decide +kernel
theorem dX1_nodes_15 : decode cX1_nodes 15 = .ok (.iload_n 1, 1) := by decide +kernel
theorem dX1_nodes_16 : decode cX1_nodes 16 = .ok (.aload_n 0, 1) := by decide +kernel
theorem dX1_nodes_17 : decode cX1_nodes 17 = .ok (.getfield 14, 3) := by decide +kernel
theorem dX1_nodes_20 : decode cX1_nodes 20 = .ok (.iload_n 2, 1) := by decide +kernel
theorem dX1_nodes_21 : decode cX1_nodes 21 = .ok (.invokevirtual 63, 3) := by decide +kernel
theorem dX1_nodes_24 : decode cX1_nodes 24 = .ok (.aload_n 0, 1) := by decide +kernel
theorem dX1_nodes_25 : decode cX1_nodes 25 = .ok (.getfield 14, 3) := by decide +kernel
theorem dX1_nodes_28 : decode cX1_nodes 28 = .ok (.iload_n 2, 1) := by decide +kernel
theorem dX1_nodes_29 : decode cX1_nodes 29 = .ok (.invokevirtual 67, 3) := by decide +kernel
theorem dX1_nodes_32 : decode cX1_nodes 32 = .ok (.isub, 1) := by decide +kernel
theorem dX1_nodes_33 : decode cX1_nodes 33 = .ok (.iadd, 1) := by decide +kernel
theorem dX1_nodes_34 : decode cX1_nodes 34 = .ok (.istore_n 1, 1) := by decide +kernel
theorem dX1_nodes_35 : decode cX1_nodes 35 = .ok (.iinc 2 1, 3) := by decide +kernel
theorem dX1_nodes_38 : decode cX1_nodes 38 = .ok (.goto (-34), 3) := by decide +kernel
theorem dX1_nodes_41 : decode cX1_nodes 41 = .ok (.iload_n 1, 1) := by decide +kernel
theorem dX1_nodes_42 : decode cX1_nodes 42 = .ok (.ireturn, 1) := by decide +kernel
theorem j_Lex_nodes_41 {l1 : Int} {h : xH} {r0 : Int}  (hf : f_Lex_nodes_41 l1 h = some r0)  : J mX1_nodes true 0 0 41 xKn [(1, xI l1)] [] h (xEq (some r0) h) := by
  unfold f_Lex_nodes_41 at hf
  refine J_iload_n 0 dX1_nodes_41 rfl rfl ?_
  exact J_ireti dX1_nodes_42 rfl (xq_p hf)
theorem j_Lex_nodes_s4 {l1 : Int} {l2 : Int} {h : xH} {x : ((Int × Int) ⊕ Int)} {Q : xQ}  (hf : f_Lex_nodes_s4 l1 l2 h = some x) (kb : ∀ (l1' : Int) (l2' : Int), x = Sum.inl (l1', l2') → J mX1_nodes true 0 0 4 xKn [(0, xR 4), (1, xI l1'), (2, xI l2')] [] h Q) (ke : ∀ (l1' : Int), x = (Sum.inr l1') → J mX1_nodes true 0 0 41 xKn [(1, xI l1')] [] h Q) : J mX1_nodes true 0 0 4 xKn [(0, xR 4), (1, xI l1), (2, xI l2)] [] h Q := by
  unfold f_Lex_nodes_s4 at hf
  refine J_iload_n 2 dX1_nodes_4 rfl rfl ?_
  refine J_aload_n 0 dX1_nodes_5 rfl rfl ?_
  refine J_getRl (j := 0) xcf1 dX1_nodes_6 kO4 (Or.inl xq194) (by decide) (by decide) rf_4_0 ?_
  refine J_getI (j := 2) xcf5 dX1_nodes_9 (xK_rg kO5) kO5 (Or.inr ⟨_, xq183⟩) (by decide) (by decide) ?_
  refine J_ic_ge (tgt := 41) dX1_nodes_12 (by decide) (fun hc => ?_) (fun hc => ?_)
  · have hf := xip hc hf
    refine J_iload_n 1 dX1_nodes_15 rfl rfl ?_
    refine J_aload_n 0 dX1_nodes_16 rfl rfl ?_
    refine J_getRl (j := 0) xcf1 dX1_nodes_17 kO4 (Or.inl xq194) (by decide) (by decide) rf_4_0 ?_
    refine J_iload_n 2 dX1_nodes_20 rfl rfl ?_
    obtain ⟨r1, hq, hf⟩ := xc1_e hf
    refine J_cVi (Mc := mX5_sizeOf) [xI l2] dX1_nodes_21 (fc_Rows_sizeOf.fit ⟨xbl rfl, xbl rfl⟩) rfl ⟨Or.inr ⟨_, xq595⟩, xq584, xq16⟩ kO5 (ci := 5) rfl rfl (xbl rfl) (xbl rfl) (jm_Rows_sizeOf kO5 hq) ?_
    refine J_aload_n 0 dX1_nodes_24 rfl rfl ?_
    refine J_getRl (j := 0) xcf1 dX1_nodes_25 kO4 (Or.inl xq194) (by decide) (by decide) rf_4_0 ?_
    refine J_iload_n 2 dX1_nodes_28 rfl rfl ?_
    obtain ⟨r2, hq, hf⟩ := xc1_e hf
    refine J_cVi (Mc := mX5_shared) [xI l2] dX1_nodes_29 (fc_Rows_shared.fit ⟨xbl rfl, xbl rfl⟩) rfl ⟨Or.inr ⟨_, xq596⟩, xq598, xq18⟩ kO5 (ci := 5) rfl rfl (xbl rfl) (xbl rfl) (jm_Rows_shared kO5 hq) ?_
    refine J_isub dX1_nodes_32 ?_
    refine J_iadd dX1_nodes_33 ?_
    obtain ⟨x3, ex3, hf⟩ := xlet_e hf
    refine J_istore_n (ls' := [(1, xI x3), (0, xR 4), (2, xI l2)]) dX1_nodes_34 rfl (by decide) ex3 rfl ?_
    obtain ⟨x4, ex4, hf⟩ := xlet_e hf
    refine J_iinc (ls' := [(2, xI x4), (1, xI x3), (0, xR 4)]) 2 dX1_nodes_35 rfl (by decide) ex4 rfl ?_
    refine J_goto (tgt := 4) dX1_nodes_38 (by decide) ?_
    refine J_sub [2, 1, 0] rfl ?_
    exact kb _ _ (xinl hf)
  · have hf := xin' hc hf
    refine J_sub [1] rfl ?_
    exact ke _ (xinl hf)
theorem j_Lex_nodes_4 {l1 : Int} {l2 : Int} {h : xH} {r0 : Int}  (hf : f_Lex_nodes_4 l1 l2 h = some r0)  : J mX1_nodes true 0 0 4 xKn [(0, xR 4), (1, xI l1), (2, xI l2)] [] h (xEq (some r0) h) := by
  unfold f_Lex_nodes_4 at hf
  obtain ⟨b0, hb0, hf⟩ := xc1_e hf
  refine xloop_ind (P := fun s : (Int × Int) => J mX1_nodes true 0 0 4 xKn [(0, xR 4), (1, xI s.1), (2, xI s.2)] [] h (xEq (some r0) h)) hb0 (fun s x1 hs ib ie => ?_)
  exact j_Lex_nodes_s4  hs (fun _ _ e => ib _ e) (fun _ e => by have := ie _ e; subst this; exact j_Lex_nodes_41  hf)
theorem jm_Lex_nodes  {h : xH} {r0 : Int}  (hf : f_Lex_nodes h = some r0) : J mX1_nodes true 0 0 0 xKn (xen 0 [xR 4]) [] h (xEq (some r0) h) := by
  unfold f_Lex_nodes at hf
  refine J_cong (ls2 := [(0, xR 4)]) (st2 := []) rfl rfl ?_
  refine J_iconst dX1_nodes_0 (by decide) ?_
  refine J_istore_n (ls' := [(1, xI 0), (0, xR 4)]) dX1_nodes_1 rfl (by decide) rfl rfl ?_
  refine J_iconst dX1_nodes_2 (by decide) ?_
  refine J_istore_n (ls' := [(2, xI 0), (1, xI 0), (0, xR 4)]) dX1_nodes_3 rfl (by decide) rfl rfl ?_
  refine J_sub [2, 1, 0] rfl ?_
  exact j_Lex_nodes_4  hf
theorem dX11_count_0 : decode cX11_count 0 = .ok (.iload_n 1, 1) := by decide +kernel
theorem dX11_count_1 : decode cX11_count 1 = .ok (.tableswitch 123 0 7 #[47, 58, 66, 77, 85, 93, 104, 115], 47) := by decide +kernel
theorem dX11_count_48 : decode cX11_count 48 = .ok (.aload_n 0, 1) := by decide +kernel
theorem dX11_count_49 : decode cX11_count 49 = .ok (.getfield 19, 3) := by decide +kernel
theorem dX11_count_52 : decode cX11_count 52 = .ok (.getfield 129, 3) := by decide +kernel
theorem dX11_count_55 : decode cX11_count 55 = .ok (.getfield 132, 3) := by decide +kernel
theorem dX11_count_58 : decode cX11_count 58 = .ok (.ireturn, 1) := by decide +kernel
theorem dX11_count_59 : decode cX11_count 59 = .ok (.aload_n 0, 1) := by decide +kernel
theorem dX11_count_60 : decode cX11_count 60 = .ok (.getfield 19, 3) := by decide +kernel
theorem dX11_count_63 : decode cX11_count 63 = .ok (.invokevirtual 147, 3) := by decide +kernel
theorem dX11_count_66 : decode cX11_count 66 = .ok (.ireturn, 1) := by decide +kernel
theorem dX11_count_67 : decode cX11_count 67 = .ok (.aload_n 0, 1) := by decide +kernel
theorem dX11_count_68 : decode cX11_count 68 = .ok (.getfield 26, 3) := by decide +kernel
theorem dX11_count_71 : decode cX11_count 71 = .ok (.getfield 151, 3) := by decide +kernel
theorem dX11_count_74 : decode cX11_count 74 = .ok (.getfield 132, 3) := by decide +kernel
theorem dX11_count_77 : decode cX11_count 77 = .ok (.ireturn, 1) := by decide +kernel
theorem dX11_count_78 : decode cX11_count 78 = .ok (.aload_n 0, 1) := by decide +kernel
theorem dX11_count_79 : decode cX11_count 79 = .ok (.getfield 61, 3) := by decide +kernel
theorem dX11_count_82 : decode cX11_count 82 = .ok (.getfield 132, 3) := by decide +kernel
theorem dX11_count_85 : decode cX11_count 85 = .ok (.ireturn, 1) := by decide +kernel
theorem dX11_count_86 : decode cX11_count 86 = .ok (.aload_n 0, 1) := by decide +kernel
theorem dX11_count_87 : decode cX11_count 87 = .ok (.getfield 12, 3) := by decide +kernel
theorem dX11_count_90 : decode cX11_count 90 = .ok (.getfield 154, 3) := by decide +kernel
theorem dX11_count_93 : decode cX11_count 93 = .ok (.ireturn, 1) := by decide +kernel
theorem dX11_count_94 : decode cX11_count 94 = .ok (.aload_n 0, 1) := by decide +kernel
theorem dX11_count_95 : decode cX11_count 95 = .ok (.getfield 79, 3) := by decide +kernel
theorem dX11_count_98 : decode cX11_count 98 = .ok (.getfield 155, 3) := by decide +kernel
theorem dX11_count_101 : decode cX11_count 101 = .ok (.getfield 159, 3) := by decide +kernel
theorem dX11_count_104 : decode cX11_count 104 = .ok (.ireturn, 1) := by decide +kernel
theorem dX11_count_105 : decode cX11_count 105 = .ok (.aload_n 0, 1) := by decide +kernel
theorem dX11_count_106 : decode cX11_count 106 = .ok (.getfield 79, 3) := by decide +kernel
theorem dX11_count_109 : decode cX11_count 109 = .ok (.getfield 155, 3) := by decide +kernel
theorem dX11_count_112 : decode cX11_count 112 = .ok (.getfield 162, 3) := by decide +kernel
theorem dX11_count_115 : decode cX11_count 115 = .ok (.ireturn, 1) := by decide +kernel
theorem dX11_count_116 : decode cX11_count 116 = .ok (.aload_n 0, 1) := by decide +kernel
theorem dX11_count_117 : decode cX11_count 117 = .ok (.getfield 88, 3) := by decide +kernel
theorem dX11_count_120 : decode cX11_count 120 = .ok (.getfield 165, 3) := by decide +kernel
theorem dX11_count_123 : decode cX11_count 123 = .ok (.ireturn, 1) := by decide +kernel
theorem dX11_count_124 : decode cX11_count 124 = .ok (.bipush (-2), 2) := by decide +kernel
theorem dX11_count_126 : decode cX11_count 126 = .ok (.ireturn, 1) := by decide +kernel
theorem jm_WM_count {l1 : Int} {h : xH} {r0 : Int}  (hf : f_WM_count l1 h = some r0) : J mX11_count true 0 0 0 xKn (xen 0 [xR 1, xI l1]) [] h (xEq (some r0) h) := by
  unfold f_WM_count at hf
  refine J_cong (ls2 := [(0, xR 1), (1, xI l1)]) (st2 := []) rfl rfl ?_
  refine J_iload_n 1 dX11_count_0 rfl rfl ?_
  refine J_by (c := l1 = 0) (fun hc0 => ?_) (fun hc0 => ?_)
  · have hf := xip hc0 hf
    refine J_tswIn (tgt := 48) dX11_count_1 0 hc0 (by decide) (by decide) rfl (by decide) ?_
    refine J_aload_n 0 dX11_count_48 rfl rfl ?_
    refine J_getRl (j := 1) xcf11 dX11_count_49 kO1 (Or.inl xq436) (by decide) (by decide) rf_1_1 ?_
    refine J_getRl (j := 0) xcf1 dX11_count_52 kO4 (Or.inr ⟨_, xq197⟩) (by decide) (by decide) rf_4_0 ?_
    refine J_getI (j := 2) xcf5 dX11_count_55 (xK_rg kO5) kO5 (Or.inr ⟨_, xq185⟩) (by decide) (by decide) ?_
    exact J_ireti dX11_count_58 rfl (xq_p hf)
  · have hf := xin' hc0 hf
    refine J_by (c := l1 = 1) (fun hc1 => ?_) (fun hc1 => ?_)
    · have hf := xip hc1 hf
      refine J_tswIn (tgt := 59) dX11_count_1 1 hc1 (by decide) (by decide) rfl (by decide) ?_
      refine J_aload_n 0 dX11_count_59 rfl rfl ?_
      refine J_getRl (j := 1) xcf11 dX11_count_60 kO1 (Or.inl xq436) (by decide) (by decide) rf_1_1 ?_
      obtain ⟨r1, hq, hf⟩ := xc1_e hf
      refine J_cVi (Mc := mX1_nodes) [] dX11_count_63 (fc_Lex_nodes.fit ⟨xbl rfl, xbl rfl⟩) rfl ⟨Or.inr ⟨_, xq591⟩, xq593, xq17⟩ kO4 (ci := 1) rfl rfl (xbl rfl) (xbl rfl) (jm_Lex_nodes  hq) ?_
      exact J_ireti dX11_count_66 rfl (xq_p hf)
    · have hf := xin' hc1 hf
      refine J_by (c := l1 = 2) (fun hc2 => ?_) (fun hc2 => ?_)
      · have hf := xip hc2 hf
        refine J_tswIn (tgt := 67) dX11_count_1 2 hc2 (by decide) (by decide) rfl (by decide) ?_
        refine J_aload_n 0 dX11_count_67 rfl rfl ?_
        refine J_getRl (j := 2) xcf11 dX11_count_68 kO1 (Or.inl xq437) (by decide) (by decide) rf_1_2 ?_
        refine J_getRl (j := 4) xcf6 dX11_count_71 kO9 (Or.inr ⟨_, xq221⟩) (by decide) (by decide) rf_9_4 ?_
        refine J_getI (j := 2) xcf5 dX11_count_74 (xK_rg kO14) kO14 (Or.inr ⟨_, xq185⟩) (by decide) (by decide) ?_
        exact J_ireti dX11_count_77 rfl (xq_p hf)
      · have hf := xin' hc2 hf
        refine J_by (c := l1 = 3) (fun hc3 => ?_) (fun hc3 => ?_)
        · have hf := xip hc3 hf
          refine J_tswIn (tgt := 78) dX11_count_1 3 hc3 (by decide) (by decide) rfl (by decide) ?_
          refine J_aload_n 0 dX11_count_78 rfl rfl ?_
          refine J_getRl (j := 8) xcf11 dX11_count_79 kO1 (Or.inl xq443) (by decide) (by decide) rf_1_8 ?_
          refine J_getI (j := 2) xcf5 dX11_count_82 (xK_rg kO40) kO40 (Or.inr ⟨_, xq185⟩) (by decide) (by decide) ?_
          exact J_ireti dX11_count_85 rfl (xq_p hf)
        · have hf := xin' hc3 hf
          refine J_by (c := l1 = 4) (fun hc4 => ?_) (fun hc4 => ?_)
          · have hf := xip hc4 hf
            refine J_tswIn (tgt := 86) dX11_count_1 4 hc4 (by decide) (by decide) rfl (by decide) ?_
            refine J_aload_n 0 dX11_count_86 rfl rfl ?_
            refine J_getRl (j := 0) xcf11 dX11_count_87 kO1 (Or.inl xq435) (by decide) (by decide) rf_1_0 ?_
            refine J_getI (j := 1) xcf7 dX11_count_90 (xK_rg kO2) kO2 (Or.inr ⟨_, xq157⟩) (by decide) (by decide) ?_
            exact J_ireti dX11_count_93 rfl (xq_p hf)
          · have hf := xin' hc4 hf
            refine J_by (c := l1 = 5) (fun hc5 => ?_) (fun hc5 => ?_)
            · have hf := xip hc5 hf
              refine J_tswIn (tgt := 94) dX11_count_1 5 hc5 (by decide) (by decide) rfl (by decide) ?_
              refine J_aload_n 0 dX11_count_94 rfl rfl ?_
              refine J_getRl (j := 12) xcf11 dX11_count_95 kO1 (Or.inl xq447) (by decide) (by decide) rf_1_12 ?_
              refine J_getRl (j := 2) xcf9 dX11_count_98 kO48 (Or.inr ⟨_, xq333⟩) (by decide) (by decide) rf_48_2 ?_
              refine J_getI (j := 5) xcf3 dX11_count_101 (xK_rg kO49) kO49 (Or.inr ⟨_, xq305⟩) (by decide) (by decide) ?_
              exact J_ireti dX11_count_104 rfl (xq_p hf)
            · have hf := xin' hc5 hf
              refine J_by (c := l1 = 6) (fun hc6 => ?_) (fun hc6 => ?_)
              · have hf := xip hc6 hf
                refine J_tswIn (tgt := 105) dX11_count_1 6 hc6 (by decide) (by decide) rfl (by decide) ?_
                refine J_aload_n 0 dX11_count_105 rfl rfl ?_
                refine J_getRl (j := 12) xcf11 dX11_count_106 kO1 (Or.inl xq447) (by decide) (by decide) rf_1_12 ?_
                refine J_getRl (j := 2) xcf9 dX11_count_109 kO48 (Or.inr ⟨_, xq333⟩) (by decide) (by decide) rf_48_2 ?_
                refine J_getI (j := 6) xcf3 dX11_count_112 (xK_rg kO49) kO49 (Or.inr ⟨_, xq307⟩) (by decide) (by decide) ?_
                exact J_ireti dX11_count_115 rfl (xq_p hf)
              · have hf := xin' hc6 hf
                refine J_by (c := l1 = 7) (fun hc7 => ?_) (fun hc7 => ?_)
                · have hf := xip hc7 hf
                  refine J_tswIn (tgt := 116) dX11_count_1 7 hc7 (by decide) (by decide) rfl (by decide) ?_
                  refine J_aload_n 0 dX11_count_116 rfl rfl ?_
                  refine J_getRl (j := 13) xcf11 dX11_count_117 kO1 (Or.inl xq448) (by decide) (by decide) rf_1_13 ?_
                  refine J_getI (j := 4) xcf0 dX11_count_120 (xK_rg kO62) kO62 (Or.inr ⟨_, xq372⟩) (by decide) (by decide) ?_
                  exact J_ireti dX11_count_123 rfl (xq_p hf)
                · have hf := xin' hc7 hf
                  refine J_tswOut (tgt := 124) dX11_count_1 (by omega) (by decide) ?_
                  refine J_bip dX11_count_124 (by decide) ?_
                  exact J_ireti dX11_count_126 rfl (xq_p hf)
