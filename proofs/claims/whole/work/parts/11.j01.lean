/-! the machine follows the functions -/
theorem dX6_setKind_0 : decode cX6_setKind 0 = .ok (.iload_n 2, 1) := by decide +kernel
theorem dX6_setKind_1 : decode cX6_setKind 1 = .ok (.ifCond .eq 23, 3) := by decide +kernel
theorem dX6_setKind_4 : decode cX6_setKind 4 = .ok (.iload_n 1, 1) := by decide +kernel
theorem dX6_setKind_5 : decode cX6_setKind 5 = .ok (.iconst 1, 1) := by decide +kernel
theorem dX6_setKind_6 : decode cX6_setKind 6 = .ok (.if_icmp .lt 18, 3) := by decide +kernel
theorem dX6_setKind_9 : decode cX6_setKind 9 = .ok (.iload_n 1, 1) := by decide +kernel
theorem dX6_setKind_10 : decode cX6_setKind 10 = .ok (.bipush 7, 2) := by decide +kernel
theorem dX6_setKind_12 : decode cX6_setKind 12 = .ok (.if_icmp .eq 12, 3) := by decide +kernel
theorem dX6_setKind_15 : decode cX6_setKind 15 = .ok (.iload_n 1, 1) := by decide +kernel
theorem dX6_setKind_16 : decode cX6_setKind 16 = .ok (.aload_n 0, 1) := by decide +kernel
theorem dX6_setKind_17 : decode cX6_setKind 17 = .ok (.getfield 9, 3) := by decide +kernel
theorem dX6_setKind_20 : decode cX6_setKind 20 = .ok (.arraylength, 1) := by decide +kernel
theorem dX6_setKind_21 : decode cX6_setKind 21 = .ok (.if_icmp .lt 6, 3) := by decide +kernel
theorem dX6_setKind_24 : decode cX6_setKind 24 = .ok (.bipush (-2), 2) := by decide +kernel
theorem dX6_setKind_26 : decode cX6_setKind 26 = .ok (.ireturn, 1) := by decide +kernel
theorem dX6_setKind_27 : decode cX6_setKind 27 = .ok (.aload_n 0, 1) := by decide +kernel
theorem dX6_setKind_28 : decode cX6_setKind 28 = .ok (.getfield 9, 3) := by decide +kernel
theorem dX6_setKind_31 : decode cX6_setKind 31 = .ok (.iload_n 1, 1) := by decide +kernel
theorem dX6_setKind_32 : decode cX6_setKind 32 = .ok (.iaload, 1) := by decide +kernel
theorem dX6_setKind_33 : decode cX6_setKind 33 = .ok (.istore_n 3, 1) := by decide +kernel
theorem dX6_setKind_34 : decode cX6_setKind 34 = .ok (.aload_n 0, 1) := by decide +kernel
theorem dX6_setKind_35 : decode cX6_setKind 35 = .ok (.getfield 9, 3) := by decide +kernel
theorem dX6_setKind_38 : decode cX6_setKind 38 = .ok (.iload_n 1, 1) := by decide +kernel
theorem dX6_setKind_39 : decode cX6_setKind 39 = .ok (.iload_n 2, 1) := by decide +kernel
theorem dX6_setKind_40 : decode cX6_setKind 40 = .ok (.iastore, 1) := by decide +kernel
theorem dX6_setKind_41 : decode cX6_setKind 41 = .ok (.iload_n 3, 1) := by decide +kernel
theorem dX6_setKind_42 : decode cX6_setKind 42 = .ok (.ireturn, 1) := by decide +kernel
theorem jm_Slips_setKind {l1 : Int} {l2 : Int} {h : xH} {r0 : Int} {h0 : xH}  (hf : f_Slips_setKind l1 l2 h = some (r0, h0)) : J mX6_setKind true 0 0 0 xKn (xen 0 [xR 9, xI l1, xI l2]) [] h (xEq (some r0) h0) := by
  unfold f_Slips_setKind at hf
  refine J_cong (ls2 := [(0, xR 9), (1, xI l1), (2, xI l2)]) (st2 := []) rfl rfl ?_
  refine J_iload_n 2 dX6_setKind_0 rfl rfl ?_
  refine J_if_eq (tgt := 24) dX6_setKind_1 (by decide) (fun hc => ?_) (fun hc => ?_)
  · have hf := xip hc hf
    refine J_bip dX6_setKind_24 (by decide) ?_
    exact J_ireti dX6_setKind_26 rfl (xq_i hf)
  · have hf := xin' hc hf
    refine J_iload_n 1 dX6_setKind_4 rfl rfl ?_
    refine J_iconst dX6_setKind_5 (by decide) ?_
    refine J_ic_lt (tgt := 24) dX6_setKind_6 (by decide) (fun hc => ?_) (fun hc => ?_)
    · have hf := xip hc hf
      refine J_bip dX6_setKind_24 (by decide) ?_
      exact J_ireti dX6_setKind_26 rfl (xq_i hf)
    · have hf := xin' hc hf
      refine J_iload_n 1 dX6_setKind_9 rfl rfl ?_
      refine J_bip dX6_setKind_10 (by decide) ?_
      refine J_ic_eq (tgt := 24) dX6_setKind_12 (by decide) (fun hc => ?_) (fun hc => ?_)
      · have hf := xip hc hf
        refine J_bip dX6_setKind_24 (by decide) ?_
        exact J_ireti dX6_setKind_26 rfl (xq_i hf)
      · have hf := xin' hc hf
        refine J_iload_n 1 dX6_setKind_15 rfl rfl ?_
        refine J_aload_n 0 dX6_setKind_16 rfl rfl ?_
        refine J_getRl (j := 0) xcf6 dX6_setKind_17 kO9 (Or.inl xq216) (by decide) (by decide) rf_9_0 ?_
        refine J_alen dX6_setKind_20 (xK_r1 kO10) (Or.inl kO10) (by decide) nA10 ?_
        refine J_ic_lt (tgt := 27) dX6_setKind_21 (by decide) (fun hc => ?_) (fun hc => ?_)
        · have hf := xip hc hf
          refine J_aload_n 0 dX6_setKind_27 rfl rfl ?_
          refine J_getRl (j := 0) xcf6 dX6_setKind_28 kO9 (Or.inl xq216) (by decide) (by decide) rf_9_0 ?_
          refine J_iload_n 1 dX6_setKind_31 rfl rfl ?_
          obtain ⟨hg, hf⟩ := xgd_e hf
          refine J_iald dX6_setKind_32 (xK_r1 kO10) kO10 hg nA10 ?_
          obtain ⟨x1, ex1, hf⟩ := xlet_e hf
          refine J_istore_n (ls' := [(3, xI x1), (0, xR 9), (1, xI l1), (2, xI l2)]) dX6_setKind_33 rfl (by decide) ex1 rfl ?_
          refine J_aload_n 1 dX6_setKind_34 rfl rfl ?_
          refine J_getRl (j := 0) xcf6 dX6_setKind_35 kO9 (Or.inl xq216) (by decide) (by decide) rf_9_0 ?_
          refine J_iload_n 2 dX6_setKind_38 rfl rfl ?_
          refine J_iload_n 3 dX6_setKind_39 rfl rfl ?_
          obtain ⟨hg, hf⟩ := xgd_e hf
          obtain ⟨h2, eh2, hf⟩ := xlet_e hf
          refine J_iast dX6_setKind_40 (xK_r1 kO10) kO10 hg nA10 eh2 ?_
          refine J_iload_n 0 dX6_setKind_41 rfl rfl ?_
          exact J_ireti dX6_setKind_42 rfl (xq_i hf)
        · have hf := xin' hc hf
          refine J_bip dX6_setKind_24 (by decide) ?_
          exact J_ireti dX6_setKind_26 rfl (xq_i hf)
theorem dX6_exchange_0 : decode cX6_exchange 0 = .ok (.iload_n 1, 1) := by decide +kernel
theorem dX6_exchange_1 : decode cX6_exchange 1 = .ok (.ifCond .lt 9, 3) := by decide +kernel
theorem dX6_exchange_4 : decode cX6_exchange 4 = .ok (.iload_n 1, 1) := by decide +kernel
theorem dX6_exchange_5 : decode cX6_exchange 5 = .ok (.aload_n 0, 1) := by decide +kernel
theorem dX6_exchange_6 : decode cX6_exchange 6 = .ok (.arraylength, 1) := by decide +kernel
theorem dX6_exchange_7 : decode cX6_exchange 7 = .ok (.if_icmp .lt 6, 3) := by decide +kernel
theorem dX6_exchange_10 : decode cX6_exchange 10 = .ok (.bipush (-2), 2) := by decide +kernel
theorem dX6_exchange_12 : decode cX6_exchange 12 = .ok (.ireturn, 1) := by decide +kernel
theorem dX6_exchange_13 : decode cX6_exchange 13 = .ok (.aload_n 0, 1) := by decide +kernel
theorem dX6_exchange_14 : decode cX6_exchange 14 = .ok (.iload_n 1, 1) := by decide +kernel
theorem dX6_exchange_15 : decode cX6_exchange 15 = .ok (.iaload, 1) := by decide +kernel
theorem dX6_exchange_16 : decode cX6_exchange 16 = .ok (.istore_n 3, 1) := by decide +kernel
theorem dX6_exchange_17 : decode cX6_exchange 17 = .ok (.aload_n 0, 1) := by decide +kernel
theorem dX6_exchange_18 : decode cX6_exchange 18 = .ok (.iload_n 1, 1) := by decide +kernel
theorem dX6_exchange_19 : decode cX6_exchange 19 = .ok (.iload_n 2, 1) := by decide +kernel
theorem dX6_exchange_20 : decode cX6_exchange 20 = .ok (.iastore, 1) := by decide +kernel
theorem dX6_exchange_21 : decode cX6_exchange 21 = .ok (.iload_n 3, 1) := by decide +kernel
theorem dX6_exchange_22 : decode cX6_exchange 22 = .ok (.ireturn, 1) := by decide +kernel
theorem jm_Slips_exchange {l0 : Int} {l1 : Int} {l2 : Int} {h : xH} {r0 : Int} {h0 : xH} (kl0 : xK l0 = 1) (hf : f_Slips_exchange l0 l1 l2 h = some (r0, h0)) : J mX6_exchange true 0 0 0 xKn (xen 0 [xR l0, xI l1, xI l2]) [] h (xEq (some r0) h0) := by
  unfold f_Slips_exchange at hf
  refine J_cong (ls2 := [(0, xR l0), (1, xI l1), (2, xI l2)]) (st2 := []) rfl rfl ?_
  refine J_iload_n 1 dX6_exchange_0 rfl rfl ?_
  refine J_if_lt (tgt := 10) dX6_exchange_1 (by decide) (fun hc => ?_) (fun hc => ?_)
  · have hf := xip hc hf
    refine J_bip dX6_exchange_10 (by decide) ?_
    exact J_ireti dX6_exchange_12 rfl (xq_i hf)
  · have hf := xin' hc hf
    refine J_iload_n 1 dX6_exchange_4 rfl rfl ?_
    refine J_aload_n 0 dX6_exchange_5 rfl rfl ?_
    refine J_alen dX6_exchange_6 (xK_r1 kl0) (Or.inl kl0) (xNok l0) rfl ?_
    refine J_ic_lt (tgt := 13) dX6_exchange_7 (by decide) (fun hc => ?_) (fun hc => ?_)
    · have hf := xip hc hf
      refine J_aload_n 0 dX6_exchange_13 rfl rfl ?_
      refine J_iload_n 1 dX6_exchange_14 rfl rfl ?_
      obtain ⟨hg, hf⟩ := xgd_e hf
      refine J_iald dX6_exchange_15 (xK_r1 kl0) kl0 hg rfl ?_
      obtain ⟨x1, ex1, hf⟩ := xlet_e hf
      refine J_istore_n (ls' := [(3, xI x1), (0, xR l0), (1, xI l1), (2, xI l2)]) dX6_exchange_16 rfl (by decide) ex1 rfl ?_
      refine J_aload_n 1 dX6_exchange_17 rfl rfl ?_
      refine J_iload_n 2 dX6_exchange_18 rfl rfl ?_
      refine J_iload_n 3 dX6_exchange_19 rfl rfl ?_
      obtain ⟨hg, hf⟩ := xgd_e hf
      obtain ⟨h2, eh2, hf⟩ := xlet_e hf
      refine J_iast dX6_exchange_20 (xK_r1 kl0) kl0 hg rfl eh2 ?_
      refine J_iload_n 0 dX6_exchange_21 rfl rfl ?_
      exact J_ireti dX6_exchange_22 rfl (xq_i hf)
    · have hf := xin' hc hf
      refine J_bip dX6_exchange_10 (by decide) ?_
      exact J_ireti dX6_exchange_12 rfl (xq_i hf)
theorem dX6_setByLetters_0 : decode cX6_setByLetters 0 = .ok (.iload_n 2, 1) := by decide +kernel
theorem dX6_setByLetters_1 : decode cX6_setByLetters 1 = .ok (.ifCond .lt 9, 3) := by decide +kernel
theorem dX6_setByLetters_4 : decode cX6_setByLetters 4 = .ok (.iload_n 2, 1) := by decide +kernel
theorem dX6_setByLetters_5 : decode cX6_setByLetters 5 = .ok (.bipush 26, 2) := by decide +kernel
theorem dX6_setByLetters_7 : decode cX6_setByLetters 7 = .ok (.if_icmp .lt 6, 3) := by decide +kernel
theorem dX6_setByLetters_10 : decode cX6_setByLetters 10 = .ok (.bipush (-2), 2) := by decide +kernel
theorem dX6_setByLetters_12 : decode cX6_setByLetters 12 = .ok (.ireturn, 1) := by decide +kernel
theorem dX6_setByLetters_13 : decode cX6_setByLetters 13 = .ok (.iload_n 1, 1) := by decide +kernel
theorem dX6_setByLetters_14 : decode cX6_setByLetters 14 = .ok (.tableswitch 84 1 3 #[26, 62, 73], 26) := by decide +kernel
theorem dX6_setByLetters_40 : decode cX6_setByLetters 40 = .ok (.iload_n 3, 1) := by decide +kernel
theorem dX6_setByLetters_41 : decode cX6_setByLetters 41 = .ok (.ifCond .lt 14, 3) := by decide +kernel
theorem dX6_setByLetters_44 : decode cX6_setByLetters 44 = .ok (.iload_n 3, 1) := by decide +kernel
theorem dX6_setByLetters_45 : decode cX6_setByLetters 45 = .ok (.bipush 26, 2) := by decide +kernel
theorem dX6_setByLetters_47 : decode cX6_setByLetters 47 = .ok (.if_icmp .ge 8, 3) := by decide +kernel
theorem dX6_setByLetters_50 : decode cX6_setByLetters 50 = .ok (.iload_n 2, 1) := by decide +kernel
theorem dX6_setByLetters_51 : decode cX6_setByLetters 51 = .ok (.iload_n 3, 1) := by decide +kernel
theorem dX6_setByLetters_52 : decode cX6_setByLetters 52 = .ok (.if_icmp .ne 8, 3) := by decide +kernel
theorem dX6_setByLetters_55 : decode cX6_setByLetters 55 = .ok (.bipush (-2), 2) := by decide +kernel
theorem dX6_setByLetters_57 : decode cX6_setByLetters 57 = .ok (.goto 18, 3) := by decide +kernel
theorem dX6_setByLetters_60 : decode cX6_setByLetters 60 = .ok (.aload_n 0, 1) := by decide +kernel
theorem dX6_setByLetters_61 : decode cX6_setByLetters 61 = .ok (.getfield 15, 3) := by decide +kernel
theorem dX6_setByLetters_64 : decode cX6_setByLetters 64 = .ok (.iload_n 2, 1) := by decide +kernel
theorem dX6_setByLetters_65 : decode cX6_setByLetters 65 = .ok (.bipush 26, 2) := by decide +kernel
theorem dX6_setByLetters_67 : decode cX6_setByLetters 67 = .ok (.imul, 1) := by decide +kernel
theorem dX6_setByLetters_68 : decode cX6_setByLetters 68 = .ok (.iload_n 3, 1) := by decide +kernel
theorem dX6_setByLetters_69 : decode cX6_setByLetters 69 = .ok (.iadd, 1) := by decide +kernel
theorem dX6_setByLetters_70 : decode cX6_setByLetters 70 = .ok (.iload 4, 2) := by decide +kernel
theorem dX6_setByLetters_72 : decode cX6_setByLetters 72 = .ok (.invokestatic 39, 3) := by decide +kernel
theorem dX6_setByLetters_75 : decode cX6_setByLetters 75 = .ok (.ireturn, 1) := by decide +kernel
theorem dX6_setByLetters_76 : decode cX6_setByLetters 76 = .ok (.aload_n 0, 1) := by decide +kernel
theorem dX6_setByLetters_77 : decode cX6_setByLetters 77 = .ok (.getfield 18, 3) := by decide +kernel
theorem dX6_setByLetters_80 : decode cX6_setByLetters 80 = .ok (.iload_n 2, 1) := by decide +kernel
theorem dX6_setByLetters_81 : decode cX6_setByLetters 81 = .ok (.iload 4, 2) := by decide +kernel
theorem dX6_setByLetters_83 : decode cX6_setByLetters 83 = .ok (.invokestatic 39, 3) := by decide +kernel
theorem dX6_setByLetters_86 : decode cX6_setByLetters 86 = .ok (.ireturn, 1) := by decide +kernel
theorem dX6_setByLetters_87 : decode cX6_setByLetters 87 = .ok (.aload_n 0, 1) := by decide +kernel
theorem dX6_setByLetters_88 : decode cX6_setByLetters 88 = .ok (.getfield 21, 3) := by decide +kernel
theorem dX6_setByLetters_91 : decode cX6_setByLetters 91 = .ok (.iload_n 2, 1) := by decide +kernel
theorem dX6_setByLetters_92 : decode cX6_setByLetters 92 = .ok (.iload 4, 2) := by decide +kernel
theorem dX6_setByLetters_94 : decode cX6_setByLetters 94 = .ok (.invokestatic 39, 3) := by decide +kernel
theorem dX6_setByLetters_97 : decode cX6_setByLetters 97 = .ok (.ireturn, 1) := by decide +kernel
theorem dX6_setByLetters_98 : decode cX6_setByLetters 98 = .ok (.bipush (-2), 2) := by decide +kernel
theorem dX6_setByLetters_100 : decode cX6_setByLetters 100 = .ok (.ireturn, 1) := by decide +kernel
theorem j_Slips_setByLetters_55  {h : xH} {r0 : Int} {h0 : xH}  (hf : f_Slips_setByLetters_55 h = some (r0, h0))  : J mX6_setByLetters true 0 0 55 xKn [] [] h (xEq (some r0) h0) := by
  unfold f_Slips_setByLetters_55 at hf
  refine J_bip dX6_setByLetters_55 (by decide) ?_
  refine J_goto (tgt := 75) dX6_setByLetters_57 (by decide) ?_
  exact J_ireti dX6_setByLetters_75 rfl (xq_i hf)
theorem jm_Slips_setByLetters {l1 : Int} {l2 : Int} {l3 : Int} {l4 : Int} {h : xH} {r0 : Int} {h0 : xH}  (hf : f_Slips_setByLetters l1 l2 l3 l4 h = some (r0, h0)) : J mX6_setByLetters true 0 0 0 xKn (xen 0 [xR 9, xI l1, xI l2, xI l3, xI l4]) [] h (xEq (some r0) h0) := by
  unfold f_Slips_setByLetters at hf
  refine J_cong (ls2 := [(0, xR 9), (1, xI l1), (2, xI l2), (3, xI l3), (4, xI l4)]) (st2 := []) rfl rfl ?_
  refine J_iload_n 2 dX6_setByLetters_0 rfl rfl ?_
  refine J_if_lt (tgt := 10) dX6_setByLetters_1 (by decide) (fun hc => ?_) (fun hc => ?_)
  · have hf := xip hc hf
    refine J_bip dX6_setByLetters_10 (by decide) ?_
    exact J_ireti dX6_setByLetters_12 rfl (xq_i hf)
  · have hf := xin' hc hf
    refine J_iload_n 2 dX6_setByLetters_4 rfl rfl ?_
    refine J_bip dX6_setByLetters_5 (by decide) ?_
    refine J_ic_lt (tgt := 13) dX6_setByLetters_7 (by decide) (fun hc => ?_) (fun hc => ?_)
    · have hf := xip hc hf
      refine J_iload_n 1 dX6_setByLetters_13 rfl rfl ?_
      refine J_by (c := l1 = 1) (fun hc1 => ?_) (fun hc1 => ?_)
      · have hf := xip hc1 hf
        refine J_tswIn (tgt := 40) dX6_setByLetters_14 1 hc1 (by decide) (by decide) rfl (by decide) ?_
        refine J_iload_n 3 dX6_setByLetters_40 rfl rfl ?_
        refine J_if_lt (tgt := 55) dX6_setByLetters_41 (by decide) (fun hc => ?_) (fun hc => ?_)
        · have hf := xip hc hf
          refine J_sub [] rfl ?_
          exact j_Slips_setByLetters_55  hf
        · have hf := xin' hc hf
          refine J_iload_n 3 dX6_setByLetters_44 rfl rfl ?_
          refine J_bip dX6_setByLetters_45 (by decide) ?_
          refine J_ic_ge (tgt := 55) dX6_setByLetters_47 (by decide) (fun hc => ?_) (fun hc => ?_)
          · have hf := xip hc hf
            refine J_iload_n 2 dX6_setByLetters_50 rfl rfl ?_
            refine J_iload_n 3 dX6_setByLetters_51 rfl rfl ?_
            refine J_ic_ne (tgt := 60) dX6_setByLetters_52 (by decide) (fun hc => ?_) (fun hc => ?_)
            · have hf := xip hc hf
              refine J_sub [] rfl ?_
              exact j_Slips_setByLetters_55  hf
            · have hf := xin' hc hf
              refine J_aload_n 0 dX6_setByLetters_60 rfl rfl ?_
              refine J_getRl (j := 1) xcf6 dX6_setByLetters_61 kO9 (Or.inl xq217) (by decide) (by decide) rf_9_1 ?_
              refine J_iload_n 2 dX6_setByLetters_64 rfl rfl ?_
              refine J_bip dX6_setByLetters_65 (by decide) ?_
              refine J_imul dX6_setByLetters_67 ?_
              refine J_iload_n 3 dX6_setByLetters_68 rfl rfl ?_
              refine J_iadd dX6_setByLetters_69 ?_
              refine J_iload 4 dX6_setByLetters_70 rfl ?_
              obtain ⟨r1, h2, hq, hf⟩ := xc2_e hf
              refine J_cSi (Mc := mX6_exchange) [xR 11, xI (w32 ((w32 (l2 * 26)) + l3)), xI l4] dX6_setByLetters_72 (fc_Slips_exchange.fit ⟨xbl rfl, xbl rfl⟩) rfl ⟨Or.inl xq613, xq614⟩ rfl (xbl rfl) (xbl rfl) (jm_Slips_exchange kO11 hq) ?_
              exact J_ireti dX6_setByLetters_75 rfl (xq_i hf)
          · have hf := xin' hc hf
            refine J_sub [] rfl ?_
            exact j_Slips_setByLetters_55  hf
      · have hf := xin' hc1 hf
        refine J_by (c := l1 = 2) (fun hc2 => ?_) (fun hc2 => ?_)
        · have hf := xip hc2 hf
          refine J_tswIn (tgt := 76) dX6_setByLetters_14 2 hc2 (by decide) (by decide) rfl (by decide) ?_
          refine J_aload_n 0 dX6_setByLetters_76 rfl rfl ?_
          refine J_getRl (j := 2) xcf6 dX6_setByLetters_77 kO9 (Or.inl xq218) (by decide) (by decide) rf_9_2 ?_
          refine J_iload_n 2 dX6_setByLetters_80 rfl rfl ?_
          refine J_iload 4 dX6_setByLetters_81 rfl ?_
          obtain ⟨r3, h4, hq, hf⟩ := xc2_e hf
          refine J_cSi (Mc := mX6_exchange) [xR 12, xI l2, xI l4] dX6_setByLetters_83 (fc_Slips_exchange.fit ⟨xbl rfl, xbl rfl⟩) rfl ⟨Or.inl xq613, xq614⟩ rfl (xbl rfl) (xbl rfl) (jm_Slips_exchange kO12 hq) ?_
          exact J_ireti dX6_setByLetters_86 rfl (xq_i hf)
        · have hf := xin' hc2 hf
          refine J_by (c := l1 = 3) (fun hc3 => ?_) (fun hc3 => ?_)
          · have hf := xip hc3 hf
            refine J_tswIn (tgt := 87) dX6_setByLetters_14 3 hc3 (by decide) (by decide) rfl (by decide) ?_
            refine J_aload_n 0 dX6_setByLetters_87 rfl rfl ?_
            refine J_getRl (j := 3) xcf6 dX6_setByLetters_88 kO9 (Or.inl xq219) (by decide) (by decide) rf_9_3 ?_
            refine J_iload_n 2 dX6_setByLetters_91 rfl rfl ?_
            refine J_iload 4 dX6_setByLetters_92 rfl ?_
            obtain ⟨r5, h6, hq, hf⟩ := xc2_e hf
            refine J_cSi (Mc := mX6_exchange) [xR 13, xI l2, xI l4] dX6_setByLetters_94 (fc_Slips_exchange.fit ⟨xbl rfl, xbl rfl⟩) rfl ⟨Or.inl xq613, xq614⟩ rfl (xbl rfl) (xbl rfl) (jm_Slips_exchange kO13 hq) ?_
            exact J_ireti dX6_setByLetters_97 rfl (xq_i hf)
          · have hf := xin' hc3 hf
            refine J_tswOut (tgt := 98) dX6_setByLetters_14 (by omega) (by decide) ?_
            refine J_bip dX6_setByLetters_98 (by decide) ?_
            exact J_ireti dX6_setByLetters_100 rfl (xq_i hf)
    · have hf := xin' hc hf
      refine J_bip dX6_setByLetters_10 (by decide) ?_
      exact J_ireti dX6_setByLetters_12 rfl (xq_i hf)
theorem dX11_price_0 : decode cX11_price 0 = .ok (.iload 4, 2) := by decide +kernel
theorem dX11_price_2 : decode cX11_price 2 = .ok (.ifCond .lt 11, 3) := by decide +kernel
theorem dX11_price_5 : decode cX11_price 5 = .ok (.iload 4, 2) := by decide +kernel
theorem dX11_price_7 : decode cX11_price 7 = .ok (.sipush 9999, 3) := by decide +kernel
theorem dX11_price_10 : decode cX11_price 10 = .ok (.if_icmp .le 6, 3) := by decide +kernel
theorem dX11_price_13 : decode cX11_price 13 = .ok (.bipush (-2), 2) := by decide +kernel
theorem dX11_price_15 : decode cX11_price 15 = .ok (.ireturn, 1) := by decide +kernel
theorem dX11_price_16 : decode cX11_price 16 = .ok (.iload_n 2, 1) := by decide +kernel
theorem dX11_price_17 : decode cX11_price 17 = .ok (.iconst (-1), 1) := by decide +kernel
theorem dX11_price_18 : decode cX11_price 18 = .ok (.if_icmp .ne 19, 3) := by decide +kernel
theorem dX11_price_21 : decode cX11_price 21 = .ok (.iload_n 3, 1) := by decide +kernel
theorem dX11_price_22 : decode cX11_price 22 = .ok (.iconst (-1), 1) := by decide +kernel
theorem dX11_price_23 : decode cX11_price 23 = .ok (.if_icmp .ne 14, 3) := by decide +kernel
theorem dX11_price_26 : decode cX11_price 26 = .ok (.aload_n 0, 1) := by decide +kernel
theorem dX11_price_27 : decode cX11_price 27 = .ok (.getfield 26, 3) := by decide +kernel
theorem dX11_price_30 : decode cX11_price 30 = .ok (.iload_n 1, 1) := by decide +kernel
theorem dX11_price_31 : decode cX11_price 31 = .ok (.iload 4, 2) := by decide +kernel
theorem dX11_price_33 : decode cX11_price 33 = .ok (.invokevirtual 166, 3) := by decide +kernel
theorem dX11_price_36 : decode cX11_price 36 = .ok (.ireturn, 1) := by decide +kernel
theorem dX11_price_37 : decode cX11_price 37 = .ok (.aload_n 0, 1) := by decide +kernel
theorem dX11_price_38 : decode cX11_price 38 = .ok (.getfield 26, 3) := by decide +kernel
theorem dX11_price_41 : decode cX11_price 41 = .ok (.iload_n 1, 1) := by decide +kernel
theorem dX11_price_42 : decode cX11_price 42 = .ok (.iload_n 2, 1) := by decide +kernel
theorem dX11_price_43 : decode cX11_price 43 = .ok (.iload_n 3, 1) := by decide +kernel
theorem dX11_price_44 : decode cX11_price 44 = .ok (.iload 4, 2) := by decide +kernel
theorem dX11_price_46 : decode cX11_price 46 = .ok (.invokevirtual 169, 3) := by decide +kernel
theorem dX11_price_49 : decode cX11_price 49 = .ok (.ireturn, 1) := by decide +kernel
theorem j_WM_price_37 {l1 : Int} {l2 : Int} {l3 : Int} {l4 : Int} {h : xH} {r0 : Int} {h0 : xH}  (hf : f_WM_price_37 l1 l2 l3 l4 h = some (r0, h0))  : J mX11_price true 0 0 37 xKn [(0, xR 1), (1, xI l1), (2, xI l2), (3, xI l3), (4, xI l4)] [] h (xEq (some r0) h0) := by
  unfold f_WM_price_37 at hf
  refine J_aload_n 0 dX11_price_37 rfl rfl ?_
  refine J_getRl (j := 2) xcf11 dX11_price_38 kO1 (Or.inl xq437) (by decide) (by decide) rf_1_2 ?_
  refine J_iload_n 1 dX11_price_41 rfl rfl ?_
  refine J_iload_n 2 dX11_price_42 rfl rfl ?_
  refine J_iload_n 3 dX11_price_43 rfl rfl ?_
  refine J_iload 4 dX11_price_44 rfl ?_
  obtain ⟨r1, h2, hq, hf⟩ := xc2_e hf
  refine J_cVi (Mc := mX6_setByLetters) [xI l1, xI l2, xI l3, xI l4] dX11_price_46 (fc_Slips_setByLetters.fit ⟨xbl rfl, xbl rfl⟩) rfl ⟨Or.inr ⟨_, xq609⟩, xq611, xq20⟩ kO9 (ci := 6) rfl rfl (xbl rfl) (xbl rfl) (jm_Slips_setByLetters  hq) ?_
  exact J_ireti dX11_price_49 rfl (xq_i hf)
theorem jm_WM_price {l1 : Int} {l2 : Int} {l3 : Int} {l4 : Int} {h : xH} {r0 : Int} {h0 : xH}  (hf : f_WM_price l1 l2 l3 l4 h = some (r0, h0)) : J mX11_price true 0 0 0 xKn (xen 0 [xR 1, xI l1, xI l2, xI l3, xI l4]) [] h (xEq (some r0) h0) := by
  unfold f_WM_price at hf
  refine J_cong (ls2 := [(0, xR 1), (1, xI l1), (2, xI l2), (3, xI l3), (4, xI l4)]) (st2 := []) rfl rfl ?_
  refine J_iload 4 dX11_price_0 rfl ?_
  refine J_if_lt (tgt := 13) dX11_price_2 (by decide) (fun hc => ?_) (fun hc => ?_)
  · have hf := xip hc hf
    refine J_bip dX11_price_13 (by decide) ?_
    exact J_ireti dX11_price_15 rfl (xq_i hf)
  · have hf := xin' hc hf
    refine J_iload 4 dX11_price_5 rfl ?_
    refine J_sip dX11_price_7 (by decide) ?_
    refine J_ic_le (tgt := 16) dX11_price_10 (by decide) (fun hc => ?_) (fun hc => ?_)
    · have hf := xip hc hf
      refine J_bip dX11_price_13 (by decide) ?_
      exact J_ireti dX11_price_15 rfl (xq_i hf)
    · have hf := xin' hc hf
      refine J_iload_n 2 dX11_price_16 rfl rfl ?_
      refine J_iconst dX11_price_17 (by decide) ?_
      refine J_ic_ne (tgt := 37) dX11_price_18 (by decide) (fun hc => ?_) (fun hc => ?_)
      · have hf := xip hc hf
        refine J_iload_n 3 dX11_price_21 rfl rfl ?_
        refine J_iconst dX11_price_22 (by decide) ?_
        refine J_ic_ne (tgt := 37) dX11_price_23 (by decide) (fun hc => ?_) (fun hc => ?_)
        · have hf := xip hc hf
          refine J_aload_n 0 dX11_price_26 rfl rfl ?_
          refine J_getRl (j := 2) xcf11 dX11_price_27 kO1 (Or.inl xq437) (by decide) (by decide) rf_1_2 ?_
          refine J_iload_n 1 dX11_price_30 rfl rfl ?_
          refine J_iload 4 dX11_price_31 rfl ?_
          obtain ⟨r1, h2, hq, hf⟩ := xc2_e hf
          refine J_cVi (Mc := mX6_setKind) [xI l1, xI l4] dX11_price_33 (fc_Slips_setKind.fit ⟨xbl rfl, xbl rfl⟩) rfl ⟨Or.inr ⟨_, xq605⟩, xq607, xq19⟩ kO9 (ci := 6) rfl rfl (xbl rfl) (xbl rfl) (jm_Slips_setKind  hq) ?_
          exact J_ireti dX11_price_36 rfl (xq_i hf)
        · have hf := xin' hc hf
          exact j_WM_price_37  hf
      · have hf := xin' hc hf
        exact j_WM_price_37  hf
theorem dX7_seek_0 : decode cX7_seek 0 = .ok (.iload_n 2, 1) := by decide +kernel
theorem dX7_seek_1 : decode cX7_seek 1 = .ok (.istore 4, 2) := by decide +kernel
theorem dX7_seek_3 : decode cX7_seek 3 = .ok (.iload 4, 2) := by decide +kernel
theorem dX7_seek_5 : decode cX7_seek 5 = .ok (.iload_n 3, 1) := by decide +kernel
theorem dX7_seek_6 : decode cX7_seek 6 = .ok (.if_icmp .ge 38, 3) := by decide +kernel
theorem dX7_seek_9 : decode cX7_seek 9 = .ok (.iload 4, 2) := by decide +kernel
theorem dX7_seek_11 : decode cX7_seek 11 = .ok (.ifCond .lt 27, 3) := by decide +kernel
theorem dX7_seek_14 : decode cX7_seek 14 = .ok (.iload 4, 2) := by decide +kernel
theorem dX7_seek_16 : decode cX7_seek 16 = .ok (.aload_n 0, 1) := by decide +kernel
theorem dX7_seek_17 : decode cX7_seek 17 = .ok (.getfield 9, 3) := by decide +kernel
theorem dX7_seek_20 : decode cX7_seek 20 = .ok (.arraylength, 1) := by decide +kernel
theorem dX7_seek_21 : decode cX7_seek 21 = .ok (.if_icmp .ge 17, 3) := by decide +kernel
theorem dX7_seek_24 : decode cX7_seek 24 = .ok (.aload_n 0, 1) := by decide +kernel
theorem dX7_seek_25 : decode cX7_seek 25 = .ok (.getfield 9, 3) := by decide +kernel
theorem dX7_seek_28 : decode cX7_seek 28 = .ok (.iload 4, 2) := by decide +kernel
theorem dX7_seek_30 : decode cX7_seek 30 = .ok (.iaload, 1) := by decide +kernel
theorem dX7_seek_31 : decode cX7_seek 31 = .ok (.iload_n 1, 1) := by decide +kernel
theorem dX7_seek_32 : decode cX7_seek 32 = .ok (.if_icmp .ne 6, 3) := by decide +kernel
theorem dX7_seek_35 : decode cX7_seek 35 = .ok (.iload 4, 2) := by decide +kernel
theorem dX7_seek_37 : decode cX7_seek 37 = .ok (.ireturn, 1) := by decide +kernel
theorem dX7_seek_38 : decode cX7_seek 38 = .ok (.iinc 4 1, 3) := by decide +kernel
theorem dX7_seek_41 : decode cX7_seek 41 = .ok (.goto (-38), 3) := by decide +kernel
theorem dX7_seek_44 : decode cX7_seek 44 = .ok (.iload_n 3, 1) := by decide +kernel
theorem dX7_seek_45 : decode cX7_seek 45 = .ok (.ireturn, 1) := by decide +kernel
theorem j_Tape_seek_44 {l3 : Int} {h : xH} {r0 : Int}  (hf : f_Tape_seek_44 l3 h = some r0)  : J mX7_seek true 0 0 44 xKn [(3, xI l3)] [] h (xEq (some r0) h) := by
  unfold f_Tape_seek_44 at hf
  refine J_iload_n 0 dX7_seek_44 rfl rfl ?_
  exact J_ireti dX7_seek_45 rfl (xq_p hf)
theorem j_Tape_seek_38 {l1 : Int} {l3 : Int} {l4 : Int} {h : xH} {x : (Int ⊕ (Unit ⊕ Int))} {Q : xQ}  (hf : f_Tape_seek_38 l1 l3 l4 h = some x) (kb : ∀ (l4' : Int), x = Sum.inl l4' → J mX7_seek true 0 0 3 xKn [(0, xR 2), (1, xI l1), (3, xI l3), (4, xI l4')] [] h Q) (ke : x = (Sum.inr (Sum.inl ())) → J mX7_seek true 0 0 44 xKn [(3, xI l3)] [] h Q) (kr : ∀ v : Int, x = (Sum.inr (Sum.inr v)) → Q (some v) xKn h) : J mX7_seek true 0 0 38 xKn [(0, xR 2), (1, xI l1), (3, xI l3), (4, xI l4)] [] h Q := by
  unfold f_Tape_seek_38 at hf
  obtain ⟨x1, ex1, hf⟩ := xlet_e hf
  refine J_iinc (ls' := [(4, xI x1), (0, xR 2), (1, xI l1), (3, xI l3)]) 3 dX7_seek_38 rfl (by decide) ex1 rfl ?_
  refine J_goto (tgt := 3) dX7_seek_41 (by decide) ?_
  refine J_sub [1, 2, 3, 0] rfl ?_
  exact kb _ (xinl hf)
theorem j_Tape_seek_s3 {l1 : Int} {l3 : Int} {l4 : Int} {h : xH} {x : (Int ⊕ (Unit ⊕ Int))} {Q : xQ}  (hf : f_Tape_seek_s3 l1 l3 l4 h = some x) (kb : ∀ (l4' : Int), x = Sum.inl l4' → J mX7_seek true 0 0 3 xKn [(0, xR 2), (1, xI l1), (3, xI l3), (4, xI l4')] [] h Q) (ke : x = (Sum.inr (Sum.inl ())) → J mX7_seek true 0 0 44 xKn [(3, xI l3)] [] h Q) (kr : ∀ v : Int, x = (Sum.inr (Sum.inr v)) → Q (some v) xKn h) : J mX7_seek true 0 0 3 xKn [(0, xR 2), (1, xI l1), (3, xI l3), (4, xI l4)] [] h Q := by
  unfold f_Tape_seek_s3 at hf
  refine J_iload 3 dX7_seek_3 rfl ?_
  refine J_iload_n 2 dX7_seek_5 rfl rfl ?_
  refine J_ic_ge (tgt := 44) dX7_seek_6 (by decide) (fun hc => ?_) (fun hc => ?_)
  · have hf := xip hc hf
    refine J_iload 3 dX7_seek_9 rfl ?_
    refine J_if_lt (tgt := 38) dX7_seek_11 (by decide) (fun hc => ?_) (fun hc => ?_)
    · have hf := xip hc hf
      exact j_Tape_seek_38  hf kb ke kr
    · have hf := xin' hc hf
      refine J_iload 3 dX7_seek_14 rfl ?_
      refine J_aload_n 0 dX7_seek_16 rfl rfl ?_
      refine J_getRl (j := 0) xcf7 dX7_seek_17 kO2 (Or.inl xq155) (by decide) (by decide) rf_2_0 ?_
      refine J_alen dX7_seek_20 (xK_r1 kO3) (Or.inl kO3) (by decide) nA3 ?_
      refine J_ic_ge (tgt := 38) dX7_seek_21 (by decide) (fun hc => ?_) (fun hc => ?_)
      · have hf := xip hc hf
        refine J_aload_n 0 dX7_seek_24 rfl rfl ?_
        refine J_getRl (j := 0) xcf7 dX7_seek_25 kO2 (Or.inl xq155) (by decide) (by decide) rf_2_0 ?_
        refine J_iload 3 dX7_seek_28 rfl ?_
        obtain ⟨hg, hf⟩ := xgd_e hf
        refine J_iald dX7_seek_30 (xK_r1 kO3) kO3 hg nA3 ?_
        refine J_iload_n 1 dX7_seek_31 rfl rfl ?_
        refine J_ic_ne (tgt := 38) dX7_seek_32 (by decide) (fun hc => ?_) (fun hc => ?_)
        · have hf := xip hc hf
          refine J_iload 3 dX7_seek_35 rfl ?_
          exact J_ireti dX7_seek_37 rfl (kr _ (xinl hf))
        · have hf := xin' hc hf
          exact j_Tape_seek_38  hf kb ke kr
      · have hf := xin' hc hf
        exact j_Tape_seek_38  hf kb ke kr
  · have hf := xin' hc hf
    refine J_sub [2] rfl ?_
    exact ke  (xinl hf)
theorem j_Tape_seek_3 {l1 : Int} {l3 : Int} {l4 : Int} {h : xH} {r0 : Int}  (hf : f_Tape_seek_3 l1 l3 l4 h = some r0)  : J mX7_seek true 0 0 3 xKn [(0, xR 2), (1, xI l1), (3, xI l3), (4, xI l4)] [] h (xEq (some r0) h) := by
  unfold f_Tape_seek_3 at hf
  obtain ⟨b0, hb0, hf⟩ := xc1_e hf
  refine xloop_ind (P := fun s : Int => J mX7_seek true 0 0 3 xKn [(0, xR 2), (1, xI l1), (3, xI l3), (4, xI s)] [] h (xEq (some r0) h)) hb0 (fun s x1 hs ib ie => ?_)
  exact j_Tape_seek_s3  hs (fun _ e => ib _ e) (fun  e => by have := ie _ e; subst this; exact j_Tape_seek_44  hf) (fun _ e => by have := ie _ e; subst this; exact xq_p hf)
theorem jm_Tape_seek {l1 : Int} {l2 : Int} {l3 : Int} {h : xH} {r0 : Int}  (hf : f_Tape_seek l1 l2 l3 h = some r0) : J mX7_seek true 0 0 0 xKn (xen 0 [xR 2, xI l1, xI l2, xI l3]) [] h (xEq (some r0) h) := by
  unfold f_Tape_seek at hf
  refine J_cong (ls2 := [(0, xR 2), (1, xI l1), (2, xI l2), (3, xI l3)]) (st2 := []) rfl rfl ?_
  refine J_iload_n 2 dX7_seek_0 rfl rfl ?_
  refine J_istore (ls' := [(4, xI l2), (0, xR 2), (1, xI l1), (2, xI l2), (3, xI l3)]) dX7_seek_1 (by decide) rfl rfl ?_
  refine J_sub [1, 2, 4, 0] rfl ?_
  exact j_Tape_seek_3  hf
theorem dX7_takeTwo_0 : decode cX7_takeTwo 0 = .ok (.aload_n 0, 1) := by decide +kernel
theorem dX7_takeTwo_1 : decode cX7_takeTwo 1 = .ok (.getfield 15, 3) := by decide +kernel
theorem dX7_takeTwo_4 : decode cX7_takeTwo 4 = .ok (.istore 4, 2) := by decide +kernel
theorem dX7_takeTwo_6 : decode cX7_takeTwo 6 = .ok (.aload_n 0, 1) := by decide +kernel
theorem dX7_takeTwo_7 : decode cX7_takeTwo 7 = .ok (.iconst 0, 1) := by decide +kernel
theorem dX7_takeTwo_8 : decode cX7_takeTwo 8 = .ok (.putfield 15, 3) := by decide +kernel
theorem dX7_takeTwo_11 : decode cX7_takeTwo 11 = .ok (.aload_n 0, 1) := by decide +kernel
theorem dX7_takeTwo_12 : decode cX7_takeTwo 12 = .ok (.bipush 61, 2) := by decide +kernel
theorem dX7_takeTwo_14 : decode cX7_takeTwo 14 = .ok (.iconst 0, 1) := by decide +kernel
theorem dX7_takeTwo_15 : decode cX7_takeTwo 15 = .ok (.iload 4, 2) := by decide +kernel
theorem dX7_takeTwo_17 : decode cX7_takeTwo 17 = .ok (.invokevirtual 23, 3) := by decide +kernel
theorem dX7_takeTwo_20 : decode cX7_takeTwo 20 = .ok (.istore 5, 2) := by decide +kernel
theorem dX7_takeTwo_22 : decode cX7_takeTwo 22 = .ok (.aload_n 0, 1) := by decide +kernel
theorem dX7_takeTwo_23 : decode cX7_takeTwo 23 = .ok (.iconst 0, 1) := by decide +kernel
theorem dX7_takeTwo_24 : decode cX7_takeTwo 24 = .ok (.iload 5, 2) := by decide +kernel
theorem dX7_takeTwo_26 : decode cX7_takeTwo 26 = .ok (.iload_n 1, 1) := by decide +kernel
theorem dX7_takeTwo_27 : decode cX7_takeTwo 27 = .ok (.aload_n 2, 1) := by decide +kernel
theorem dX7_takeTwo_28 : decode cX7_takeTwo 28 = .ok (.invokevirtual 19, 3) := by decide +kernel
theorem dX7_takeTwo_31 : decode cX7_takeTwo 31 = .ok (.ifCond .eq 22, 3) := by decide +kernel
theorem dX7_takeTwo_34 : decode cX7_takeTwo 34 = .ok (.aload_n 0, 1) := by decide +kernel
theorem dX7_takeTwo_35 : decode cX7_takeTwo 35 = .ok (.iload 5, 2) := by decide +kernel
theorem dX7_takeTwo_37 : decode cX7_takeTwo 37 = .ok (.iconst 1, 1) := by decide +kernel
theorem dX7_takeTwo_38 : decode cX7_takeTwo 38 = .ok (.iadd, 1) := by decide +kernel
theorem dX7_takeTwo_39 : decode cX7_takeTwo 39 = .ok (.iload 4, 2) := by decide +kernel
theorem dX7_takeTwo_41 : decode cX7_takeTwo 41 = .ok (.iload_n 1, 1) := by decide +kernel
theorem dX7_takeTwo_42 : decode cX7_takeTwo 42 = .ok (.aload_n 3, 1) := by decide +kernel
theorem dX7_takeTwo_43 : decode cX7_takeTwo 43 = .ok (.invokevirtual 19, 3) := by decide +kernel
theorem dX7_takeTwo_46 : decode cX7_takeTwo 46 = .ok (.ifCond .eq 7, 3) := by decide +kernel
theorem dX7_takeTwo_49 : decode cX7_takeTwo 49 = .ok (.iconst 1, 1) := by decide +kernel
theorem dX7_takeTwo_50 : decode cX7_takeTwo 50 = .ok (.goto 4, 3) := by decide +kernel
theorem dX7_takeTwo_53 : decode cX7_takeTwo 53 = .ok (.iconst 0, 1) := by decide +kernel
theorem dX7_takeTwo_54 : decode cX7_takeTwo 54 = .ok (.ireturn, 1) := by decide +kernel
theorem jm_Tape_takeTwo {l1 : Int} {l2 : Int} {l3 : Int} {h : xH} {r0 : Int} {h0 : xH} (kl2 : xK l2 = 3 + 4) (kl3 : xK l3 = 3 + 4) (hf : f_Tape_takeTwo l1 l2 l3 h = some (r0, h0)) : J mX7_takeTwo true 0 0 0 xKn (xen 0 [xR 2, xI l1, xR l2, xR l3]) [] h (xEq (some r0) h0) := by
  unfold f_Tape_takeTwo at hf
  refine J_cong (ls2 := [(0, xR 2), (1, xI l1), (2, xR l2), (3, xR l3)]) (st2 := []) rfl rfl ?_
  refine J_aload_n 0 dX7_takeTwo_0 rfl rfl ?_
  refine J_getI (j := 1) xcf7 dX7_takeTwo_1 (xK_rg kO2) kO2 (Or.inl xq156) (by decide) (by decide) ?_
  obtain ⟨x1, ex1, hf⟩ := xlet_e hf
  refine J_istore (ls' := [(4, xI x1), (0, xR 2), (1, xI l1), (2, xR l2), (3, xR l3)]) dX7_takeTwo_4 (by decide) ex1 rfl ?_
  refine J_aload_n 1 dX7_takeTwo_6 rfl rfl ?_
  refine J_iconst dX7_takeTwo_7 (by decide) ?_
  obtain ⟨h2, eh2, hf⟩ := xlet_e hf
  refine J_putI (j := 1) xcf7 dX7_takeTwo_8 (xK_rg kO2) kO2 (Or.inl xq156) (by decide) (by decide) eh2 ?_
  refine J_aload_n 1 dX7_takeTwo_11 rfl rfl ?_
  refine J_bip dX7_takeTwo_12 (by decide) ?_
  refine J_iconst dX7_takeTwo_14 (by decide) ?_
  refine J_iload 0 dX7_takeTwo_15 rfl ?_
  obtain ⟨r3, hq, hf⟩ := xc1_e hf
  refine J_cVi (Mc := mX7_seek) [xI 61, xI 0, xI x1] dX7_takeTwo_17 (fc_Tape_seek.fit ⟨xbl rfl, xbl rfl⟩) rfl ⟨Or.inl xq624, xq626, xq22⟩ kO2 (ci := 7) rfl rfl (xbl rfl) (xbl rfl) (jm_Tape_seek  hq) ?_
  refine J_istore (ls' := [(5, xI r3), (4, xI x1), (0, xR 2), (1, xI l1), (2, xR l2), (3, xR l3)]) dX7_takeTwo_20 (by decide) rfl rfl ?_
  refine J_aload_n 2 dX7_takeTwo_22 rfl rfl ?_
  refine J_iconst dX7_takeTwo_23 (by decide) ?_
  refine J_iload 0 dX7_takeTwo_24 rfl ?_
  refine J_iload_n 3 dX7_takeTwo_26 rfl rfl ?_
  refine J_aload_n 4 dX7_takeTwo_27 rfl rfl ?_
  obtain ⟨r4, h5, hq, hf⟩ := xc2_e hf
  refine J_cVi (Mc := mX7_read) [xI 0, xI r3, xI l1, xR l2] dX7_takeTwo_28 (fc_Tape_read.fit ⟨xbl rfl, xbl rfl⟩) rfl ⟨Or.inl xq503, xq505, xq2⟩ kO2 (ci := 7) rfl rfl (xbl rfl) (xbl rfl) (jm_Tape_read kl2 hq) ?_
  refine J_if_eq (tgt := 53) dX7_takeTwo_31 (by decide) (fun hc => ?_) (fun hc => ?_)
  · have hf := xip hc hf
    refine J_iconst dX7_takeTwo_53 (by decide) ?_
    exact J_iretz dX7_takeTwo_54 rfl (by decide) (xq_i hf)
  · have hf := xin' hc hf
    refine J_aload_n 2 dX7_takeTwo_34 rfl rfl ?_
    refine J_iload 0 dX7_takeTwo_35 rfl ?_
    refine J_iconst dX7_takeTwo_37 (by decide) ?_
    refine J_iadd dX7_takeTwo_38 ?_
    refine J_iload 1 dX7_takeTwo_39 rfl ?_
    refine J_iload_n 3 dX7_takeTwo_41 rfl rfl ?_
    refine J_aload_n 5 dX7_takeTwo_42 rfl rfl ?_
    obtain ⟨r6, h7, hq, hf⟩ := xc2_e hf
    refine J_cVi (Mc := mX7_read) [xI (w32 (r3 + 1)), xI x1, xI l1, xR l3] dX7_takeTwo_43 (fc_Tape_read.fit ⟨xbl rfl, xbl rfl⟩) rfl ⟨Or.inl xq503, xq505, xq2⟩ kO2 (ci := 7) rfl rfl (xbl rfl) (xbl rfl) (jm_Tape_read kl3 hq) ?_
    refine J_if_eq (tgt := 53) dX7_takeTwo_46 (by decide) (fun hc => ?_) (fun hc => ?_)
    · have hf := xip hc hf
      refine J_iconst dX7_takeTwo_53 (by decide) ?_
      exact J_iretz dX7_takeTwo_54 rfl (by decide) (xq_i hf)
    · have hf := xin' hc hf
      refine J_iconst dX7_takeTwo_49 (by decide) ?_
      refine J_goto (tgt := 54) dX7_takeTwo_50 (by decide) ?_
      exact J_iretz dX7_takeTwo_54 rfl (by decide) (xq_i hf)
theorem dX5_append_0 : decode cX5_append 0 = .ok (.aload_n 0, 1) := by decide +kernel
theorem dX5_append_1 : decode cX5_append 1 = .ok (.aload_n 0, 1) := by decide +kernel
theorem dX5_append_2 : decode cX5_append 2 = .ok (.getfield 24, 3) := by decide +kernel
theorem dX5_append_5 : decode cX5_append 5 = .ok (.aload_n 1, 1) := by decide +kernel
theorem dX5_append_6 : decode cX5_append 6 = .ok (.invokevirtual 44, 3) := by decide +kernel
theorem dX5_append_9 : decode cX5_append 9 = .ok (.return_, 1) := by decide +kernel
theorem jm_Rows_append {l0 : Int} {l1 : Int} {h : xH} {h0 : xH} (kl0 : xK l0 = 3 + 5) (kl1 : xK l1 = 3 + 4) (hf : f_Rows_append l0 l1 h = some h0) : J mX5_append true 0 0 0 xKn (xen 0 [xR l0, xR l1]) [] h (xEq none h0) := by
  unfold f_Rows_append at hf
  refine J_cong (ls2 := [(0, xR l0), (1, xR l1)]) (st2 := []) rfl rfl ?_
  refine J_aload_n 0 dX5_append_0 rfl rfl ?_
  refine J_aload_n 0 dX5_append_1 rfl rfl ?_
  refine J_getI (j := 2) xcf5 dX5_append_2 (xK_rg kl0) kl0 (Or.inl xq181) (by decide) (by decide) ?_
  refine J_aload_n 1 dX5_append_5 rfl rfl ?_
  obtain ⟨h1, hq, hf⟩ := xc1_e hf
  refine J_cVv (Mc := mX5_insert) [xI (h l0 2), xR l1] dX5_append_6 (fc_Rows_insert.fit ⟨xbl rfl, xbl rfl⟩) rfl ⟨Or.inl xq637, xq553, xq12⟩ kl0 (ci := 5) rfl rfl (xbl rfl) (xbl rfl) (jm_Rows_insert kl0 kl1 hq) ?_
  exact J_rt dX5_append_9 rfl (xq_v hf)
theorem dX6_addSound_0 : decode cX6_addSound 0 = .ok (.aload_n 0, 1) := by decide +kernel
theorem dX6_addSound_1 : decode cX6_addSound 1 = .ok (.getfield 29, 3) := by decide +kernel
theorem dX6_addSound_4 : decode cX6_addSound 4 = .ok (.getfield 43, 3) := by decide +kernel
theorem dX6_addSound_7 : decode cX6_addSound 7 = .ok (.istore 4, 2) := by decide +kernel
theorem dX6_addSound_9 : decode cX6_addSound 9 = .ok (.aload_n 0, 1) := by decide +kernel
theorem dX6_addSound_10 : decode cX6_addSound 10 = .ok (.getfield 29, 3) := by decide +kernel
theorem dX6_addSound_13 : decode cX6_addSound 13 = .ok (.invokevirtual 47, 3) := by decide +kernel
theorem dX6_addSound_16 : decode cX6_addSound 16 = .ok (.ifCond .ne 28, 3) := by decide +kernel
theorem dX6_addSound_19 : decode cX6_addSound 19 = .ok (.aload_n 0, 1) := by decide +kernel
theorem dX6_addSound_20 : decode cX6_addSound 20 = .ok (.getfield 33, 3) := by decide +kernel
theorem dX6_addSound_23 : decode cX6_addSound 23 = .ok (.invokevirtual 47, 3) := by decide +kernel
theorem dX6_addSound_26 : decode cX6_addSound 26 = .ok (.ifCond .ne 18, 3) := by decide +kernel
theorem dX6_addSound_29 : decode cX6_addSound 29 = .ok (.iload 4, 2) := by decide +kernel
theorem dX6_addSound_31 : decode cX6_addSound 31 = .ok (.ifCond .lt 13, 3) := by decide +kernel
theorem dX6_addSound_34 : decode cX6_addSound 34 = .ok (.iload 4, 2) := by decide +kernel
theorem dX6_addSound_36 : decode cX6_addSound 36 = .ok (.aload_n 0, 1) := by decide +kernel
theorem dX6_addSound_37 : decode cX6_addSound 37 = .ok (.getfield 36, 3) := by decide +kernel
theorem dX6_addSound_40 : decode cX6_addSound 40 = .ok (.arraylength, 1) := by decide +kernel
theorem dX6_addSound_41 : decode cX6_addSound 41 = .ok (.if_icmp .lt 6, 3) := by decide +kernel
theorem dX6_addSound_44 : decode cX6_addSound 44 = .ok (.bipush (-4), 2) := by decide +kernel
theorem dX6_addSound_46 : decode cX6_addSound 46 = .ok (.ireturn, 1) := by decide +kernel
theorem dX6_addSound_47 : decode cX6_addSound 47 = .ok (.aload_n 0, 1) := by decide +kernel
theorem dX6_addSound_48 : decode cX6_addSound 48 = .ok (.getfield 29, 3) := by decide +kernel
theorem dX6_addSound_51 : decode cX6_addSound 51 = .ok (.aload_n 1, 1) := by decide +kernel
theorem dX6_addSound_52 : decode cX6_addSound 52 = .ok (.invokevirtual 51, 3) := by decide +kernel
theorem dX6_addSound_55 : decode cX6_addSound 55 = .ok (.aload_n 0, 1) := by decide +kernel
theorem dX6_addSound_56 : decode cX6_addSound 56 = .ok (.getfield 33, 3) := by decide +kernel
theorem dX6_addSound_59 : decode cX6_addSound 59 = .ok (.aload_n 2, 1) := by decide +kernel
theorem dX6_addSound_60 : decode cX6_addSound 60 = .ok (.invokevirtual 51, 3) := by decide +kernel
theorem dX6_addSound_63 : decode cX6_addSound 63 = .ok (.aload_n 0, 1) := by decide +kernel
theorem dX6_addSound_64 : decode cX6_addSound 64 = .ok (.getfield 36, 3) := by decide +kernel
theorem dX6_addSound_67 : decode cX6_addSound 67 = .ok (.iload 4, 2) := by decide +kernel
theorem dX6_addSound_69 : decode cX6_addSound 69 = .ok (.iload_n 3, 1) := by decide +kernel
theorem dX6_addSound_70 : decode cX6_addSound 70 = .ok (.iastore, 1) := by decide +kernel
theorem dX6_addSound_71 : decode cX6_addSound 71 = .ok (.iload 4, 2) := by decide +kernel
theorem dX6_addSound_73 : decode cX6_addSound 73 = .ok (.ireturn, 1) := by decide +kernel
theorem jm_Slips_addSound {l1 : Int} {l2 : Int} {l3 : Int} {h : xH} {r0 : Int} {h0 : xH} (kl1 : xK l1 = 3 + 4) (kl2 : xK l2 = 3 + 4) (hf : f_Slips_addSound l1 l2 l3 h = some (r0, h0)) : J mX6_addSound true 0 0 0 xKn (xen 0 [xR 9, xR l1, xR l2, xI l3]) [] h (xEq (some r0) h0) := by
  unfold f_Slips_addSound at hf
  refine J_cong (ls2 := [(0, xR 9), (1, xR l1), (2, xR l2), (3, xI l3)]) (st2 := []) rfl rfl ?_
  refine J_aload_n 0 dX6_addSound_0 rfl rfl ?_
  refine J_getRl (j := 4) xcf6 dX6_addSound_1 kO9 (Or.inl xq220) (by decide) (by decide) rf_9_4 ?_
  refine J_getI (j := 2) xcf5 dX6_addSound_4 (xK_rg kO14) kO14 (Or.inr ⟨_, xq186⟩) (by decide) (by decide) ?_
  obtain ⟨x1, ex1, hf⟩ := xlet_e hf
  refine J_istore (ls' := [(4, xI x1), (0, xR 9), (1, xR l1), (2, xR l2), (3, xI l3)]) dX6_addSound_7 (by decide) ex1 rfl ?_
  refine J_aload_n 1 dX6_addSound_9 rfl rfl ?_
  refine J_getRl (j := 4) xcf6 dX6_addSound_10 kO9 (Or.inl xq220) (by decide) (by decide) rf_9_4 ?_
  obtain ⟨r2, hq, hf⟩ := xc1_e hf
  refine J_cVi (Mc := mX5_isFull) [] dX6_addSound_13 (fc_Rows_isFull.fit ⟨xbl rfl, xbl rfl⟩) rfl ⟨Or.inr ⟨_, xq632⟩, xq546, xq11⟩ kO14 (ci := 5) rfl rfl (xbl rfl) (xbl rfl) (jm_Rows_isFull kO14 hq) ?_
  refine J_if_ne (tgt := 44) dX6_addSound_16 (by decide) (fun hc => ?_) (fun hc => ?_)
  · have hf := xip hc hf
    refine J_aload_n 1 dX6_addSound_19 rfl rfl ?_
    refine J_getRl (j := 5) xcf6 dX6_addSound_20 kO9 (Or.inl xq222) (by decide) (by decide) rf_9_5 ?_
    obtain ⟨r3, hq, hf⟩ := xc1_e hf
    refine J_cVi (Mc := mX5_isFull) [] dX6_addSound_23 (fc_Rows_isFull.fit ⟨xbl rfl, xbl rfl⟩) rfl ⟨Or.inr ⟨_, xq632⟩, xq546, xq11⟩ kO17 (ci := 5) rfl rfl (xbl rfl) (xbl rfl) (jm_Rows_isFull kO17 hq) ?_
    refine J_if_ne (tgt := 44) dX6_addSound_26 (by decide) (fun hc => ?_) (fun hc => ?_)
    · have hf := xip hc hf
      refine J_iload 0 dX6_addSound_29 rfl ?_
      refine J_if_lt (tgt := 44) dX6_addSound_31 (by decide) (fun hc => ?_) (fun hc => ?_)
      · have hf := xip hc hf
        refine J_bip dX6_addSound_44 (by decide) ?_
        exact J_ireti dX6_addSound_46 rfl (xq_i hf)
      · have hf := xin' hc hf
        refine J_iload 0 dX6_addSound_34 rfl ?_
        refine J_aload_n 1 dX6_addSound_36 rfl rfl ?_
        refine J_getRl (j := 6) xcf6 dX6_addSound_37 kO9 (Or.inl xq223) (by decide) (by decide) rf_9_6 ?_
        refine J_alen dX6_addSound_40 (xK_r1 kO20) (Or.inl kO20) (by decide) nA20 ?_
        refine J_ic_lt (tgt := 47) dX6_addSound_41 (by decide) (fun hc => ?_) (fun hc => ?_)
        · have hf := xip hc hf
          refine J_aload_n 1 dX6_addSound_47 rfl rfl ?_
          refine J_getRl (j := 4) xcf6 dX6_addSound_48 kO9 (Or.inl xq220) (by decide) (by decide) rf_9_4 ?_
          refine J_aload_n 2 dX6_addSound_51 rfl rfl ?_
          obtain ⟨h4, hq, hf⟩ := xc1_e hf
          refine J_cVv (Mc := mX5_append) [xR l1] dX6_addSound_52 (fc_Rows_append.fit ⟨xbl rfl, xbl rfl⟩) rfl ⟨Or.inr ⟨_, xq633⟩, xq635, xq24⟩ kO14 (ci := 5) rfl rfl (xbl rfl) (xbl rfl) (jm_Rows_append kO14 kl1 hq) ?_
          refine J_aload_n 1 dX6_addSound_55 rfl rfl ?_
          refine J_getRl (j := 5) xcf6 dX6_addSound_56 kO9 (Or.inl xq222) (by decide) (by decide) rf_9_5 ?_
          refine J_aload_n 3 dX6_addSound_59 rfl rfl ?_
          obtain ⟨h5, hq, hf⟩ := xc1_e hf
          refine J_cVv (Mc := mX5_append) [xR l2] dX6_addSound_60 (fc_Rows_append.fit ⟨xbl rfl, xbl rfl⟩) rfl ⟨Or.inr ⟨_, xq633⟩, xq635, xq24⟩ kO17 (ci := 5) rfl rfl (xbl rfl) (xbl rfl) (jm_Rows_append kO17 kl2 hq) ?_
          refine J_aload_n 1 dX6_addSound_63 rfl rfl ?_
          refine J_getRl (j := 6) xcf6 dX6_addSound_64 kO9 (Or.inl xq223) (by decide) (by decide) rf_9_6 ?_
          refine J_iload 0 dX6_addSound_67 rfl ?_
          refine J_iload_n 4 dX6_addSound_69 rfl rfl ?_
          obtain ⟨hg, hf⟩ := xgd_e hf
          obtain ⟨h6, eh6, hf⟩ := xlet_e hf
          refine J_iast dX6_addSound_70 (xK_r1 kO20) kO20 hg nA20 eh6 ?_
          refine J_iload 0 dX6_addSound_71 rfl ?_
          exact J_ireti dX6_addSound_73 rfl (xq_i hf)
        · have hf := xin' hc hf
          refine J_bip dX6_addSound_44 (by decide) ?_
          exact J_ireti dX6_addSound_46 rfl (xq_i hf)
    · have hf := xin' hc hf
      refine J_bip dX6_addSound_44 (by decide) ?_
      exact J_ireti dX6_addSound_46 rfl (xq_i hf)
  · have hf := xin' hc hf
    refine J_bip dX6_addSound_44 (by decide) ?_
    exact J_ireti dX6_addSound_46 rfl (xq_i hf)
theorem dX11_sound_0 : decode cX11_sound 0 = .ok (.aload_n 0, 1) := by decide +kernel
theorem dX11_sound_1 : decode cX11_sound 1 = .ok (.getfield 12, 3) := by decide +kernel
theorem dX11_sound_4 : decode cX11_sound 4 = .ok (.iconst 3, 1) := by decide +kernel
theorem dX11_sound_5 : decode cX11_sound 5 = .ok (.aload_n 0, 1) := by decide +kernel
theorem dX11_sound_6 : decode cX11_sound 6 = .ok (.getfield 33, 3) := by decide +kernel
theorem dX11_sound_9 : decode cX11_sound 9 = .ok (.aload_n 0, 1) := by decide +kernel
theorem dX11_sound_10 : decode cX11_sound 10 = .ok (.getfield 37, 3) := by decide +kernel
theorem dX11_sound_13 : decode cX11_sound 13 = .ok (.invokevirtual 173, 3) := by decide +kernel
theorem dX11_sound_16 : decode cX11_sound 16 = .ok (.istore_n 2, 1) := by decide +kernel
theorem dX11_sound_17 : decode cX11_sound 17 = .ok (.iload_n 2, 1) := by decide +kernel
theorem dX11_sound_18 : decode cX11_sound 18 = .ok (.ifCond .eq 15, 3) := by decide +kernel
theorem dX11_sound_21 : decode cX11_sound 21 = .ok (.iload_n 1, 1) := by decide +kernel
theorem dX11_sound_22 : decode cX11_sound 22 = .ok (.iconst 1, 1) := by decide +kernel
theorem dX11_sound_23 : decode cX11_sound 23 = .ok (.if_icmp .lt 10, 3) := by decide +kernel
theorem dX11_sound_26 : decode cX11_sound 26 = .ok (.iload_n 1, 1) := by decide +kernel
theorem dX11_sound_27 : decode cX11_sound 27 = .ok (.sipush 9999, 3) := by decide +kernel
theorem dX11_sound_30 : decode cX11_sound 30 = .ok (.if_icmp .le 6, 3) := by decide +kernel
theorem dX11_sound_33 : decode cX11_sound 33 = .ok (.bipush (-2), 2) := by decide +kernel
theorem dX11_sound_35 : decode cX11_sound 35 = .ok (.ireturn, 1) := by decide +kernel
theorem dX11_sound_36 : decode cX11_sound 36 = .ok (.aload_n 0, 1) := by decide +kernel
theorem dX11_sound_37 : decode cX11_sound 37 = .ok (.getfield 26, 3) := by decide +kernel
theorem dX11_sound_40 : decode cX11_sound 40 = .ok (.aload_n 0, 1) := by decide +kernel
theorem dX11_sound_41 : decode cX11_sound 41 = .ok (.getfield 33, 3) := by decide +kernel
theorem dX11_sound_44 : decode cX11_sound 44 = .ok (.aload_n 0, 1) := by decide +kernel
theorem dX11_sound_45 : decode cX11_sound 45 = .ok (.getfield 37, 3) := by decide +kernel
theorem dX11_sound_48 : decode cX11_sound 48 = .ok (.iload_n 1, 1) := by decide +kernel
theorem dX11_sound_49 : decode cX11_sound 49 = .ok (.invokevirtual 177, 3) := by decide +kernel
theorem dX11_sound_52 : decode cX11_sound 52 = .ok (.ireturn, 1) := by decide +kernel
theorem jm_WM_sound {l1 : Int} {h : xH} {r0 : Int} {h0 : xH}  (hf : f_WM_sound l1 h = some (r0, h0)) : J mX11_sound true 0 0 0 xKn (xen 0 [xR 1, xI l1]) [] h (xEq (some r0) h0) := by
  unfold f_WM_sound at hf
  refine J_cong (ls2 := [(0, xR 1), (1, xI l1)]) (st2 := []) rfl rfl ?_
  refine J_aload_n 0 dX11_sound_0 rfl rfl ?_
  refine J_getRl (j := 0) xcf11 dX11_sound_1 kO1 (Or.inl xq435) (by decide) (by decide) rf_1_0 ?_
  refine J_iconst dX11_sound_4 (by decide) ?_
  refine J_aload_n 0 dX11_sound_5 rfl rfl ?_
  refine J_getRl (j := 3) xcf11 dX11_sound_6 kO1 (Or.inl xq438) (by decide) (by decide) rf_1_3 ?_
  refine J_aload_n 0 dX11_sound_9 rfl rfl ?_
  refine J_getRl (j := 4) xcf11 dX11_sound_10 kO1 (Or.inl xq439) (by decide) (by decide) rf_1_4 ?_
  obtain ⟨r1, h2, hq, hf⟩ := xc2_e hf
  refine J_cVi (Mc := mX7_takeTwo) [xI 3, xR 21, xR 23] dX11_sound_13 (fc_Tape_takeTwo.fit ⟨xbl rfl, xbl rfl⟩) rfl ⟨Or.inr ⟨_, xq620⟩, xq622, xq21⟩ kO2 (ci := 7) rfl rfl (xbl rfl) (xbl rfl) (jm_Tape_takeTwo kO21 kO23 hq) ?_
  refine J_istore_n (ls' := [(2, xI r1), (0, xR 1), (1, xI l1)]) dX11_sound_16 rfl (by decide) rfl rfl ?_
  refine J_iload_n 0 dX11_sound_17 rfl rfl ?_
  refine J_if_eq (tgt := 33) dX11_sound_18 (by decide) (fun hc => ?_) (fun hc => ?_)
  · have hf := xip hc hf
    refine J_bip dX11_sound_33 (by decide) ?_
    exact J_ireti dX11_sound_35 rfl (xq_i hf)
  · have hf := xin' hc hf
    refine J_iload_n 2 dX11_sound_21 rfl rfl ?_
    refine J_iconst dX11_sound_22 (by decide) ?_
    refine J_ic_lt (tgt := 33) dX11_sound_23 (by decide) (fun hc => ?_) (fun hc => ?_)
    · have hf := xip hc hf
      refine J_bip dX11_sound_33 (by decide) ?_
      exact J_ireti dX11_sound_35 rfl (xq_i hf)
    · have hf := xin' hc hf
      refine J_iload_n 2 dX11_sound_26 rfl rfl ?_
      refine J_sip dX11_sound_27 (by decide) ?_
      refine J_ic_le (tgt := 36) dX11_sound_30 (by decide) (fun hc => ?_) (fun hc => ?_)
      · have hf := xip hc hf
        refine J_bip dX11_sound_33 (by decide) ?_
        exact J_ireti dX11_sound_35 rfl (xq_i hf)
      · have hf := xin' hc hf
        refine J_aload_n 1 dX11_sound_36 rfl rfl ?_
        refine J_getRl (j := 2) xcf11 dX11_sound_37 kO1 (Or.inl xq437) (by decide) (by decide) rf_1_2 ?_
        refine J_aload_n 1 dX11_sound_40 rfl rfl ?_
        refine J_getRl (j := 3) xcf11 dX11_sound_41 kO1 (Or.inl xq438) (by decide) (by decide) rf_1_3 ?_
        refine J_aload_n 1 dX11_sound_44 rfl rfl ?_
        refine J_getRl (j := 4) xcf11 dX11_sound_45 kO1 (Or.inl xq439) (by decide) (by decide) rf_1_4 ?_
        refine J_iload_n 2 dX11_sound_48 rfl rfl ?_
        obtain ⟨r3, h4, hq, hf⟩ := xc2_e hf
        refine J_cVi (Mc := mX6_addSound) [xR 21, xR 23, xI l1] dX11_sound_49 (fc_Slips_addSound.fit ⟨xbl rfl, xbl rfl⟩) rfl ⟨Or.inr ⟨_, xq628⟩, xq630, xq23⟩ kO9 (ci := 6) rfl rfl (xbl rfl) (xbl rfl) (jm_Slips_addSound kO21 kO23 hq) ?_
        exact J_ireti dX11_sound_52 rfl (xq_i hf)
theorem dX11_model_0 : decode cX11_model 0 = .ok (.iload_n 1, 1) := by decide +kernel
theorem dX11_model_1 : decode cX11_model 1 = .ok (.ifCond .lt 9, 3) := by decide +kernel
theorem dX11_model_4 : decode cX11_model 4 = .ok (.iload_n 1, 1) := by decide +kernel
theorem dX11_model_5 : decode cX11_model 5 = .ok (.ldc 117, 2) := by decide +kernel
theorem dX11_model_7 : decode cX11_model 7 = .ok (.if_icmp .le 6, 3) := by decide +kernel
theorem dX11_model_10 : decode cX11_model 10 = .ok (.bipush (-2), 2) := by decide +kernel
theorem dX11_model_12 : decode cX11_model 12 = .ok (.ireturn, 1) := by decide +kernel
theorem dX11_model_13 : decode cX11_model 13 = .ok (.aload_n 0, 1) := by decide +kernel
theorem dX11_model_14 : decode cX11_model 14 = .ok (.getfield 19, 3) := by decide +kernel
theorem dX11_model_17 : decode cX11_model 17 = .ok (.getfield 181, 3) := by decide +kernel
theorem dX11_model_20 : decode cX11_model 20 = .ok (.istore_n 2, 1) := by decide +kernel
theorem dX11_model_21 : decode cX11_model 21 = .ok (.aload_n 0, 1) := by decide +kernel
theorem dX11_model_22 : decode cX11_model 22 = .ok (.getfield 19, 3) := by decide +kernel
theorem dX11_model_25 : decode cX11_model 25 = .ok (.iload_n 1, 1) := by decide +kernel
theorem dX11_model_26 : decode cX11_model 26 = .ok (.putfield 181, 3) := by decide +kernel
theorem dX11_model_29 : decode cX11_model 29 = .ok (.iload_n 2, 1) := by decide +kernel
theorem dX11_model_30 : decode cX11_model 30 = .ok (.ireturn, 1) := by decide +kernel
theorem jm_WM_model {l1 : Int} {h : xH} {r0 : Int} {h0 : xH}  (hf : f_WM_model l1 h = some (r0, h0)) : J mX11_model true 0 0 0 xKn (xen 0 [xR 1, xI l1]) [] h (xEq (some r0) h0) := by
  unfold f_WM_model at hf
  refine J_cong (ls2 := [(0, xR 1), (1, xI l1)]) (st2 := []) rfl rfl ?_
  refine J_iload_n 1 dX11_model_0 rfl rfl ?_
  refine J_if_lt (tgt := 10) dX11_model_1 (by decide) (fun hc => ?_) (fun hc => ?_)
  · have hf := xip hc hf
    refine J_bip dX11_model_10 (by decide) ?_
    exact J_ireti dX11_model_12 rfl (xq_i hf)
  · have hf := xin' hc hf
    refine J_iload_n 1 dX11_model_4 rfl rfl ?_
    refine J_ldc (v := 100000) dX11_model_5 xq515 (by decide) ?_
    refine J_ic_le (tgt := 13) dX11_model_7 (by decide) (fun hc => ?_) (fun hc => ?_)
    · have hf := xip hc hf
      refine J_bip dX11_model_10 (by decide) ?_
      exact J_ireti dX11_model_12 rfl (xq_i hf)
    · have hf := xin' hc hf
      refine J_aload_n 0 dX11_model_13 rfl rfl ?_
      refine J_getRl (j := 1) xcf11 dX11_model_14 kO1 (Or.inl xq436) (by decide) (by decide) rf_1_1 ?_
      refine J_getI (j := 2) xcf1 dX11_model_17 (xK_rg kO4) kO4 (Or.inr ⟨_, xq200⟩) (by decide) (by decide) ?_
      obtain ⟨x1, ex1, hf⟩ := xlet_e hf
      refine J_istore_n (ls' := [(2, xI x1), (0, xR 1), (1, xI l1)]) dX11_model_20 rfl (by decide) ex1 rfl ?_
      refine J_aload_n 1 dX11_model_21 rfl rfl ?_
      refine J_getRl (j := 1) xcf11 dX11_model_22 kO1 (Or.inl xq436) (by decide) (by decide) rf_1_1 ?_
      refine J_iload_n 2 dX11_model_25 rfl rfl ?_
      obtain ⟨h2, eh2, hf⟩ := xlet_e hf
      refine J_putI (j := 2) xcf1 dX11_model_26 (xK_rg kO4) kO4 (Or.inr ⟨_, xq200⟩) (by decide) (by decide) eh2 ?_
      refine J_iload_n 0 dX11_model_29 rfl rfl ?_
      exact J_ireti dX11_model_30 rfl (xq_i hf)
theorem dX6_codes_0 : decode cX6_codes 0 = .ok (.bipush 7, 2) := by decide +kernel
theorem dX6_codes_2 : decode cX6_codes 2 = .ok (.aload_n 0, 1) := by decide +kernel
theorem dX6_codes_3 : decode cX6_codes 3 = .ok (.getfield 29, 3) := by decide +kernel
theorem dX6_codes_6 : decode cX6_codes 6 = .ok (.getfield 43, 3) := by decide +kernel
theorem dX6_codes_9 : decode cX6_codes 9 = .ok (.iadd, 1) := by decide +kernel
theorem dX6_codes_10 : decode cX6_codes 10 = .ok (.ireturn, 1) := by decide +kernel
theorem jm_Slips_codes  {h : xH} {r0 : Int}  (hf : f_Slips_codes h = some r0) : J mX6_codes true 0 0 0 xKn (xen 0 [xR 9]) [] h (xEq (some r0) h) := by
  unfold f_Slips_codes at hf
  refine J_cong (ls2 := [(0, xR 9)]) (st2 := []) rfl rfl ?_
  refine J_bip dX6_codes_0 (by decide) ?_
  refine J_aload_n 0 dX6_codes_2 rfl rfl ?_
  refine J_getRl (j := 4) xcf6 dX6_codes_3 kO9 (Or.inl xq220) (by decide) (by decide) rf_9_4 ?_
  refine J_getI (j := 2) xcf5 dX6_codes_6 (xK_rg kO14) kO14 (Or.inr ⟨_, xq186⟩) (by decide) (by decide) ?_
  refine J_iadd dX6_codes_9 ?_
  exact J_ireti dX6_codes_10 rfl (xq_p hf)
theorem dX6_byLetters_0 : decode cX6_byLetters 0 = .ok (.iload_n 1, 1) := by decide +kernel
theorem dX6_byLetters_1 : decode cX6_byLetters 1 = .ok (.ifCond .lt 15, 3) := by decide +kernel
theorem dX6_byLetters_4 : decode cX6_byLetters 4 = .ok (.iload_n 1, 1) := by decide +kernel
theorem dX6_byLetters_5 : decode cX6_byLetters 5 = .ok (.aload_n 0, 1) := by decide +kernel
theorem dX6_byLetters_6 : decode cX6_byLetters 6 = .ok (.arraylength, 1) := by decide +kernel
theorem dX6_byLetters_7 : decode cX6_byLetters 7 = .ok (.if_icmp .ge 9, 3) := by decide +kernel
theorem dX6_byLetters_10 : decode cX6_byLetters 10 = .ok (.aload_n 0, 1) := by decide +kernel
theorem dX6_byLetters_11 : decode cX6_byLetters 11 = .ok (.iload_n 1, 1) := by decide +kernel
theorem dX6_byLetters_12 : decode cX6_byLetters 12 = .ok (.iaload, 1) := by decide +kernel
theorem dX6_byLetters_13 : decode cX6_byLetters 13 = .ok (.goto 4, 3) := by decide +kernel
theorem dX6_byLetters_16 : decode cX6_byLetters 16 = .ok (.iconst 0, 1) := by decide +kernel
theorem dX6_byLetters_17 : decode cX6_byLetters 17 = .ok (.istore_n 3, 1) := by decide +kernel
theorem dX6_byLetters_18 : decode cX6_byLetters 18 = .ok (.iload_n 3, 1) := by decide +kernel
theorem dX6_byLetters_19 : decode cX6_byLetters 19 = .ok (.ifCond .le 7, 3) := by decide +kernel
theorem dX6_byLetters_22 : decode cX6_byLetters 22 = .ok (.iload_n 3, 1) := by decide +kernel
theorem dX6_byLetters_23 : decode cX6_byLetters 23 = .ok (.goto 4, 3) := by decide +kernel
theorem dX6_byLetters_26 : decode cX6_byLetters 26 = .ok (.iload_n 2, 1) := by decide +kernel
theorem dX6_byLetters_27 : decode cX6_byLetters 27 = .ok (.ireturn, 1) := by decide +kernel
theorem j_Slips_byLetters_17 {l2 : Int} {s0 : Int} {h : xH} {r0 : Int}  (hf : f_Slips_byLetters_17 l2 s0 h = some r0)  : J mX6_byLetters true 0 0 17 xKn [(2, xI l2)] [xI s0] h (xEq (some r0) h) := by
  unfold f_Slips_byLetters_17 at hf
  refine J_istore_n (ls' := [(3, xI s0), (2, xI l2)]) dX6_byLetters_17 rfl (by decide) rfl rfl ?_
  refine J_iload_n 0 dX6_byLetters_18 rfl rfl ?_
  refine J_if_le (tgt := 26) dX6_byLetters_19 (by decide) (fun hc => ?_) (fun hc => ?_)
  · have hf := xip hc hf
    refine J_iload_n 0 dX6_byLetters_22 rfl rfl ?_
    refine J_goto (tgt := 27) dX6_byLetters_23 (by decide) ?_
    exact J_ireti dX6_byLetters_27 rfl (xq_p hf)
  · have hf := xin' hc hf
    refine J_iload_n 1 dX6_byLetters_26 rfl rfl ?_
    exact J_ireti dX6_byLetters_27 rfl (xq_p hf)
theorem j_Slips_byLetters_16 {l2 : Int} {h : xH} {r0 : Int}  (hf : f_Slips_byLetters_16 l2 h = some r0)  : J mX6_byLetters true 0 0 16 xKn [(2, xI l2)] [] h (xEq (some r0) h) := by
  unfold f_Slips_byLetters_16 at hf
  refine J_iconst dX6_byLetters_16 (by decide) ?_
  exact j_Slips_byLetters_17  hf
theorem jm_Slips_byLetters {l0 : Int} {l1 : Int} {l2 : Int} {h : xH} {r0 : Int} (kl0 : xK l0 = 1) (hf : f_Slips_byLetters l0 l1 l2 h = some r0) : J mX6_byLetters true 0 0 0 xKn (xen 0 [xR l0, xI l1, xI l2]) [] h (xEq (some r0) h) := by
  unfold f_Slips_byLetters at hf
  refine J_cong (ls2 := [(0, xR l0), (1, xI l1), (2, xI l2)]) (st2 := []) rfl rfl ?_
  refine J_iload_n 1 dX6_byLetters_0 rfl rfl ?_
  refine J_if_lt (tgt := 16) dX6_byLetters_1 (by decide) (fun hc => ?_) (fun hc => ?_)
  · have hf := xip hc hf
    refine J_sub [2] rfl ?_
    exact j_Slips_byLetters_16  hf
  · have hf := xin' hc hf
    refine J_iload_n 1 dX6_byLetters_4 rfl rfl ?_
    refine J_aload_n 0 dX6_byLetters_5 rfl rfl ?_
    refine J_alen dX6_byLetters_6 (xK_r1 kl0) (Or.inl kl0) (xNok l0) rfl ?_
    refine J_ic_ge (tgt := 16) dX6_byLetters_7 (by decide) (fun hc => ?_) (fun hc => ?_)
    · have hf := xip hc hf
      refine J_aload_n 0 dX6_byLetters_10 rfl rfl ?_
      refine J_iload_n 1 dX6_byLetters_11 rfl rfl ?_
      obtain ⟨hg, hf⟩ := xgd_e hf
      refine J_iald dX6_byLetters_12 (xK_r1 kl0) kl0 hg rfl ?_
      refine J_goto (tgt := 17) dX6_byLetters_13 (by decide) ?_
      refine J_sub [2] rfl ?_
      exact j_Slips_byLetters_17  hf
    · have hf := xin' hc hf
      refine J_sub [2] rfl ?_
      exact j_Slips_byLetters_16  hf
theorem dX5_standsIn_0 : decode cX5_standsIn 0 = .ok (.iload_n 1, 1) := by decide +kernel
theorem dX5_standsIn_1 : decode cX5_standsIn 1 = .ok (.ifCond .lt 39, 3) := by decide +kernel
theorem dX5_standsIn_4 : decode cX5_standsIn 4 = .ok (.iload_n 1, 1) := by decide +kernel
theorem dX5_standsIn_5 : decode cX5_standsIn 5 = .ok (.aload_n 0, 1) := by decide +kernel
theorem dX5_standsIn_6 : decode cX5_standsIn 6 = .ok (.getfield 24, 3) := by decide +kernel
theorem dX5_standsIn_9 : decode cX5_standsIn 9 = .ok (.if_icmp .ge 31, 3) := by decide +kernel
theorem dX5_standsIn_12 : decode cX5_standsIn 12 = .ok (.iload_n 1, 1) := by decide +kernel
theorem dX5_standsIn_13 : decode cX5_standsIn 13 = .ok (.aload_n 0, 1) := by decide +kernel
theorem dX5_standsIn_14 : decode cX5_standsIn 14 = .ok (.getfield 21, 3) := by decide +kernel
theorem dX5_standsIn_17 : decode cX5_standsIn 17 = .ok (.arraylength, 1) := by decide +kernel
theorem dX5_standsIn_18 : decode cX5_standsIn 18 = .ok (.if_icmp .ge 22, 3) := by decide +kernel
theorem dX5_standsIn_21 : decode cX5_standsIn 21 = .ok (.iload_n 3, 1) := by decide +kernel
theorem dX5_standsIn_22 : decode cX5_standsIn 22 = .ok (.ifCond .lt 18, 3) := by decide +kernel
theorem dX5_standsIn_25 : decode cX5_standsIn 25 = .ok (.iload_n 3, 1) := by decide +kernel
theorem dX5_standsIn_26 : decode cX5_standsIn 26 = .ok (.aload_n 0, 1) := by decide +kernel
theorem dX5_standsIn_27 : decode cX5_standsIn 27 = .ok (.getfield 21, 3) := by decide +kernel
theorem dX5_standsIn_30 : decode cX5_standsIn 30 = .ok (.iload_n 1, 1) := by decide +kernel
theorem dX5_standsIn_31 : decode cX5_standsIn 31 = .ok (.iaload, 1) := by decide +kernel
theorem dX5_standsIn_32 : decode cX5_standsIn 32 = .ok (.iadd, 1) := by decide +kernel
theorem dX5_standsIn_33 : decode cX5_standsIn 33 = .ok (.aload_n 2, 1) := by decide +kernel
theorem dX5_standsIn_34 : decode cX5_standsIn 34 = .ok (.getfield 59, 3) := by decide +kernel
theorem dX5_standsIn_37 : decode cX5_standsIn 37 = .ok (.if_icmp .le 5, 3) := by decide +kernel
theorem dX5_standsIn_40 : decode cX5_standsIn 40 = .ok (.iconst 0, 1) := by decide +kernel
theorem dX5_standsIn_41 : decode cX5_standsIn 41 = .ok (.ireturn, 1) := by decide +kernel
theorem dX5_standsIn_42 : decode cX5_standsIn 42 = .ok (.iconst 0, 1) := by decide +kernel
theorem dX5_standsIn_43 : decode cX5_standsIn 43 = .ok (.istore 4, 2) := by decide +kernel
theorem dX5_standsIn_45 : decode cX5_standsIn 45 = .ok (.iload 4, 2) := by decide +kernel
theorem dX5_standsIn_47 : decode cX5_standsIn 47 = .ok (.aload_n 0, 1) := by decide +kernel
theorem dX5_standsIn_48 : decode cX5_standsIn 48 = .ok (.getfield 21, 3) := by decide +kernel
theorem dX5_standsIn_51 : decode cX5_standsIn 51 = .ok (.iload_n 1, 1) := by decide +kernel
theorem dX5_standsIn_52 : decode cX5_standsIn 52 = .ok (.iaload, 1) := by decide +kernel
theorem dX5_standsIn_53 : decode cX5_standsIn 53 = .ok (.if_icmp .ge 70, 3) := by decide +kernel
theorem dX5_standsIn_56 : decode cX5_standsIn 56 = .ok (.iload 4, 2) := by decide +kernel
theorem dX5_standsIn_58 : decode cX5_standsIn 58 = .ok (.bipush 12, 2) := by decide +kernel
theorem dX5_standsIn_60 : decode cX5_standsIn 60 = .ok (.if_icmp .ge 63, 3) := by decide +kernel
theorem dX5_standsIn_63 : decode cX5_standsIn 63 = .ok (.iload_n 1, 1) := by decide +kernel
theorem dX5_standsIn_64 : decode cX5_standsIn 64 = .ok (.bipush 12, 2) := by decide +kernel
theorem dX5_standsIn_66 : decode cX5_standsIn 66 = .ok (.imul, 1) := by decide +kernel
theorem dX5_standsIn_67 : decode cX5_standsIn 67 = .ok (.iload 4, 2) := by decide +kernel
theorem dX5_standsIn_69 : decode cX5_standsIn 69 = .ok (.iadd, 1) := by decide +kernel
theorem dX5_standsIn_70 : decode cX5_standsIn 70 = .ok (.istore 5, 2) := by decide +kernel
theorem dX5_standsIn_72 : decode cX5_standsIn 72 = .ok (.iload_n 3, 1) := by decide +kernel
theorem dX5_standsIn_73 : decode cX5_standsIn 73 = .ok (.iload 4, 2) := by decide +kernel
theorem dX5_standsIn_75 : decode cX5_standsIn 75 = .ok (.iadd, 1) := by decide +kernel
theorem dX5_standsIn_76 : decode cX5_standsIn 76 = .ok (.istore 6, 2) := by decide +kernel
theorem dX5_standsIn_78 : decode cX5_standsIn 78 = .ok (.iload 5, 2) := by decide +kernel
theorem dX5_standsIn_80 : decode cX5_standsIn 80 = .ok (.aload_n 0, 1) := by decide +kernel
theorem dX5_standsIn_81 : decode cX5_standsIn 81 = .ok (.getfield 15, 3) := by decide +kernel
theorem dX5_standsIn_84 : decode cX5_standsIn 84 = .ok (.arraylength, 1) := by decide +kernel
theorem dX5_standsIn_85 : decode cX5_standsIn 85 = .ok (.if_icmp .ge 30, 3) := by decide +kernel
theorem dX5_standsIn_88 : decode cX5_standsIn 88 = .ok (.iload 6, 2) := by decide +kernel
theorem dX5_standsIn_90 : decode cX5_standsIn 90 = .ok (.aload_n 2, 1) := by decide +kernel
theorem dX5_standsIn_91 : decode cX5_standsIn 91 = .ok (.getfield 58, 3) := by decide +kernel
theorem dX5_standsIn_94 : decode cX5_standsIn 94 = .ok (.arraylength, 1) := by decide +kernel
theorem dX5_standsIn_95 : decode cX5_standsIn 95 = .ok (.if_icmp .ge 20, 3) := by decide +kernel
theorem dX5_standsIn_98 : decode cX5_standsIn 98 = .ok (.aload_n 0, 1) := by decide +kernel
theorem dX5_standsIn_99 : decode cX5_standsIn 99 = .ok (.getfield 15, 3) := by decide +kernel
theorem dX5_standsIn_102 : decode cX5_standsIn 102 = .ok (.iload 5, 2) := by decide +kernel
theorem dX5_standsIn_104 : decode cX5_standsIn 104 = .ok (.iaload, 1) := by decide +kernel
theorem dX5_standsIn_105 : decode cX5_standsIn 105 = .ok (.aload_n 2, 1) := by decide +kernel
theorem dX5_standsIn_106 : decode cX5_standsIn 106 = .ok (.getfield 58, 3) := by decide +kernel
theorem dX5_standsIn_109 : decode cX5_standsIn 109 = .ok (.iload 6, 2) := by decide +kernel
theorem dX5_standsIn_111 : decode cX5_standsIn 111 = .ok (.iaload, 1) := by decide +kernel
theorem dX5_standsIn_112 : decode cX5_standsIn 112 = .ok (.if_icmp .eq 5, 3) := by decide +kernel
theorem dX5_standsIn_115 : decode cX5_standsIn 115 = .ok (.iconst 0, 1) := by decide +kernel
theorem dX5_standsIn_116 : decode cX5_standsIn 116 = .ok (.ireturn, 1) := by decide +kernel
theorem dX5_standsIn_117 : decode cX5_standsIn 117 = .ok (.iinc 4 1, 3) := by decide +kernel
theorem dX5_standsIn_120 : decode cX5_standsIn 120 = .ok (.goto (-75), 3) := by decide +kernel
theorem dX5_standsIn_123 : decode cX5_standsIn 123 = .ok (.iconst 1, 1) := by decide +kernel
theorem dX5_standsIn_124 : decode cX5_standsIn 124 = .ok (.ireturn, 1) := by decide +kernel
theorem j_Rows_standsIn_123  {h : xH} {r0 : Int}  (hf : f_Rows_standsIn_123 h = some r0)  : J mX5_standsIn true 0 0 123 xKn [] [] h (xEq (some r0) h) := by
  unfold f_Rows_standsIn_123 at hf
  refine J_iconst dX5_standsIn_123 (by decide) ?_
  exact J_iretz dX5_standsIn_124 rfl (by decide) (xq_p hf)
theorem j_Rows_standsIn_s45 {l0 : Int} {l1 : Int} {l2 : Int} {l3 : Int} {l4 : Int} {h : xH} {x : (Int ⊕ (Unit ⊕ Int))} {Q : xQ} (kl0 : xK l0 = 3 + 5) (kl2 : xK l2 = 3 + 4) (hf : f_Rows_standsIn_s45 l0 l1 l2 l3 l4 h = some x) (kb : ∀ (l4' : Int), x = Sum.inl l4' → J mX5_standsIn true 0 0 45 xKn [(0, xR l0), (1, xI l1), (2, xR l2), (3, xI l3), (4, xI l4')] [] h Q) (ke : x = (Sum.inr (Sum.inl ())) → J mX5_standsIn true 0 0 123 xKn [] [] h Q) (kr : ∀ v : Int, x = (Sum.inr (Sum.inr v)) → Q (some v) xKn h) : J mX5_standsIn true 0 0 45 xKn [(0, xR l0), (1, xI l1), (2, xR l2), (3, xI l3), (4, xI l4)] [] h Q := by
  unfold f_Rows_standsIn_s45 at hf
  refine J_iload 4 dX5_standsIn_45 rfl ?_
  refine J_aload_n 0 dX5_standsIn_47 rfl rfl ?_
  refine J_getRl (j := 1) xcf5 dX5_standsIn_48 kl0 (Or.inl xq180) (by decide) (by decide) (rfRows_1 kl0) ?_
  refine J_iload_n 1 dX5_standsIn_51 rfl rfl ?_
  obtain ⟨hg, hf⟩ := xgd_e hf
  refine J_iald dX5_standsIn_52 (xK_r1 (kRows_1 kl0)) (kRows_1 kl0) hg rfl ?_
  refine J_ic_ge (tgt := 123) dX5_standsIn_53 (by decide) (fun hc => ?_) (fun hc => ?_)
  · have hf := xip hc hf
    refine J_iload 4 dX5_standsIn_56 rfl ?_
    refine J_bip dX5_standsIn_58 (by decide) ?_
    refine J_ic_ge (tgt := 123) dX5_standsIn_60 (by decide) (fun hc => ?_) (fun hc => ?_)
    · have hf := xip hc hf
      refine J_iload_n 1 dX5_standsIn_63 rfl rfl ?_
      refine J_bip dX5_standsIn_64 (by decide) ?_
      refine J_imul dX5_standsIn_66 ?_
      refine J_iload 4 dX5_standsIn_67 rfl ?_
      refine J_iadd dX5_standsIn_69 ?_
      obtain ⟨x1, ex1, hf⟩ := xlet_e hf
      refine J_istore (ls' := [(5, xI x1), (0, xR l0), (1, xI l1), (2, xR l2), (3, xI l3), (4, xI l4)]) dX5_standsIn_70 (by decide) ex1 rfl ?_
      refine J_iload_n 4 dX5_standsIn_72 rfl rfl ?_
      refine J_iload 5 dX5_standsIn_73 rfl ?_
      refine J_iadd dX5_standsIn_75 ?_
      obtain ⟨x2, ex2, hf⟩ := xlet_e hf
      refine J_istore (ls' := [(6, xI x2), (5, xI x1), (0, xR l0), (1, xI l1), (2, xR l2), (3, xI l3), (4, xI l4)]) dX5_standsIn_76 (by decide) ex2 rfl ?_
      refine J_iload 1 dX5_standsIn_78 rfl ?_
      refine J_aload_n 2 dX5_standsIn_80 rfl rfl ?_
      refine J_getRl (j := 0) xcf5 dX5_standsIn_81 kl0 (Or.inl xq179) (by decide) (by decide) (rfRows_0 kl0) ?_
      refine J_alen dX5_standsIn_84 (xK_r1 (kRows_0 kl0)) (Or.inl (kRows_0 kl0)) (xNok (l0 + 1)) rfl ?_
      refine J_ic_ge (tgt := 115) dX5_standsIn_85 (by decide) (fun hc => ?_) (fun hc => ?_)
      · have hf := xip hc hf
        refine J_iload 0 dX5_standsIn_88 rfl ?_
        refine J_aload_n 4 dX5_standsIn_90 rfl rfl ?_
        refine J_getRl (j := 0) xcf4 dX5_standsIn_91 kl2 (Or.inr ⟨_, xq246⟩) (by decide) (by decide) (rfRow_0 kl2) ?_
        refine J_alen dX5_standsIn_94 (xK_r1 (kRow_0 kl2)) (Or.inl (kRow_0 kl2)) (by decide) (nRow_0 kl2) ?_
        refine J_ic_ge (tgt := 115) dX5_standsIn_95 (by decide) (fun hc => ?_) (fun hc => ?_)
        · have hf := xip hc hf
          refine J_aload_n 2 dX5_standsIn_98 rfl rfl ?_
          refine J_getRl (j := 0) xcf5 dX5_standsIn_99 kl0 (Or.inl xq179) (by decide) (by decide) (rfRows_0 kl0) ?_
          refine J_iload 1 dX5_standsIn_102 rfl ?_
          obtain ⟨hg, hf⟩ := xgd_e hf
          refine J_iald dX5_standsIn_104 (xK_r1 (kRows_0 kl0)) (kRows_0 kl0) hg rfl ?_
          refine J_aload_n 4 dX5_standsIn_105 rfl rfl ?_
          refine J_getRl (j := 0) xcf4 dX5_standsIn_106 kl2 (Or.inr ⟨_, xq246⟩) (by decide) (by decide) (rfRow_0 kl2) ?_
          refine J_iload 0 dX5_standsIn_109 rfl ?_
          obtain ⟨hg, hf⟩ := xgd_e hf
          refine J_iald dX5_standsIn_111 (xK_r1 (kRow_0 kl2)) (kRow_0 kl2) hg (nRow_0 kl2) ?_
          refine J_ic_eq (tgt := 117) dX5_standsIn_112 (by decide) (fun hc => ?_) (fun hc => ?_)
          · have hf := xip hc hf
            obtain ⟨x3, ex3, hf⟩ := xlet_e hf
            refine J_iinc (ls' := [(4, xI x3), (6, xI x2), (5, xI x1), (0, xR l0), (1, xI l1), (2, xR l2), (3, xI l3)]) 6 dX5_standsIn_117 rfl (by decide) ex3 rfl ?_
            refine J_goto (tgt := 45) dX5_standsIn_120 (by decide) ?_
            refine J_sub [3, 4, 5, 6, 0] rfl ?_
            exact kb _ (xinl hf)
          · have hf := xin' hc hf
            refine J_iconst dX5_standsIn_115 (by decide) ?_
            exact J_iretz dX5_standsIn_116 rfl (by decide) (kr _ (xinl hf))
        · have hf := xin' hc hf
          refine J_iconst dX5_standsIn_115 (by decide) ?_
          exact J_iretz dX5_standsIn_116 rfl (by decide) (kr _ (xinl hf))
      · have hf := xin' hc hf
        refine J_iconst dX5_standsIn_115 (by decide) ?_
        exact J_iretz dX5_standsIn_116 rfl (by decide) (kr _ (xinl hf))
    · have hf := xin' hc hf
      refine J_sub [] rfl ?_
      exact ke  (xinl hf)
  · have hf := xin' hc hf
    refine J_sub [] rfl ?_
    exact ke  (xinl hf)
theorem j_Rows_standsIn_45 {l0 : Int} {l1 : Int} {l2 : Int} {l3 : Int} {l4 : Int} {h : xH} {r0 : Int} (kl0 : xK l0 = 3 + 5) (kl2 : xK l2 = 3 + 4) (hf : f_Rows_standsIn_45 l0 l1 l2 l3 l4 h = some r0)  : J mX5_standsIn true 0 0 45 xKn [(0, xR l0), (1, xI l1), (2, xR l2), (3, xI l3), (4, xI l4)] [] h (xEq (some r0) h) := by
  unfold f_Rows_standsIn_45 at hf
  obtain ⟨b0, hb0, hf⟩ := xc1_e hf
  refine xloop_ind (P := fun s : Int => J mX5_standsIn true 0 0 45 xKn [(0, xR l0), (1, xI l1), (2, xR l2), (3, xI l3), (4, xI s)] [] h (xEq (some r0) h)) hb0 (fun s x1 hs ib ie => ?_)
  exact j_Rows_standsIn_s45 kl0 kl2 hs (fun _ e => ib _ e) (fun  e => by have := ie _ e; subst this; exact j_Rows_standsIn_123  hf) (fun _ e => by have := ie _ e; subst this; exact xq_p hf)
theorem jm_Rows_standsIn {l0 : Int} {l1 : Int} {l2 : Int} {l3 : Int} {h : xH} {r0 : Int} (kl0 : xK l0 = 3 + 5) (kl2 : xK l2 = 3 + 4) (hf : f_Rows_standsIn l0 l1 l2 l3 h = some r0) : J mX5_standsIn true 0 0 0 xKn (xen 0 [xR l0, xI l1, xR l2, xI l3]) [] h (xEq (some r0) h) := by
  unfold f_Rows_standsIn at hf
  refine J_cong (ls2 := [(0, xR l0), (1, xI l1), (2, xR l2), (3, xI l3)]) (st2 := []) rfl rfl ?_
  refine J_iload_n 1 dX5_standsIn_0 rfl rfl ?_
  refine J_if_lt (tgt := 40) dX5_standsIn_1 (by decide) (fun hc => ?_) (fun hc => ?_)
  · have hf := xip hc hf
    refine J_iconst dX5_standsIn_40 (by decide) ?_
    exact J_iretz dX5_standsIn_41 rfl (by decide) (xq_p hf)
  · have hf := xin' hc hf
    refine J_iload_n 1 dX5_standsIn_4 rfl rfl ?_
    refine J_aload_n 0 dX5_standsIn_5 rfl rfl ?_
    refine J_getI (j := 2) xcf5 dX5_standsIn_6 (xK_rg kl0) kl0 (Or.inl xq181) (by decide) (by decide) ?_
    refine J_ic_ge (tgt := 40) dX5_standsIn_9 (by decide) (fun hc => ?_) (fun hc => ?_)
    · have hf := xip hc hf
      refine J_iload_n 1 dX5_standsIn_12 rfl rfl ?_
      refine J_aload_n 0 dX5_standsIn_13 rfl rfl ?_
      refine J_getRl (j := 1) xcf5 dX5_standsIn_14 kl0 (Or.inl xq180) (by decide) (by decide) (rfRows_1 kl0) ?_
      refine J_alen dX5_standsIn_17 (xK_r1 (kRows_1 kl0)) (Or.inl (kRows_1 kl0)) (xNok (l0 + 2)) rfl ?_
      refine J_ic_ge (tgt := 40) dX5_standsIn_18 (by decide) (fun hc => ?_) (fun hc => ?_)
      · have hf := xip hc hf
        refine J_iload_n 3 dX5_standsIn_21 rfl rfl ?_
        refine J_if_lt (tgt := 40) dX5_standsIn_22 (by decide) (fun hc => ?_) (fun hc => ?_)
        · have hf := xip hc hf
          refine J_iconst dX5_standsIn_40 (by decide) ?_
          exact J_iretz dX5_standsIn_41 rfl (by decide) (xq_p hf)
        · have hf := xin' hc hf
          refine J_iload_n 3 dX5_standsIn_25 rfl rfl ?_
          refine J_aload_n 0 dX5_standsIn_26 rfl rfl ?_
          refine J_getRl (j := 1) xcf5 dX5_standsIn_27 kl0 (Or.inl xq180) (by decide) (by decide) (rfRows_1 kl0) ?_
          refine J_iload_n 1 dX5_standsIn_30 rfl rfl ?_
          obtain ⟨hg, hf⟩ := xgd_e hf
          refine J_iald dX5_standsIn_31 (xK_r1 (kRows_1 kl0)) (kRows_1 kl0) hg rfl ?_
          refine J_iadd dX5_standsIn_32 ?_
          refine J_aload_n 2 dX5_standsIn_33 rfl rfl ?_
          refine J_getI (j := 1) xcf4 dX5_standsIn_34 (xK_rg kl2) kl2 (Or.inr ⟨_, xq250⟩) (by decide) (by decide) ?_
          refine J_ic_le (tgt := 42) dX5_standsIn_37 (by decide) (fun hc => ?_) (fun hc => ?_)
          · have hf := xip hc hf
            refine J_iconst dX5_standsIn_40 (by decide) ?_
            exact J_iretz dX5_standsIn_41 rfl (by decide) (xq_p hf)
          · have hf := xin' hc hf
            refine J_iconst dX5_standsIn_42 (by decide) ?_
            refine J_istore (ls' := [(4, xI 0), (0, xR l0), (1, xI l1), (2, xR l2), (3, xI l3)]) dX5_standsIn_43 (by decide) rfl rfl ?_
            refine J_sub [1, 2, 3, 4, 0] rfl ?_
            exact j_Rows_standsIn_45 kl0 kl2 hf
      · have hf := xin' hc hf
        refine J_iconst dX5_standsIn_40 (by decide) ?_
        exact J_iretz dX5_standsIn_41 rfl (by decide) (xq_p hf)
    · have hf := xin' hc hf
      refine J_iconst dX5_standsIn_40 (by decide) ?_
      exact J_iretz dX5_standsIn_41 rfl (by decide) (xq_p hf)
theorem dX6_soundPrice_0 : decode cX6_soundPrice 0 = .ok (.iload_n 1, 1) := by decide +kernel
theorem dX6_soundPrice_1 : decode cX6_soundPrice 1 = .ok (.ifCond .lt 21, 3) := by decide +kernel
theorem dX6_soundPrice_4 : decode cX6_soundPrice 4 = .ok (.iload_n 1, 1) := by decide +kernel
theorem dX6_soundPrice_5 : decode cX6_soundPrice 5 = .ok (.aload_n 0, 1) := by decide +kernel
theorem dX6_soundPrice_6 : decode cX6_soundPrice 6 = .ok (.getfield 36, 3) := by decide +kernel
theorem dX6_soundPrice_9 : decode cX6_soundPrice 9 = .ok (.arraylength, 1) := by decide +kernel
theorem dX6_soundPrice_10 : decode cX6_soundPrice 10 = .ok (.if_icmp .ge 12, 3) := by decide +kernel
theorem dX6_soundPrice_13 : decode cX6_soundPrice 13 = .ok (.aload_n 0, 1) := by decide +kernel
theorem dX6_soundPrice_14 : decode cX6_soundPrice 14 = .ok (.getfield 36, 3) := by decide +kernel
theorem dX6_soundPrice_17 : decode cX6_soundPrice 17 = .ok (.iload_n 1, 1) := by decide +kernel
theorem dX6_soundPrice_18 : decode cX6_soundPrice 18 = .ok (.iaload, 1) := by decide +kernel
theorem dX6_soundPrice_19 : decode cX6_soundPrice 19 = .ok (.goto 4, 3) := by decide +kernel
theorem dX6_soundPrice_22 : decode cX6_soundPrice 22 = .ok (.iconst (-1), 1) := by decide +kernel
theorem dX6_soundPrice_23 : decode cX6_soundPrice 23 = .ok (.ireturn, 1) := by decide +kernel
theorem jm_Slips_soundPrice {l1 : Int} {h : xH} {r0 : Int}  (hf : f_Slips_soundPrice l1 h = some r0) : J mX6_soundPrice true 0 0 0 xKn (xen 0 [xR 9, xI l1]) [] h (xEq (some r0) h) := by
  unfold f_Slips_soundPrice at hf
  refine J_cong (ls2 := [(0, xR 9), (1, xI l1)]) (st2 := []) rfl rfl ?_
  refine J_iload_n 1 dX6_soundPrice_0 rfl rfl ?_
  refine J_if_lt (tgt := 22) dX6_soundPrice_1 (by decide) (fun hc => ?_) (fun hc => ?_)
  · have hf := xip hc hf
    refine J_iconst dX6_soundPrice_22 (by decide) ?_
    exact J_ireti dX6_soundPrice_23 rfl (xq_p hf)
  · have hf := xin' hc hf
    refine J_iload_n 1 dX6_soundPrice_4 rfl rfl ?_
    refine J_aload_n 0 dX6_soundPrice_5 rfl rfl ?_
    refine J_getRl (j := 6) xcf6 dX6_soundPrice_6 kO9 (Or.inl xq223) (by decide) (by decide) rf_9_6 ?_
    refine J_alen dX6_soundPrice_9 (xK_r1 kO20) (Or.inl kO20) (by decide) nA20 ?_
    refine J_ic_ge (tgt := 22) dX6_soundPrice_10 (by decide) (fun hc => ?_) (fun hc => ?_)
    · have hf := xip hc hf
      refine J_aload_n 0 dX6_soundPrice_13 rfl rfl ?_
      refine J_getRl (j := 6) xcf6 dX6_soundPrice_14 kO9 (Or.inl xq223) (by decide) (by decide) rf_9_6 ?_
      refine J_iload_n 1 dX6_soundPrice_17 rfl rfl ?_
      obtain ⟨hg, hf⟩ := xgd_e hf
      refine J_iald dX6_soundPrice_18 (xK_r1 kO20) kO20 hg nA20 ?_
      refine J_goto (tgt := 23) dX6_soundPrice_19 (by decide) ?_
      exact J_ireti dX6_soundPrice_23 rfl (xq_p hf)
    · have hf := xin' hc hf
      refine J_iconst dX6_soundPrice_22 (by decide) ?_
      exact J_ireti dX6_soundPrice_23 rfl (xq_p hf)
theorem dX6_priceAt_0 : decode cX6_priceAt 0 = .ok (.aload_n 2, 1) := by decide +kernel
theorem dX6_priceAt_1 : decode cX6_priceAt 1 = .ok (.iload_n 3, 1) := by decide +kernel
theorem dX6_priceAt_2 : decode cX6_priceAt 2 = .ok (.invokevirtual 69, 3) := by decide +kernel
theorem dX6_priceAt_5 : decode cX6_priceAt 5 = .ok (.istore 6, 2) := by decide +kernel
theorem dX6_priceAt_7 : decode cX6_priceAt 7 = .ok (.aload 4, 2) := by decide +kernel
theorem dX6_priceAt_9 : decode cX6_priceAt 9 = .ok (.iload 5, 2) := by decide +kernel
theorem dX6_priceAt_11 : decode cX6_priceAt 11 = .ok (.invokevirtual 69, 3) := by decide +kernel
theorem dX6_priceAt_14 : decode cX6_priceAt 14 = .ok (.istore 7, 2) := by decide +kernel
theorem dX6_priceAt_16 : decode cX6_priceAt 16 = .ok (.iload 6, 2) := by decide +kernel
theorem dX6_priceAt_18 : decode cX6_priceAt 18 = .ok (.iconst (-1), 1) := by decide +kernel
theorem dX6_priceAt_19 : decode cX6_priceAt 19 = .ok (.if_icmp .eq 14, 3) := by decide +kernel
theorem dX6_priceAt_22 : decode cX6_priceAt 22 = .ok (.iload 6, 2) := by decide +kernel
theorem dX6_priceAt_24 : decode cX6_priceAt 24 = .ok (.iload 7, 2) := by decide +kernel
theorem dX6_priceAt_26 : decode cX6_priceAt 26 = .ok (.if_icmp .ne 7, 3) := by decide +kernel
theorem dX6_priceAt_29 : decode cX6_priceAt 29 = .ok (.iconst 1, 1) := by decide +kernel
theorem dX6_priceAt_30 : decode cX6_priceAt 30 = .ok (.goto 4, 3) := by decide +kernel
theorem dX6_priceAt_33 : decode cX6_priceAt 33 = .ok (.iconst 0, 1) := by decide +kernel
theorem dX6_priceAt_34 : decode cX6_priceAt 34 = .ok (.istore 8, 2) := by decide +kernel
theorem dX6_priceAt_36 : decode cX6_priceAt 36 = .ok (.iload_n 1, 1) := by decide +kernel
theorem dX6_priceAt_37 : decode cX6_priceAt 37 = .ok (.tableswitch 262 0 6 #[43, 54, 97, 123, 149, 203, 233], 43) := by decide +kernel
theorem dX6_priceAt_80 : decode cX6_priceAt 80 = .ok (.iload 8, 2) := by decide +kernel
theorem dX6_priceAt_82 : decode cX6_priceAt 82 = .ok (.ifCond .eq 7, 3) := by decide +kernel
theorem dX6_priceAt_85 : decode cX6_priceAt 85 = .ok (.iconst 0, 1) := by decide +kernel
theorem dX6_priceAt_86 : decode cX6_priceAt 86 = .ok (.goto 4, 3) := by decide +kernel
theorem dX6_priceAt_89 : decode cX6_priceAt 89 = .ok (.iconst (-1), 1) := by decide +kernel
theorem dX6_priceAt_90 : decode cX6_priceAt 90 = .ok (.ireturn, 1) := by decide +kernel
theorem dX6_priceAt_91 : decode cX6_priceAt 91 = .ok (.iload 6, 2) := by decide +kernel
theorem dX6_priceAt_93 : decode cX6_priceAt 93 = .ok (.iconst (-1), 1) := by decide +kernel
theorem dX6_priceAt_94 : decode cX6_priceAt 94 = .ok (.if_icmp .eq 14, 3) := by decide +kernel
theorem dX6_priceAt_97 : decode cX6_priceAt 97 = .ok (.iload 7, 2) := by decide +kernel
theorem dX6_priceAt_99 : decode cX6_priceAt 99 = .ok (.iconst (-1), 1) := by decide +kernel
theorem dX6_priceAt_100 : decode cX6_priceAt 100 = .ok (.if_icmp .eq 8, 3) := by decide +kernel
theorem dX6_priceAt_103 : decode cX6_priceAt 103 = .ok (.iload 8, 2) := by decide +kernel
theorem dX6_priceAt_105 : decode cX6_priceAt 105 = .ok (.ifCond .eq 7, 3) := by decide +kernel
theorem dX6_priceAt_108 : decode cX6_priceAt 108 = .ok (.iconst (-1), 1) := by decide +kernel
theorem dX6_priceAt_109 : decode cX6_priceAt 109 = .ok (.goto 24, 3) := by decide +kernel
theorem dX6_priceAt_112 : decode cX6_priceAt 112 = .ok (.aload_n 0, 1) := by decide +kernel
theorem dX6_priceAt_113 : decode cX6_priceAt 113 = .ok (.getfield 15, 3) := by decide +kernel
theorem dX6_priceAt_116 : decode cX6_priceAt 116 = .ok (.iload 6, 2) := by decide +kernel
theorem dX6_priceAt_118 : decode cX6_priceAt 118 = .ok (.bipush 26, 2) := by decide +kernel
theorem dX6_priceAt_120 : decode cX6_priceAt 120 = .ok (.imul, 1) := by decide +kernel
theorem dX6_priceAt_121 : decode cX6_priceAt 121 = .ok (.iload 7, 2) := by decide +kernel
theorem dX6_priceAt_123 : decode cX6_priceAt 123 = .ok (.iadd, 1) := by decide +kernel
theorem dX6_priceAt_124 : decode cX6_priceAt 124 = .ok (.aload_n 0, 1) := by decide +kernel
theorem dX6_priceAt_125 : decode cX6_priceAt 125 = .ok (.getfield 9, 3) := by decide +kernel
theorem dX6_priceAt_128 : decode cX6_priceAt 128 = .ok (.iconst 1, 1) := by decide +kernel
theorem dX6_priceAt_129 : decode cX6_priceAt 129 = .ok (.iaload, 1) := by decide +kernel
theorem dX6_priceAt_130 : decode cX6_priceAt 130 = .ok (.invokestatic 74, 3) := by decide +kernel
theorem dX6_priceAt_133 : decode cX6_priceAt 133 = .ok (.ireturn, 1) := by decide +kernel
theorem dX6_priceAt_134 : decode cX6_priceAt 134 = .ok (.iload 6, 2) := by decide +kernel
theorem dX6_priceAt_136 : decode cX6_priceAt 136 = .ok (.iconst (-1), 1) := by decide +kernel
theorem dX6_priceAt_137 : decode cX6_priceAt 137 = .ok (.if_icmp .ne 7, 3) := by decide +kernel
theorem dX6_priceAt_140 : decode cX6_priceAt 140 = .ok (.iconst (-1), 1) := by decide +kernel
theorem dX6_priceAt_141 : decode cX6_priceAt 141 = .ok (.goto 18, 3) := by decide +kernel
theorem dX6_priceAt_144 : decode cX6_priceAt 144 = .ok (.aload_n 0, 1) := by decide +kernel
theorem dX6_priceAt_145 : decode cX6_priceAt 145 = .ok (.getfield 18, 3) := by decide +kernel
theorem dX6_priceAt_148 : decode cX6_priceAt 148 = .ok (.iload 6, 2) := by decide +kernel
theorem dX6_priceAt_150 : decode cX6_priceAt 150 = .ok (.aload_n 0, 1) := by decide +kernel
theorem dX6_priceAt_151 : decode cX6_priceAt 151 = .ok (.getfield 9, 3) := by decide +kernel
theorem dX6_priceAt_154 : decode cX6_priceAt 154 = .ok (.iconst 2, 1) := by decide +kernel
theorem dX6_priceAt_155 : decode cX6_priceAt 155 = .ok (.iaload, 1) := by decide +kernel
theorem dX6_priceAt_156 : decode cX6_priceAt 156 = .ok (.invokestatic 74, 3) := by decide +kernel
theorem dX6_priceAt_159 : decode cX6_priceAt 159 = .ok (.ireturn, 1) := by decide +kernel
theorem dX6_priceAt_160 : decode cX6_priceAt 160 = .ok (.iload 7, 2) := by decide +kernel
theorem dX6_priceAt_162 : decode cX6_priceAt 162 = .ok (.iconst (-1), 1) := by decide +kernel
theorem dX6_priceAt_163 : decode cX6_priceAt 163 = .ok (.if_icmp .ne 7, 3) := by decide +kernel
theorem dX6_priceAt_166 : decode cX6_priceAt 166 = .ok (.iconst (-1), 1) := by decide +kernel
theorem dX6_priceAt_167 : decode cX6_priceAt 167 = .ok (.goto 18, 3) := by decide +kernel
theorem dX6_priceAt_170 : decode cX6_priceAt 170 = .ok (.aload_n 0, 1) := by decide +kernel
theorem dX6_priceAt_171 : decode cX6_priceAt 171 = .ok (.getfield 21, 3) := by decide +kernel
theorem dX6_priceAt_174 : decode cX6_priceAt 174 = .ok (.iload 7, 2) := by decide +kernel
theorem dX6_priceAt_176 : decode cX6_priceAt 176 = .ok (.aload_n 0, 1) := by decide +kernel
theorem dX6_priceAt_177 : decode cX6_priceAt 177 = .ok (.getfield 9, 3) := by decide +kernel
theorem dX6_priceAt_180 : decode cX6_priceAt 180 = .ok (.iconst 3, 1) := by decide +kernel
theorem dX6_priceAt_181 : decode cX6_priceAt 181 = .ok (.iaload, 1) := by decide +kernel
theorem dX6_priceAt_182 : decode cX6_priceAt 182 = .ok (.invokestatic 74, 3) := by decide +kernel
theorem dX6_priceAt_185 : decode cX6_priceAt 185 = .ok (.ireturn, 1) := by decide +kernel
theorem dX6_priceAt_186 : decode cX6_priceAt 186 = .ok (.iload 6, 2) := by decide +kernel
theorem dX6_priceAt_188 : decode cX6_priceAt 188 = .ok (.iconst (-1), 1) := by decide +kernel
theorem dX6_priceAt_189 : decode cX6_priceAt 189 = .ok (.if_icmp .eq 49, 3) := by decide +kernel
theorem dX6_priceAt_192 : decode cX6_priceAt 192 = .ok (.iload 7, 2) := by decide +kernel
theorem dX6_priceAt_194 : decode cX6_priceAt 194 = .ok (.iconst (-1), 1) := by decide +kernel
theorem dX6_priceAt_195 : decode cX6_priceAt 195 = .ok (.if_icmp .eq 43, 3) := by decide +kernel
theorem dX6_priceAt_198 : decode cX6_priceAt 198 = .ok (.iload 8, 2) := by decide +kernel
theorem dX6_priceAt_200 : decode cX6_priceAt 200 = .ok (.ifCond .ne 38, 3) := by decide +kernel
theorem dX6_priceAt_203 : decode cX6_priceAt 203 = .ok (.aload_n 2, 1) := by decide +kernel
theorem dX6_priceAt_204 : decode cX6_priceAt 204 = .ok (.iload_n 3, 1) := by decide +kernel
theorem dX6_priceAt_205 : decode cX6_priceAt 205 = .ok (.iconst 1, 1) := by decide +kernel
theorem dX6_priceAt_206 : decode cX6_priceAt 206 = .ok (.iadd, 1) := by decide +kernel
theorem dX6_priceAt_207 : decode cX6_priceAt 207 = .ok (.invokevirtual 69, 3) := by decide +kernel
theorem dX6_priceAt_210 : decode cX6_priceAt 210 = .ok (.iload 7, 2) := by decide +kernel
theorem dX6_priceAt_212 : decode cX6_priceAt 212 = .ok (.if_icmp .ne 26, 3) := by decide +kernel
theorem dX6_priceAt_215 : decode cX6_priceAt 215 = .ok (.aload 4, 2) := by decide +kernel
theorem dX6_priceAt_217 : decode cX6_priceAt 217 = .ok (.iload 5, 2) := by decide +kernel
theorem dX6_priceAt_219 : decode cX6_priceAt 219 = .ok (.iconst 1, 1) := by decide +kernel
theorem dX6_priceAt_220 : decode cX6_priceAt 220 = .ok (.iadd, 1) := by decide +kernel
theorem dX6_priceAt_221 : decode cX6_priceAt 221 = .ok (.invokevirtual 69, 3) := by decide +kernel
theorem dX6_priceAt_224 : decode cX6_priceAt 224 = .ok (.iload 6, 2) := by decide +kernel
theorem dX6_priceAt_226 : decode cX6_priceAt 226 = .ok (.if_icmp .ne 12, 3) := by decide +kernel
theorem dX6_priceAt_229 : decode cX6_priceAt 229 = .ok (.aload_n 0, 1) := by decide +kernel
theorem dX6_priceAt_230 : decode cX6_priceAt 230 = .ok (.getfield 9, 3) := by decide +kernel
theorem dX6_priceAt_233 : decode cX6_priceAt 233 = .ok (.iconst 4, 1) := by decide +kernel
theorem dX6_priceAt_234 : decode cX6_priceAt 234 = .ok (.iaload, 1) := by decide +kernel
theorem dX6_priceAt_235 : decode cX6_priceAt 235 = .ok (.goto 4, 3) := by decide +kernel
theorem dX6_priceAt_238 : decode cX6_priceAt 238 = .ok (.iconst (-1), 1) := by decide +kernel
theorem dX6_priceAt_239 : decode cX6_priceAt 239 = .ok (.ireturn, 1) := by decide +kernel
theorem dX6_priceAt_240 : decode cX6_priceAt 240 = .ok (.iload 8, 2) := by decide +kernel
theorem dX6_priceAt_242 : decode cX6_priceAt 242 = .ok (.ifCond .eq 26, 3) := by decide +kernel
theorem dX6_priceAt_245 : decode cX6_priceAt 245 = .ok (.aload 4, 2) := by decide +kernel
theorem dX6_priceAt_247 : decode cX6_priceAt 247 = .ok (.iload 5, 2) := by decide +kernel
theorem dX6_priceAt_249 : decode cX6_priceAt 249 = .ok (.iconst 1, 1) := by decide +kernel
theorem dX6_priceAt_250 : decode cX6_priceAt 250 = .ok (.iadd, 1) := by decide +kernel
theorem dX6_priceAt_251 : decode cX6_priceAt 251 = .ok (.invokevirtual 69, 3) := by decide +kernel
theorem dX6_priceAt_254 : decode cX6_priceAt 254 = .ok (.iload 6, 2) := by decide +kernel
theorem dX6_priceAt_256 : decode cX6_priceAt 256 = .ok (.if_icmp .ne 12, 3) := by decide +kernel
theorem dX6_priceAt_259 : decode cX6_priceAt 259 = .ok (.aload_n 0, 1) := by decide +kernel
theorem dX6_priceAt_260 : decode cX6_priceAt 260 = .ok (.getfield 9, 3) := by decide +kernel
theorem dX6_priceAt_263 : decode cX6_priceAt 263 = .ok (.iconst 5, 1) := by decide +kernel
theorem dX6_priceAt_264 : decode cX6_priceAt 264 = .ok (.iaload, 1) := by decide +kernel
theorem dX6_priceAt_265 : decode cX6_priceAt 265 = .ok (.goto 4, 3) := by decide +kernel
theorem dX6_priceAt_268 : decode cX6_priceAt 268 = .ok (.iconst (-1), 1) := by decide +kernel
theorem dX6_priceAt_269 : decode cX6_priceAt 269 = .ok (.ireturn, 1) := by decide +kernel
theorem dX6_priceAt_270 : decode cX6_priceAt 270 = .ok (.iload 8, 2) := by decide +kernel
theorem dX6_priceAt_272 : decode cX6_priceAt 272 = .ok (.ifCond .eq 25, 3) := by decide +kernel
theorem dX6_priceAt_275 : decode cX6_priceAt 275 = .ok (.aload_n 2, 1) := by decide +kernel
theorem dX6_priceAt_276 : decode cX6_priceAt 276 = .ok (.iload_n 3, 1) := by decide +kernel
theorem dX6_priceAt_277 : decode cX6_priceAt 277 = .ok (.iconst 1, 1) := by decide +kernel
theorem dX6_priceAt_278 : decode cX6_priceAt 278 = .ok (.iadd, 1) := by decide +kernel
theorem dX6_priceAt_279 : decode cX6_priceAt 279 = .ok (.invokevirtual 69, 3) := by decide +kernel
theorem dX6_priceAt_282 : decode cX6_priceAt 282 = .ok (.iload 6, 2) := by decide +kernel
theorem dX6_priceAt_284 : decode cX6_priceAt 284 = .ok (.if_icmp .ne 13, 3) := by decide +kernel
theorem dX6_priceAt_287 : decode cX6_priceAt 287 = .ok (.aload_n 0, 1) := by decide +kernel
theorem dX6_priceAt_288 : decode cX6_priceAt 288 = .ok (.getfield 9, 3) := by decide +kernel
theorem dX6_priceAt_291 : decode cX6_priceAt 291 = .ok (.bipush 6, 2) := by decide +kernel
theorem dX6_priceAt_293 : decode cX6_priceAt 293 = .ok (.iaload, 1) := by decide +kernel
theorem dX6_priceAt_294 : decode cX6_priceAt 294 = .ok (.goto 4, 3) := by decide +kernel
theorem dX6_priceAt_297 : decode cX6_priceAt 297 = .ok (.iconst (-1), 1) := by decide +kernel
theorem dX6_priceAt_298 : decode cX6_priceAt 298 = .ok (.ireturn, 1) := by decide +kernel
theorem dX6_priceAt_299 : decode cX6_priceAt 299 = .ok (.aload_n 0, 1) := by decide +kernel
theorem dX6_priceAt_300 : decode cX6_priceAt 300 = .ok (.getfield 29, 3) := by decide +kernel
theorem dX6_priceAt_303 : decode cX6_priceAt 303 = .ok (.iload_n 1, 1) := by decide +kernel
theorem dX6_priceAt_304 : decode cX6_priceAt 304 = .ok (.bipush 7, 2) := by decide +kernel
theorem dX6_priceAt_306 : decode cX6_priceAt 306 = .ok (.isub, 1) := by decide +kernel
theorem dX6_priceAt_307 : decode cX6_priceAt 307 = .ok (.aload_n 2, 1) := by decide +kernel
theorem dX6_priceAt_308 : decode cX6_priceAt 308 = .ok (.iload_n 3, 1) := by decide +kernel
theorem dX6_priceAt_309 : decode cX6_priceAt 309 = .ok (.invokevirtual 65, 3) := by decide +kernel
theorem dX6_priceAt_312 : decode cX6_priceAt 312 = .ok (.ifCond .eq 32, 3) := by decide +kernel
theorem dX6_priceAt_315 : decode cX6_priceAt 315 = .ok (.aload_n 0, 1) := by decide +kernel
theorem dX6_priceAt_316 : decode cX6_priceAt 316 = .ok (.getfield 33, 3) := by decide +kernel
theorem dX6_priceAt_319 : decode cX6_priceAt 319 = .ok (.iload_n 1, 1) := by decide +kernel
theorem dX6_priceAt_320 : decode cX6_priceAt 320 = .ok (.bipush 7, 2) := by decide +kernel
theorem dX6_priceAt_322 : decode cX6_priceAt 322 = .ok (.isub, 1) := by decide +kernel
theorem dX6_priceAt_323 : decode cX6_priceAt 323 = .ok (.aload 4, 2) := by decide +kernel
theorem dX6_priceAt_325 : decode cX6_priceAt 325 = .ok (.iload 5, 2) := by decide +kernel
theorem dX6_priceAt_327 : decode cX6_priceAt 327 = .ok (.invokevirtual 65, 3) := by decide +kernel
theorem dX6_priceAt_330 : decode cX6_priceAt 330 = .ok (.ifCond .eq 14, 3) := by decide +kernel
theorem dX6_priceAt_333 : decode cX6_priceAt 333 = .ok (.aload_n 0, 1) := by decide +kernel
theorem dX6_priceAt_334 : decode cX6_priceAt 334 = .ok (.iload_n 1, 1) := by decide +kernel
theorem dX6_priceAt_335 : decode cX6_priceAt 335 = .ok (.bipush 7, 2) := by decide +kernel
theorem dX6_priceAt_337 : decode cX6_priceAt 337 = .ok (.isub, 1) := by decide +kernel
theorem dX6_priceAt_338 : decode cX6_priceAt 338 = .ok (.invokevirtual 77, 3) := by decide +kernel
theorem dX6_priceAt_341 : decode cX6_priceAt 341 = .ok (.goto 4, 3) := by decide +kernel
theorem dX6_priceAt_344 : decode cX6_priceAt 344 = .ok (.iconst (-1), 1) := by decide +kernel
theorem dX6_priceAt_345 : decode cX6_priceAt 345 = .ok (.ireturn, 1) := by decide +kernel
theorem j_Slips_priceAt_108  {h : xH} {r0 : Int}  (hf : f_Slips_priceAt_108 h = some r0)  : J mX6_priceAt true 0 0 108 xKn [] [] h (xEq (some r0) h) := by
  unfold f_Slips_priceAt_108 at hf
  refine J_iconst dX6_priceAt_108 (by decide) ?_
  refine J_goto (tgt := 133) dX6_priceAt_109 (by decide) ?_
  exact J_ireti dX6_priceAt_133 rfl (xq_p hf)
theorem j_Slips_priceAt_34 {l1 : Int} {l2 : Int} {l3 : Int} {l4 : Int} {l5 : Int} {l6 : Int} {l7 : Int} {s0 : Int} {h : xH} {r0 : Int} (kl2 : xK l2 = 3 + 4) (kl4 : xK l4 = 3 + 4) (hf : f_Slips_priceAt_34 l1 l2 l3 l4 l5 l6 l7 s0 h = some r0)  : J mX6_priceAt true 0 0 34 xKn [(0, xR 9), (1, xI l1), (2, xR l2), (3, xI l3), (4, xR l4), (5, xI l5), (6, xI l6), (7, xI l7)] [xI s0] h (xEq (some r0) h) := by
  unfold f_Slips_priceAt_34 at hf
  refine J_istore (ls' := [(8, xI s0), (0, xR 9), (1, xI l1), (2, xR l2), (3, xI l3), (4, xR l4), (5, xI l5), (6, xI l6), (7, xI l7)]) dX6_priceAt_34 (by decide) rfl rfl ?_
  refine J_iload_n 2 dX6_priceAt_36 rfl rfl ?_
  refine J_by (c := l1 = 0) (fun hc0 => ?_) (fun hc0 => ?_)
  · have hf := xip hc0 hf
    refine J_tswIn (tgt := 80) dX6_priceAt_37 0 hc0 (by decide) (by decide) rfl (by decide) ?_
    refine J_iload 0 dX6_priceAt_80 rfl ?_
    refine J_if_eq (tgt := 89) dX6_priceAt_82 (by decide) (fun hc => ?_) (fun hc => ?_)
    · have hf := xip hc hf
      refine J_iconst dX6_priceAt_89 (by decide) ?_
      exact J_ireti dX6_priceAt_90 rfl (xq_p hf)
    · have hf := xin' hc hf
      refine J_iconst dX6_priceAt_85 (by decide) ?_
      refine J_goto (tgt := 90) dX6_priceAt_86 (by decide) ?_
      exact J_ireti dX6_priceAt_90 rfl (xq_p hf)
  · have hf := xin' hc0 hf
    refine J_by (c := l1 = 1) (fun hc1 => ?_) (fun hc1 => ?_)
    · have hf := xip hc1 hf
      refine J_tswIn (tgt := 91) dX6_priceAt_37 1 hc1 (by decide) (by decide) rfl (by decide) ?_
      refine J_iload 7 dX6_priceAt_91 rfl ?_
      refine J_iconst dX6_priceAt_93 (by decide) ?_
      refine J_ic_eq (tgt := 108) dX6_priceAt_94 (by decide) (fun hc => ?_) (fun hc => ?_)
      · have hf := xip hc hf
        refine J_sub [] rfl ?_
        exact j_Slips_priceAt_108  hf
      · have hf := xin' hc hf
        refine J_iload 8 dX6_priceAt_97 rfl ?_
        refine J_iconst dX6_priceAt_99 (by decide) ?_
        refine J_ic_eq (tgt := 108) dX6_priceAt_100 (by decide) (fun hc => ?_) (fun hc => ?_)
        · have hf := xip hc hf
          refine J_sub [] rfl ?_
          exact j_Slips_priceAt_108  hf
        · have hf := xin' hc hf
          refine J_iload 0 dX6_priceAt_103 rfl ?_
          refine J_if_eq (tgt := 112) dX6_priceAt_105 (by decide) (fun hc => ?_) (fun hc => ?_)
          · have hf := xip hc hf
            refine J_aload_n 1 dX6_priceAt_112 rfl rfl ?_
            refine J_getRl (j := 1) xcf6 dX6_priceAt_113 kO9 (Or.inl xq217) (by decide) (by decide) rf_9_1 ?_
            refine J_iload 7 dX6_priceAt_116 rfl ?_
            refine J_bip dX6_priceAt_118 (by decide) ?_
            refine J_imul dX6_priceAt_120 ?_
            refine J_iload 8 dX6_priceAt_121 rfl ?_
            refine J_iadd dX6_priceAt_123 ?_
            refine J_aload_n 1 dX6_priceAt_124 rfl rfl ?_
            refine J_getRl (j := 0) xcf6 dX6_priceAt_125 kO9 (Or.inl xq216) (by decide) (by decide) rf_9_0 ?_
            refine J_iconst dX6_priceAt_128 (by decide) ?_
            obtain ⟨hg, hf⟩ := xgd_e hf
            refine J_iald dX6_priceAt_129 (xK_r1 kO10) kO10 hg nA10 ?_
            obtain ⟨r1, hq, hf⟩ := xc1_e hf
            refine J_cSi (Mc := mX6_byLetters) [xR 11, xI (w32 ((w32 (l6 * 26)) + l7)), xI (h 10 1)] dX6_priceAt_130 (fc_Slips_byLetters.fit ⟨xbl rfl, xbl rfl⟩) rfl ⟨Or.inl xq668, xq669⟩ rfl (xbl rfl) (xbl rfl) (jm_Slips_byLetters kO11 hq) ?_
            exact J_ireti dX6_priceAt_133 rfl (xq_p hf)
          · have hf := xin' hc hf
            refine J_sub [] rfl ?_
            exact j_Slips_priceAt_108  hf
    · have hf := xin' hc1 hf
      refine J_by (c := l1 = 2) (fun hc2 => ?_) (fun hc2 => ?_)
      · have hf := xip hc2 hf
        refine J_tswIn (tgt := 134) dX6_priceAt_37 2 hc2 (by decide) (by decide) rfl (by decide) ?_
        refine J_iload 7 dX6_priceAt_134 rfl ?_
        refine J_iconst dX6_priceAt_136 (by decide) ?_
        refine J_ic_ne (tgt := 144) dX6_priceAt_137 (by decide) (fun hc => ?_) (fun hc => ?_)
        · have hf := xip hc hf
          refine J_iconst dX6_priceAt_140 (by decide) ?_
          refine J_goto (tgt := 159) dX6_priceAt_141 (by decide) ?_
          exact J_ireti dX6_priceAt_159 rfl (xq_p hf)
        · have hf := xin' hc hf
          refine J_aload_n 1 dX6_priceAt_144 rfl rfl ?_
          refine J_getRl (j := 2) xcf6 dX6_priceAt_145 kO9 (Or.inl xq218) (by decide) (by decide) rf_9_2 ?_
          refine J_iload 7 dX6_priceAt_148 rfl ?_
          refine J_aload_n 1 dX6_priceAt_150 rfl rfl ?_
          refine J_getRl (j := 0) xcf6 dX6_priceAt_151 kO9 (Or.inl xq216) (by decide) (by decide) rf_9_0 ?_
          refine J_iconst dX6_priceAt_154 (by decide) ?_
          obtain ⟨hg, hf⟩ := xgd_e hf
          refine J_iald dX6_priceAt_155 (xK_r1 kO10) kO10 hg nA10 ?_
          obtain ⟨r2, hq, hf⟩ := xc1_e hf
          refine J_cSi (Mc := mX6_byLetters) [xR 12, xI l6, xI (h 10 2)] dX6_priceAt_156 (fc_Slips_byLetters.fit ⟨xbl rfl, xbl rfl⟩) rfl ⟨Or.inl xq668, xq669⟩ rfl (xbl rfl) (xbl rfl) (jm_Slips_byLetters kO12 hq) ?_
          exact J_ireti dX6_priceAt_159 rfl (xq_p hf)
      · have hf := xin' hc2 hf
        refine J_by (c := l1 = 3) (fun hc3 => ?_) (fun hc3 => ?_)
        · have hf := xip hc3 hf
          refine J_tswIn (tgt := 160) dX6_priceAt_37 3 hc3 (by decide) (by decide) rfl (by decide) ?_
          refine J_iload 8 dX6_priceAt_160 rfl ?_
          refine J_iconst dX6_priceAt_162 (by decide) ?_
          refine J_ic_ne (tgt := 170) dX6_priceAt_163 (by decide) (fun hc => ?_) (fun hc => ?_)
          · have hf := xip hc hf
            refine J_iconst dX6_priceAt_166 (by decide) ?_
            refine J_goto (tgt := 185) dX6_priceAt_167 (by decide) ?_
            exact J_ireti dX6_priceAt_185 rfl (xq_p hf)
          · have hf := xin' hc hf
            refine J_aload_n 1 dX6_priceAt_170 rfl rfl ?_
            refine J_getRl (j := 3) xcf6 dX6_priceAt_171 kO9 (Or.inl xq219) (by decide) (by decide) rf_9_3 ?_
            refine J_iload 8 dX6_priceAt_174 rfl ?_
            refine J_aload_n 1 dX6_priceAt_176 rfl rfl ?_
            refine J_getRl (j := 0) xcf6 dX6_priceAt_177 kO9 (Or.inl xq216) (by decide) (by decide) rf_9_0 ?_
            refine J_iconst dX6_priceAt_180 (by decide) ?_
            obtain ⟨hg, hf⟩ := xgd_e hf
            refine J_iald dX6_priceAt_181 (xK_r1 kO10) kO10 hg nA10 ?_
            obtain ⟨r3, hq, hf⟩ := xc1_e hf
            refine J_cSi (Mc := mX6_byLetters) [xR 13, xI l7, xI (h 10 3)] dX6_priceAt_182 (fc_Slips_byLetters.fit ⟨xbl rfl, xbl rfl⟩) rfl ⟨Or.inl xq668, xq669⟩ rfl (xbl rfl) (xbl rfl) (jm_Slips_byLetters kO13 hq) ?_
            exact J_ireti dX6_priceAt_185 rfl (xq_p hf)
        · have hf := xin' hc3 hf
          refine J_by (c := l1 = 4) (fun hc4 => ?_) (fun hc4 => ?_)
          · have hf := xip hc4 hf
            refine J_tswIn (tgt := 186) dX6_priceAt_37 4 hc4 (by decide) (by decide) rfl (by decide) ?_
            refine J_iload 7 dX6_priceAt_186 rfl ?_
            refine J_iconst dX6_priceAt_188 (by decide) ?_
            refine J_ic_eq (tgt := 238) dX6_priceAt_189 (by decide) (fun hc => ?_) (fun hc => ?_)
            · have hf := xip hc hf
              refine J_iconst dX6_priceAt_238 (by decide) ?_
              exact J_ireti dX6_priceAt_239 rfl (xq_p hf)
            · have hf := xin' hc hf
              refine J_iload 8 dX6_priceAt_192 rfl ?_
              refine J_iconst dX6_priceAt_194 (by decide) ?_
              refine J_ic_eq (tgt := 238) dX6_priceAt_195 (by decide) (fun hc => ?_) (fun hc => ?_)
              · have hf := xip hc hf
                refine J_iconst dX6_priceAt_238 (by decide) ?_
                exact J_ireti dX6_priceAt_239 rfl (xq_p hf)
              · have hf := xin' hc hf
                refine J_iload 0 dX6_priceAt_198 rfl ?_
                refine J_if_ne (tgt := 238) dX6_priceAt_200 (by decide) (fun hc => ?_) (fun hc => ?_)
                · have hf := xip hc hf
                  refine J_aload_n 3 dX6_priceAt_203 rfl rfl ?_
                  refine J_iload_n 4 dX6_priceAt_204 rfl rfl ?_
                  refine J_iconst dX6_priceAt_205 (by decide) ?_
                  refine J_iadd dX6_priceAt_206 ?_
                  obtain ⟨r4, hq, hf⟩ := xc1_e hf
                  refine J_cVi (Mc := mX4_at) [xI (w32 (l3 + 1))] dX6_priceAt_207 (fc_Row_at.fit ⟨xbl rfl, xbl rfl⟩) rfl ⟨Or.inr ⟨_, xq667⟩, xq538, xq10⟩ kl2 (ci := 4) rfl rfl (xbl rfl) (xbl rfl) (jm_Row_at kl2 hq) ?_
                  refine J_iload 8 dX6_priceAt_210 rfl ?_
                  refine J_ic_ne (tgt := 238) dX6_priceAt_212 (by decide) (fun hc => ?_) (fun hc => ?_)
                  · have hf := xip hc hf
                    refine J_aload 5 dX6_priceAt_215 rfl ?_
                    refine J_iload 6 dX6_priceAt_217 rfl ?_
                    refine J_iconst dX6_priceAt_219 (by decide) ?_
                    refine J_iadd dX6_priceAt_220 ?_
                    obtain ⟨r5, hq, hf⟩ := xc1_e hf
                    refine J_cVi (Mc := mX4_at) [xI (w32 (l5 + 1))] dX6_priceAt_221 (fc_Row_at.fit ⟨xbl rfl, xbl rfl⟩) rfl ⟨Or.inr ⟨_, xq667⟩, xq538, xq10⟩ kl4 (ci := 4) rfl rfl (xbl rfl) (xbl rfl) (jm_Row_at kl4 hq) ?_
                    refine J_iload 7 dX6_priceAt_224 rfl ?_
                    refine J_ic_ne (tgt := 238) dX6_priceAt_226 (by decide) (fun hc => ?_) (fun hc => ?_)
                    · have hf := xip hc hf
                      refine J_aload_n 1 dX6_priceAt_229 rfl rfl ?_
                      refine J_getRl (j := 0) xcf6 dX6_priceAt_230 kO9 (Or.inl xq216) (by decide) (by decide) rf_9_0 ?_
                      refine J_iconst dX6_priceAt_233 (by decide) ?_
                      obtain ⟨hg, hf⟩ := xgd_e hf
                      refine J_iald dX6_priceAt_234 (xK_r1 kO10) kO10 hg nA10 ?_
                      refine J_goto (tgt := 239) dX6_priceAt_235 (by decide) ?_
                      exact J_ireti dX6_priceAt_239 rfl (xq_p hf)
                    · have hf := xin' hc hf
                      refine J_iconst dX6_priceAt_238 (by decide) ?_
                      exact J_ireti dX6_priceAt_239 rfl (xq_p hf)
                  · have hf := xin' hc hf
                    refine J_iconst dX6_priceAt_238 (by decide) ?_
                    exact J_ireti dX6_priceAt_239 rfl (xq_p hf)
                · have hf := xin' hc hf
                  refine J_iconst dX6_priceAt_238 (by decide) ?_
                  exact J_ireti dX6_priceAt_239 rfl (xq_p hf)
          · have hf := xin' hc4 hf
            refine J_by (c := l1 = 5) (fun hc5 => ?_) (fun hc5 => ?_)
            · have hf := xip hc5 hf
              refine J_tswIn (tgt := 240) dX6_priceAt_37 5 hc5 (by decide) (by decide) rfl (by decide) ?_
              refine J_iload 0 dX6_priceAt_240 rfl ?_
              refine J_if_eq (tgt := 268) dX6_priceAt_242 (by decide) (fun hc => ?_) (fun hc => ?_)
              · have hf := xip hc hf
                refine J_iconst dX6_priceAt_268 (by decide) ?_
                exact J_ireti dX6_priceAt_269 rfl (xq_p hf)
              · have hf := xin' hc hf
                refine J_aload 5 dX6_priceAt_245 rfl ?_
                refine J_iload 6 dX6_priceAt_247 rfl ?_
                refine J_iconst dX6_priceAt_249 (by decide) ?_
                refine J_iadd dX6_priceAt_250 ?_
                obtain ⟨r6, hq, hf⟩ := xc1_e hf
                refine J_cVi (Mc := mX4_at) [xI (w32 (l5 + 1))] dX6_priceAt_251 (fc_Row_at.fit ⟨xbl rfl, xbl rfl⟩) rfl ⟨Or.inr ⟨_, xq667⟩, xq538, xq10⟩ kl4 (ci := 4) rfl rfl (xbl rfl) (xbl rfl) (jm_Row_at kl4 hq) ?_
                refine J_iload 7 dX6_priceAt_254 rfl ?_
                refine J_ic_ne (tgt := 268) dX6_priceAt_256 (by decide) (fun hc => ?_) (fun hc => ?_)
                · have hf := xip hc hf
                  refine J_aload_n 1 dX6_priceAt_259 rfl rfl ?_
                  refine J_getRl (j := 0) xcf6 dX6_priceAt_260 kO9 (Or.inl xq216) (by decide) (by decide) rf_9_0 ?_
                  refine J_iconst dX6_priceAt_263 (by decide) ?_
                  obtain ⟨hg, hf⟩ := xgd_e hf
                  refine J_iald dX6_priceAt_264 (xK_r1 kO10) kO10 hg nA10 ?_
                  refine J_goto (tgt := 269) dX6_priceAt_265 (by decide) ?_
                  exact J_ireti dX6_priceAt_269 rfl (xq_p hf)
                · have hf := xin' hc hf
                  refine J_iconst dX6_priceAt_268 (by decide) ?_
                  exact J_ireti dX6_priceAt_269 rfl (xq_p hf)
            · have hf := xin' hc5 hf
              refine J_by (c := l1 = 6) (fun hc6 => ?_) (fun hc6 => ?_)
              · have hf := xip hc6 hf
                refine J_tswIn (tgt := 270) dX6_priceAt_37 6 hc6 (by decide) (by decide) rfl (by decide) ?_
                refine J_iload 0 dX6_priceAt_270 rfl ?_
                refine J_if_eq (tgt := 297) dX6_priceAt_272 (by decide) (fun hc => ?_) (fun hc => ?_)
                · have hf := xip hc hf
                  refine J_iconst dX6_priceAt_297 (by decide) ?_
                  exact J_ireti dX6_priceAt_298 rfl (xq_p hf)
                · have hf := xin' hc hf
                  refine J_aload_n 3 dX6_priceAt_275 rfl rfl ?_
                  refine J_iload_n 4 dX6_priceAt_276 rfl rfl ?_
                  refine J_iconst dX6_priceAt_277 (by decide) ?_
                  refine J_iadd dX6_priceAt_278 ?_
                  obtain ⟨r7, hq, hf⟩ := xc1_e hf
                  refine J_cVi (Mc := mX4_at) [xI (w32 (l3 + 1))] dX6_priceAt_279 (fc_Row_at.fit ⟨xbl rfl, xbl rfl⟩) rfl ⟨Or.inr ⟨_, xq667⟩, xq538, xq10⟩ kl2 (ci := 4) rfl rfl (xbl rfl) (xbl rfl) (jm_Row_at kl2 hq) ?_
                  refine J_iload 7 dX6_priceAt_282 rfl ?_
                  refine J_ic_ne (tgt := 297) dX6_priceAt_284 (by decide) (fun hc => ?_) (fun hc => ?_)
                  · have hf := xip hc hf
                    refine J_aload_n 1 dX6_priceAt_287 rfl rfl ?_
                    refine J_getRl (j := 0) xcf6 dX6_priceAt_288 kO9 (Or.inl xq216) (by decide) (by decide) rf_9_0 ?_
                    refine J_bip dX6_priceAt_291 (by decide) ?_
                    obtain ⟨hg, hf⟩ := xgd_e hf
                    refine J_iald dX6_priceAt_293 (xK_r1 kO10) kO10 hg nA10 ?_
                    refine J_goto (tgt := 298) dX6_priceAt_294 (by decide) ?_
                    exact J_ireti dX6_priceAt_298 rfl (xq_p hf)
                  · have hf := xin' hc hf
                    refine J_iconst dX6_priceAt_297 (by decide) ?_
                    exact J_ireti dX6_priceAt_298 rfl (xq_p hf)
              · have hf := xin' hc6 hf
                refine J_tswOut (tgt := 299) dX6_priceAt_37 (by omega) (by decide) ?_
                refine J_aload_n 1 dX6_priceAt_299 rfl rfl ?_
                refine J_getRl (j := 4) xcf6 dX6_priceAt_300 kO9 (Or.inl xq220) (by decide) (by decide) rf_9_4 ?_
                refine J_iload_n 2 dX6_priceAt_303 rfl rfl ?_
                refine J_bip dX6_priceAt_304 (by decide) ?_
                refine J_isub dX6_priceAt_306 ?_
                refine J_aload_n 3 dX6_priceAt_307 rfl rfl ?_
                refine J_iload_n 4 dX6_priceAt_308 rfl rfl ?_
                obtain ⟨r8, hq, hf⟩ := xc1_e hf
                refine J_cVi (Mc := mX5_standsIn) [xI (w32 (l1 - 7)), xR l2, xI l3] dX6_priceAt_309 (fc_Rows_standsIn.fit ⟨xbl rfl, xbl rfl⟩) rfl ⟨Or.inr ⟨_, xq671⟩, xq673, xq30⟩ kO14 (ci := 5) rfl rfl (xbl rfl) (xbl rfl) (jm_Rows_standsIn kO14 kl2 hq) ?_
                refine J_if_eq (tgt := 344) dX6_priceAt_312 (by decide) (fun hc => ?_) (fun hc => ?_)
                · have hf := xip hc hf
                  refine J_iconst dX6_priceAt_344 (by decide) ?_
                  exact J_ireti dX6_priceAt_345 rfl (xq_p hf)
                · have hf := xin' hc hf
                  refine J_aload_n 1 dX6_priceAt_315 rfl rfl ?_
                  refine J_getRl (j := 5) xcf6 dX6_priceAt_316 kO9 (Or.inl xq222) (by decide) (by decide) rf_9_5 ?_
                  refine J_iload_n 2 dX6_priceAt_319 rfl rfl ?_
                  refine J_bip dX6_priceAt_320 (by decide) ?_
                  refine J_isub dX6_priceAt_322 ?_
                  refine J_aload 5 dX6_priceAt_323 rfl ?_
                  refine J_iload 6 dX6_priceAt_325 rfl ?_
                  obtain ⟨r9, hq, hf⟩ := xc1_e hf
                  refine J_cVi (Mc := mX5_standsIn) [xI (w32 (l1 - 7)), xR l4, xI l5] dX6_priceAt_327 (fc_Rows_standsIn.fit ⟨xbl rfl, xbl rfl⟩) rfl ⟨Or.inr ⟨_, xq671⟩, xq673, xq30⟩ kO17 (ci := 5) rfl rfl (xbl rfl) (xbl rfl) (jm_Rows_standsIn kO17 kl4 hq) ?_
                  refine J_if_eq (tgt := 344) dX6_priceAt_330 (by decide) (fun hc => ?_) (fun hc => ?_)
                  · have hf := xip hc hf
                    refine J_iconst dX6_priceAt_344 (by decide) ?_
                    exact J_ireti dX6_priceAt_345 rfl (xq_p hf)
                  · have hf := xin' hc hf
                    refine J_aload_n 1 dX6_priceAt_333 rfl rfl ?_
                    refine J_iload_n 2 dX6_priceAt_334 rfl rfl ?_
                    refine J_bip dX6_priceAt_335 (by decide) ?_
                    refine J_isub dX6_priceAt_337 ?_
                    obtain ⟨r10, hq, hf⟩ := xc1_e hf
                    refine J_cVi (Mc := mX6_soundPrice) [xI (w32 (l1 - 7))] dX6_priceAt_338 (fc_Slips_soundPrice.fit ⟨xbl rfl, xbl rfl⟩) rfl ⟨Or.inl xq675, xq677, xq31⟩ kO9 (ci := 6) rfl rfl (xbl rfl) (xbl rfl) (jm_Slips_soundPrice  hq) ?_
                    refine J_goto (tgt := 345) dX6_priceAt_341 (by decide) ?_
                    exact J_ireti dX6_priceAt_345 rfl (xq_p hf)
theorem j_Slips_priceAt_33 {l1 : Int} {l2 : Int} {l3 : Int} {l4 : Int} {l5 : Int} {l6 : Int} {l7 : Int} {h : xH} {r0 : Int} (kl2 : xK l2 = 3 + 4) (kl4 : xK l4 = 3 + 4) (hf : f_Slips_priceAt_33 l1 l2 l3 l4 l5 l6 l7 h = some r0)  : J mX6_priceAt true 0 0 33 xKn [(0, xR 9), (1, xI l1), (2, xR l2), (3, xI l3), (4, xR l4), (5, xI l5), (6, xI l6), (7, xI l7)] [] h (xEq (some r0) h) := by
  unfold f_Slips_priceAt_33 at hf
  refine J_iconst dX6_priceAt_33 (by decide) ?_
  exact j_Slips_priceAt_34 kl2 kl4 hf
theorem jm_Slips_priceAt {l1 : Int} {l2 : Int} {l3 : Int} {l4 : Int} {l5 : Int} {h : xH} {r0 : Int} (kl2 : xK l2 = 3 + 4) (kl4 : xK l4 = 3 + 4) (hf : f_Slips_priceAt l1 l2 l3 l4 l5 h = some r0) : J mX6_priceAt true 0 0 0 xKn (xen 0 [xR 9, xI l1, xR l2, xI l3, xR l4, xI l5]) [] h (xEq (some r0) h) := by
  unfold f_Slips_priceAt at hf
  refine J_cong (ls2 := [(0, xR 9), (1, xI l1), (2, xR l2), (3, xI l3), (4, xR l4), (5, xI l5)]) (st2 := []) rfl rfl ?_
  refine J_aload_n 2 dX6_priceAt_0 rfl rfl ?_
  refine J_iload_n 3 dX6_priceAt_1 rfl rfl ?_
  obtain ⟨r1, hq, hf⟩ := xc1_e hf
  refine J_cVi (Mc := mX4_at) [xI l3] dX6_priceAt_2 (fc_Row_at.fit ⟨xbl rfl, xbl rfl⟩) rfl ⟨Or.inr ⟨_, xq667⟩, xq538, xq10⟩ kl2 (ci := 4) rfl rfl (xbl rfl) (xbl rfl) (jm_Row_at kl2 hq) ?_
  refine J_istore (ls' := [(6, xI r1), (0, xR 9), (1, xI l1), (2, xR l2), (3, xI l3), (4, xR l4), (5, xI l5)]) dX6_priceAt_5 (by decide) rfl rfl ?_
  refine J_aload 5 dX6_priceAt_7 rfl ?_
  refine J_iload 6 dX6_priceAt_9 rfl ?_
  obtain ⟨r2, hq, hf⟩ := xc1_e hf
  refine J_cVi (Mc := mX4_at) [xI l5] dX6_priceAt_11 (fc_Row_at.fit ⟨xbl rfl, xbl rfl⟩) rfl ⟨Or.inr ⟨_, xq667⟩, xq538, xq10⟩ kl4 (ci := 4) rfl rfl (xbl rfl) (xbl rfl) (jm_Row_at kl4 hq) ?_
  refine J_istore (ls' := [(7, xI r2), (6, xI r1), (0, xR 9), (1, xI l1), (2, xR l2), (3, xI l3), (4, xR l4), (5, xI l5)]) dX6_priceAt_14 (by decide) rfl rfl ?_
  refine J_iload 1 dX6_priceAt_16 rfl ?_
  refine J_iconst dX6_priceAt_18 (by decide) ?_
  refine J_ic_eq (tgt := 33) dX6_priceAt_19 (by decide) (fun hc => ?_) (fun hc => ?_)
  · have hf := xip hc hf
    refine J_sub [2, 3, 4, 5, 6, 7, 1, 0] rfl ?_
    exact j_Slips_priceAt_33 kl2 kl4 hf
  · have hf := xin' hc hf
    refine J_iload 1 dX6_priceAt_22 rfl ?_
    refine J_iload 0 dX6_priceAt_24 rfl ?_
    refine J_ic_ne (tgt := 33) dX6_priceAt_26 (by decide) (fun hc => ?_) (fun hc => ?_)
    · have hf := xip hc hf
      refine J_iconst dX6_priceAt_29 (by decide) ?_
      refine J_goto (tgt := 34) dX6_priceAt_30 (by decide) ?_
      refine J_sub [2, 3, 4, 5, 6, 7, 1, 0] rfl ?_
      exact j_Slips_priceAt_34 kl2 kl4 hf
    · have hf := xin' hc hf
      refine J_sub [2, 3, 4, 5, 6, 7, 1, 0] rfl ?_
      exact j_Slips_priceAt_33 kl2 kl4 hf
theorem dX6_meantTaken_0 : decode cX6_meantTaken 0 = .ok (.iload_n 1, 1) := by decide +kernel
theorem dX6_meantTaken_1 : decode cX6_meantTaken 1 = .ok (.ifCond .lt 19, 3) := by decide +kernel
theorem dX6_meantTaken_4 : decode cX6_meantTaken 4 = .ok (.iload_n 1, 1) := by decide +kernel
theorem dX6_meantTaken_5 : decode cX6_meantTaken 5 = .ok (.getstatic 55, 3) := by decide +kernel
theorem dX6_meantTaken_8 : decode cX6_meantTaken 8 = .ok (.arraylength, 1) := by decide +kernel
theorem dX6_meantTaken_9 : decode cX6_meantTaken 9 = .ok (.if_icmp .ge 11, 3) := by decide +kernel
theorem dX6_meantTaken_12 : decode cX6_meantTaken 12 = .ok (.getstatic 55, 3) := by decide +kernel
theorem dX6_meantTaken_15 : decode cX6_meantTaken 15 = .ok (.iload_n 1, 1) := by decide +kernel
theorem dX6_meantTaken_16 : decode cX6_meantTaken 16 = .ok (.iaload, 1) := by decide +kernel
theorem dX6_meantTaken_17 : decode cX6_meantTaken 17 = .ok (.goto 14, 3) := by decide +kernel
theorem dX6_meantTaken_20 : decode cX6_meantTaken 20 = .ok (.aload_n 0, 1) := by decide +kernel
theorem dX6_meantTaken_21 : decode cX6_meantTaken 21 = .ok (.getfield 29, 3) := by decide +kernel
theorem dX6_meantTaken_24 : decode cX6_meantTaken 24 = .ok (.iload_n 1, 1) := by decide +kernel
theorem dX6_meantTaken_25 : decode cX6_meantTaken 25 = .ok (.bipush 7, 2) := by decide +kernel
theorem dX6_meantTaken_27 : decode cX6_meantTaken 27 = .ok (.isub, 1) := by decide +kernel
theorem dX6_meantTaken_28 : decode cX6_meantTaken 28 = .ok (.invokevirtual 58, 3) := by decide +kernel
theorem dX6_meantTaken_31 : decode cX6_meantTaken 31 = .ok (.ireturn, 1) := by decide +kernel
theorem j_Slips_meantTaken_20 {l1 : Int} {h : xH} {r0 : Int}  (hf : f_Slips_meantTaken_20 l1 h = some r0)  : J mX6_meantTaken true 0 0 20 xKn [(0, xR 9), (1, xI l1)] [] h (xEq (some r0) h) := by
  unfold f_Slips_meantTaken_20 at hf
  refine J_aload_n 0 dX6_meantTaken_20 rfl rfl ?_
  refine J_getRl (j := 4) xcf6 dX6_meantTaken_21 kO9 (Or.inl xq220) (by decide) (by decide) rf_9_4 ?_
  refine J_iload_n 1 dX6_meantTaken_24 rfl rfl ?_
  refine J_bip dX6_meantTaken_25 (by decide) ?_
  refine J_isub dX6_meantTaken_27 ?_
  obtain ⟨r1, hq, hf⟩ := xc1_e hf
  refine J_cVi (Mc := mX5_sizeOf) [xI (w32 (l1 - 7))] dX6_meantTaken_28 (fc_Rows_sizeOf.fit ⟨xbl rfl, xbl rfl⟩) rfl ⟨Or.inr ⟨_, xq685⟩, xq584, xq16⟩ kO14 (ci := 5) rfl rfl (xbl rfl) (xbl rfl) (jm_Rows_sizeOf kO14 hq) ?_
  exact J_ireti dX6_meantTaken_31 rfl (xq_p hf)
theorem jm_Slips_meantTaken {l1 : Int} {h : xH} {r0 : Int}  (hf : f_Slips_meantTaken l1 h = some r0) : J mX6_meantTaken true 0 0 0 xKn (xen 0 [xR 9, xI l1]) [] h (xEq (some r0) h) := by
  unfold f_Slips_meantTaken at hf
  refine J_cong (ls2 := [(0, xR 9), (1, xI l1)]) (st2 := []) rfl rfl ?_
  refine J_iload_n 1 dX6_meantTaken_0 rfl rfl ?_
  refine J_if_lt (tgt := 20) dX6_meantTaken_1 (by decide) (fun hc => ?_) (fun hc => ?_)
  · have hf := xip hc hf
    exact j_Slips_meantTaken_20  hf
  · have hf := xin' hc hf
    refine J_iload_n 1 dX6_meantTaken_4 rfl rfl ?_
    refine J_gsM dX6_meantTaken_5 xq683 ?_
    refine J_tlen dX6_meantTaken_8 (by decide) ?_
    refine J_ic_ge (tgt := 20) dX6_meantTaken_9 (by decide) (fun hc => ?_) (fun hc => ?_)
    · have hf := xip hc hf
      refine J_gsM dX6_meantTaken_12 xq683 ?_
      refine J_iload_n 1 dX6_meantTaken_15 rfl rfl ?_
      obtain ⟨hg, hf⟩ := xgd_e hf
      refine J_tald dX6_meantTaken_16 (by decide) hg ?_
      refine J_goto (tgt := 31) dX6_meantTaken_17 (by decide) ?_
      exact J_ireti dX6_meantTaken_31 rfl (xq_p hf)
    · have hf := xin' hc hf
      exact j_Slips_meantTaken_20  hf
theorem dX6_typedTaken_0 : decode cX6_typedTaken 0 = .ok (.iload_n 1, 1) := by decide +kernel
theorem dX6_typedTaken_1 : decode cX6_typedTaken 1 = .ok (.ifCond .lt 19, 3) := by decide +kernel
theorem dX6_typedTaken_4 : decode cX6_typedTaken 4 = .ok (.iload_n 1, 1) := by decide +kernel
theorem dX6_typedTaken_5 : decode cX6_typedTaken 5 = .ok (.getstatic 62, 3) := by decide +kernel
theorem dX6_typedTaken_8 : decode cX6_typedTaken 8 = .ok (.arraylength, 1) := by decide +kernel
theorem dX6_typedTaken_9 : decode cX6_typedTaken 9 = .ok (.if_icmp .ge 11, 3) := by decide +kernel
theorem dX6_typedTaken_12 : decode cX6_typedTaken 12 = .ok (.getstatic 62, 3) := by decide +kernel
theorem dX6_typedTaken_15 : decode cX6_typedTaken 15 = .ok (.iload_n 1, 1) := by decide +kernel
theorem dX6_typedTaken_16 : decode cX6_typedTaken 16 = .ok (.iaload, 1) := by decide +kernel
theorem dX6_typedTaken_17 : decode cX6_typedTaken 17 = .ok (.goto 14, 3) := by decide +kernel
theorem dX6_typedTaken_20 : decode cX6_typedTaken 20 = .ok (.aload_n 0, 1) := by decide +kernel
theorem dX6_typedTaken_21 : decode cX6_typedTaken 21 = .ok (.getfield 33, 3) := by decide +kernel
theorem dX6_typedTaken_24 : decode cX6_typedTaken 24 = .ok (.iload_n 1, 1) := by decide +kernel
theorem dX6_typedTaken_25 : decode cX6_typedTaken 25 = .ok (.bipush 7, 2) := by decide +kernel
theorem dX6_typedTaken_27 : decode cX6_typedTaken 27 = .ok (.isub, 1) := by decide +kernel
theorem dX6_typedTaken_28 : decode cX6_typedTaken 28 = .ok (.invokevirtual 58, 3) := by decide +kernel
theorem dX6_typedTaken_31 : decode cX6_typedTaken 31 = .ok (.ireturn, 1) := by decide +kernel
theorem j_Slips_typedTaken_20 {l1 : Int} {h : xH} {r0 : Int}  (hf : f_Slips_typedTaken_20 l1 h = some r0)  : J mX6_typedTaken true 0 0 20 xKn [(0, xR 9), (1, xI l1)] [] h (xEq (some r0) h) := by
  unfold f_Slips_typedTaken_20 at hf
  refine J_aload_n 0 dX6_typedTaken_20 rfl rfl ?_
  refine J_getRl (j := 5) xcf6 dX6_typedTaken_21 kO9 (Or.inl xq222) (by decide) (by decide) rf_9_5 ?_
  refine J_iload_n 1 dX6_typedTaken_24 rfl rfl ?_
  refine J_bip dX6_typedTaken_25 (by decide) ?_
  refine J_isub dX6_typedTaken_27 ?_
  obtain ⟨r1, hq, hf⟩ := xc1_e hf
  refine J_cVi (Mc := mX5_sizeOf) [xI (w32 (l1 - 7))] dX6_typedTaken_28 (fc_Rows_sizeOf.fit ⟨xbl rfl, xbl rfl⟩) rfl ⟨Or.inr ⟨_, xq685⟩, xq584, xq16⟩ kO17 (ci := 5) rfl rfl (xbl rfl) (xbl rfl) (jm_Rows_sizeOf kO17 hq) ?_
  exact J_ireti dX6_typedTaken_31 rfl (xq_p hf)
theorem jm_Slips_typedTaken {l1 : Int} {h : xH} {r0 : Int}  (hf : f_Slips_typedTaken l1 h = some r0) : J mX6_typedTaken true 0 0 0 xKn (xen 0 [xR 9, xI l1]) [] h (xEq (some r0) h) := by
  unfold f_Slips_typedTaken at hf
  refine J_cong (ls2 := [(0, xR 9), (1, xI l1)]) (st2 := []) rfl rfl ?_
  refine J_iload_n 1 dX6_typedTaken_0 rfl rfl ?_
  refine J_if_lt (tgt := 20) dX6_typedTaken_1 (by decide) (fun hc => ?_) (fun hc => ?_)
  · have hf := xip hc hf
    exact j_Slips_typedTaken_20  hf
  · have hf := xin' hc hf
    refine J_iload_n 1 dX6_typedTaken_4 rfl rfl ?_
    refine J_gsT dX6_typedTaken_5 xq690 ?_
    refine J_tlen dX6_typedTaken_8 (by decide) ?_
    refine J_ic_ge (tgt := 20) dX6_typedTaken_9 (by decide) (fun hc => ?_) (fun hc => ?_)
    · have hf := xip hc hf
      refine J_gsT dX6_typedTaken_12 xq690 ?_
      refine J_iload_n 1 dX6_typedTaken_15 rfl rfl ?_
      obtain ⟨hg, hf⟩ := xgd_e hf
      refine J_tald dX6_typedTaken_16 (by decide) hg ?_
      refine J_goto (tgt := 31) dX6_typedTaken_17 (by decide) ?_
      exact J_ireti dX6_typedTaken_31 rfl (xq_p hf)
    · have hf := xin' hc hf
      exact j_Slips_typedTaken_20  hf
theorem dX10_sumBy_0 : decode cX10_sumBy 0 = .ok (.aload_n 0, 1) := by decide +kernel
theorem dX10_sumBy_1 : decode cX10_sumBy 1 = .ok (.getfield 27, 3) := by decide +kernel
theorem dX10_sumBy_4 : decode cX10_sumBy 4 = .ok (.iload_n 1, 1) := by decide +kernel
theorem dX10_sumBy_5 : decode cX10_sumBy 5 = .ok (.aload_n 2, 1) := by decide +kernel
theorem dX10_sumBy_6 : decode cX10_sumBy 6 = .ok (.iload_n 3, 1) := by decide +kernel
theorem dX10_sumBy_7 : decode cX10_sumBy 7 = .ok (.aload 4, 2) := by decide +kernel
theorem dX10_sumBy_9 : decode cX10_sumBy 9 = .ok (.iload 5, 2) := by decide +kernel
theorem dX10_sumBy_11 : decode cX10_sumBy 11 = .ok (.invokevirtual 57, 3) := by decide +kernel
theorem dX10_sumBy_14 : decode cX10_sumBy 14 = .ok (.istore 6, 2) := by decide +kernel
theorem dX10_sumBy_16 : decode cX10_sumBy 16 = .ok (.iload_n 3, 1) := by decide +kernel
theorem dX10_sumBy_17 : decode cX10_sumBy 17 = .ok (.aload_n 0, 1) := by decide +kernel
theorem dX10_sumBy_18 : decode cX10_sumBy 18 = .ok (.getfield 27, 3) := by decide +kernel
theorem dX10_sumBy_21 : decode cX10_sumBy 21 = .ok (.iload_n 1, 1) := by decide +kernel
theorem dX10_sumBy_22 : decode cX10_sumBy 22 = .ok (.invokevirtual 60, 3) := by decide +kernel
theorem dX10_sumBy_25 : decode cX10_sumBy 25 = .ok (.iadd, 1) := by decide +kernel
theorem dX10_sumBy_26 : decode cX10_sumBy 26 = .ok (.bipush 13, 2) := by decide +kernel
theorem dX10_sumBy_28 : decode cX10_sumBy 28 = .ok (.imul, 1) := by decide +kernel
theorem dX10_sumBy_29 : decode cX10_sumBy 29 = .ok (.iload 5, 2) := by decide +kernel
theorem dX10_sumBy_31 : decode cX10_sumBy 31 = .ok (.iadd, 1) := by decide +kernel
theorem dX10_sumBy_32 : decode cX10_sumBy 32 = .ok (.aload_n 0, 1) := by decide +kernel
theorem dX10_sumBy_33 : decode cX10_sumBy 33 = .ok (.getfield 27, 3) := by decide +kernel
theorem dX10_sumBy_36 : decode cX10_sumBy 36 = .ok (.iload_n 1, 1) := by decide +kernel
theorem dX10_sumBy_37 : decode cX10_sumBy 37 = .ok (.invokevirtual 64, 3) := by decide +kernel
theorem dX10_sumBy_40 : decode cX10_sumBy 40 = .ok (.iadd, 1) := by decide +kernel
theorem dX10_sumBy_41 : decode cX10_sumBy 41 = .ok (.istore 7, 2) := by decide +kernel
theorem dX10_sumBy_43 : decode cX10_sumBy 43 = .ok (.iload 6, 2) := by decide +kernel
theorem dX10_sumBy_45 : decode cX10_sumBy 45 = .ok (.iconst (-1), 1) := by decide +kernel
theorem dX10_sumBy_46 : decode cX10_sumBy 46 = .ok (.if_icmp .eq 18, 3) := by decide +kernel
theorem dX10_sumBy_49 : decode cX10_sumBy 49 = .ok (.iload 7, 2) := by decide +kernel
theorem dX10_sumBy_51 : decode cX10_sumBy 51 = .ok (.ifCond .lt 13, 3) := by decide +kernel
theorem dX10_sumBy_54 : decode cX10_sumBy 54 = .ok (.iload 7, 2) := by decide +kernel
theorem dX10_sumBy_56 : decode cX10_sumBy 56 = .ok (.aload_n 0, 1) := by decide +kernel
theorem dX10_sumBy_57 : decode cX10_sumBy 57 = .ok (.getfield 9, 3) := by decide +kernel
theorem dX10_sumBy_60 : decode cX10_sumBy 60 = .ok (.arraylength, 1) := by decide +kernel
theorem dX10_sumBy_61 : decode cX10_sumBy 61 = .ok (.if_icmp .lt 8, 3) := by decide +kernel
theorem dX10_sumBy_64 : decode cX10_sumBy 64 = .ok (.ldc 41, 2) := by decide +kernel
theorem dX10_sumBy_66 : decode cX10_sumBy 66 = .ok (.goto 13, 3) := by decide +kernel
theorem dX10_sumBy_69 : decode cX10_sumBy 69 = .ok (.iload 6, 2) := by decide +kernel
theorem dX10_sumBy_71 : decode cX10_sumBy 71 = .ok (.aload_n 0, 1) := by decide +kernel
theorem dX10_sumBy_72 : decode cX10_sumBy 72 = .ok (.getfield 9, 3) := by decide +kernel
theorem dX10_sumBy_75 : decode cX10_sumBy 75 = .ok (.iload 7, 2) := by decide +kernel
theorem dX10_sumBy_77 : decode cX10_sumBy 77 = .ok (.iaload, 1) := by decide +kernel
theorem dX10_sumBy_78 : decode cX10_sumBy 78 = .ok (.iadd, 1) := by decide +kernel
theorem dX10_sumBy_79 : decode cX10_sumBy 79 = .ok (.ireturn, 1) := by decide +kernel
theorem j_Way_sumBy_64  {h : xH} {r0 : Int}  (hf : f_Way_sumBy_64 h = some r0)  : J mX10_sumBy true 0 0 64 xKn [] [] h (xEq (some r0) h) := by
  unfold f_Way_sumBy_64 at hf
  refine J_ldc (v := 1000000) dX10_sumBy_64 xq654 (by decide) ?_
  refine J_goto (tgt := 79) dX10_sumBy_66 (by decide) ?_
  exact J_ireti dX10_sumBy_79 rfl (xq_p hf)
theorem jm_Way_sumBy {l0 : Int} {l1 : Int} {l2 : Int} {l3 : Int} {l4 : Int} {l5 : Int} {h : xH} {r0 : Int} (kl0 : xK l0 = 3 + 10) (kl2 : xK l2 = 3 + 4) (kl4 : xK l4 = 3 + 4) (hf : f_Way_sumBy l0 l1 l2 l3 l4 l5 h = some r0) : J mX10_sumBy true 0 0 0 xKn (xen 0 [xR l0, xI l1, xR l2, xI l3, xR l4, xI l5]) [] h (xEq (some r0) h) := by
  unfold f_Way_sumBy at hf
  refine J_cong (ls2 := [(0, xR l0), (1, xI l1), (2, xR l2), (3, xI l3), (4, xR l4), (5, xI l5)]) (st2 := []) rfl rfl ?_
  refine J_aload_n 0 dX10_sumBy_0 rfl rfl ?_
  refine J_getRl (j := 0) xcf10 dX10_sumBy_1 kl0 (Or.inl xq264) (by decide) (by decide) (rfWay_0 kl0) ?_
  refine J_iload_n 1 dX10_sumBy_4 rfl rfl ?_
  refine J_aload_n 2 dX10_sumBy_5 rfl rfl ?_
  refine J_iload_n 3 dX10_sumBy_6 rfl rfl ?_
  refine J_aload 4 dX10_sumBy_7 rfl ?_
  refine J_iload 5 dX10_sumBy_9 rfl ?_
  obtain ⟨r1, hq, hf⟩ := xc1_e hf
  refine J_cVi (Mc := mX6_priceAt) [xI l1, xR l2, xI l3, xR l4, xI l5] dX10_sumBy_11 (fc_Slips_priceAt.fit ⟨xbl rfl, xbl rfl⟩) rfl ⟨Or.inr ⟨_, xq663⟩, xq665, xq29⟩ kO9 (ci := 6) rfl rfl (xbl rfl) (xbl rfl) (jm_Slips_priceAt kl2 kl4 hq) ?_
  refine J_istore (ls' := [(6, xI r1), (0, xR l0), (1, xI l1), (2, xR l2), (3, xI l3), (4, xR l4), (5, xI l5)]) dX10_sumBy_14 (by decide) rfl rfl ?_
  refine J_iload_n 4 dX10_sumBy_16 rfl rfl ?_
  refine J_aload_n 1 dX10_sumBy_17 rfl rfl ?_
  refine J_getRl (j := 0) xcf10 dX10_sumBy_18 kl0 (Or.inl xq264) (by decide) (by decide) (rfWay_0 kl0) ?_
  refine J_iload_n 2 dX10_sumBy_21 rfl rfl ?_
  obtain ⟨r2, hq, hf⟩ := xc1_e hf
  refine J_cVi (Mc := mX6_meantTaken) [xI l1] dX10_sumBy_22 (fc_Slips_meantTaken.fit ⟨xbl rfl, xbl rfl⟩) rfl ⟨Or.inr ⟨_, xq679⟩, xq681, xq32⟩ kO9 (ci := 6) rfl rfl (xbl rfl) (xbl rfl) (jm_Slips_meantTaken  hq) ?_
  refine J_iadd dX10_sumBy_25 ?_
  refine J_bip dX10_sumBy_26 (by decide) ?_
  refine J_imul dX10_sumBy_28 ?_
  refine J_iload 6 dX10_sumBy_29 rfl ?_
  refine J_iadd dX10_sumBy_31 ?_
  refine J_aload_n 1 dX10_sumBy_32 rfl rfl ?_
  refine J_getRl (j := 0) xcf10 dX10_sumBy_33 kl0 (Or.inl xq264) (by decide) (by decide) (rfWay_0 kl0) ?_
  refine J_iload_n 2 dX10_sumBy_36 rfl rfl ?_
  obtain ⟨r3, hq, hf⟩ := xc1_e hf
  refine J_cVi (Mc := mX6_typedTaken) [xI l1] dX10_sumBy_37 (fc_Slips_typedTaken.fit ⟨xbl rfl, xbl rfl⟩) rfl ⟨Or.inr ⟨_, xq686⟩, xq688, xq33⟩ kO9 (ci := 6) rfl rfl (xbl rfl) (xbl rfl) (jm_Slips_typedTaken  hq) ?_
  refine J_iadd dX10_sumBy_40 ?_
  obtain ⟨x4, ex4, hf⟩ := xlet_e hf
  refine J_istore (ls' := [(7, xI x4), (6, xI r1), (0, xR l0), (1, xI l1), (2, xR l2), (3, xI l3), (4, xR l4), (5, xI l5)]) dX10_sumBy_41 (by decide) ex4 rfl ?_
  refine J_iload 1 dX10_sumBy_43 rfl ?_
  refine J_iconst dX10_sumBy_45 (by decide) ?_
  refine J_ic_eq (tgt := 64) dX10_sumBy_46 (by decide) (fun hc => ?_) (fun hc => ?_)
  · have hf := xip hc hf
    refine J_sub [] rfl ?_
    exact j_Way_sumBy_64  hf
  · have hf := xin' hc hf
    refine J_iload 0 dX10_sumBy_49 rfl ?_
    refine J_if_lt (tgt := 64) dX10_sumBy_51 (by decide) (fun hc => ?_) (fun hc => ?_)
    · have hf := xip hc hf
      refine J_sub [] rfl ?_
      exact j_Way_sumBy_64  hf
    · have hf := xin' hc hf
      refine J_iload 0 dX10_sumBy_54 rfl ?_
      refine J_aload_n 2 dX10_sumBy_56 rfl rfl ?_
      refine J_getRl (j := 1) xcf10 dX10_sumBy_57 kl0 (Or.inl xq265) (by decide) (by decide) (rfWay_1 kl0) ?_
      refine J_alen dX10_sumBy_60 (xK_r1 (kWay_1 kl0)) (Or.inl (kWay_1 kl0)) (by decide) (nWay_1 kl0) ?_
      refine J_ic_lt (tgt := 69) dX10_sumBy_61 (by decide) (fun hc => ?_) (fun hc => ?_)
      · have hf := xip hc hf
        refine J_iload 1 dX10_sumBy_69 rfl ?_
        refine J_aload_n 2 dX10_sumBy_71 rfl rfl ?_
        refine J_getRl (j := 1) xcf10 dX10_sumBy_72 kl0 (Or.inl xq265) (by decide) (by decide) (rfWay_1 kl0) ?_
        refine J_iload 0 dX10_sumBy_75 rfl ?_
        obtain ⟨hg, hf⟩ := xgd_e hf
        refine J_iald dX10_sumBy_77 (xK_r1 (kWay_1 kl0)) (kWay_1 kl0) hg (nWay_1 kl0) ?_
        refine J_iadd dX10_sumBy_78 ?_
        exact J_ireti dX10_sumBy_79 rfl (xq_p hf)
      · have hf := xin' hc hf
        refine J_sub [] rfl ?_
        exact j_Way_sumBy_64  hf
theorem dX10_leastFrom_0 : decode cX10_leastFrom 0 = .ok (.iload_n 2, 1) := by decide +kernel
theorem dX10_leastFrom_1 : decode cX10_leastFrom 1 = .ok (.aload_n 1, 1) := by decide +kernel
theorem dX10_leastFrom_2 : decode cX10_leastFrom 2 = .ok (.getfield 31, 3) := by decide +kernel
theorem dX10_leastFrom_5 : decode cX10_leastFrom 5 = .ok (.if_icmp .ne 14, 3) := by decide +kernel
theorem dX10_leastFrom_8 : decode cX10_leastFrom 8 = .ok (.iload 4, 2) := by decide +kernel
theorem dX10_leastFrom_10 : decode cX10_leastFrom 10 = .ok (.aload_n 3, 1) := by decide +kernel
theorem dX10_leastFrom_11 : decode cX10_leastFrom 11 = .ok (.getfield 31, 3) := by decide +kernel
theorem dX10_leastFrom_14 : decode cX10_leastFrom 14 = .ok (.if_icmp .ne 5, 3) := by decide +kernel
theorem dX10_leastFrom_17 : decode cX10_leastFrom 17 = .ok (.iconst 0, 1) := by decide +kernel
theorem dX10_leastFrom_18 : decode cX10_leastFrom 18 = .ok (.ireturn, 1) := by decide +kernel
theorem dX10_leastFrom_19 : decode cX10_leastFrom 19 = .ok (.ldc 41, 2) := by decide +kernel
theorem dX10_leastFrom_21 : decode cX10_leastFrom 21 = .ok (.istore 5, 2) := by decide +kernel
theorem dX10_leastFrom_23 : decode cX10_leastFrom 23 = .ok (.iconst 0, 1) := by decide +kernel
theorem dX10_leastFrom_24 : decode cX10_leastFrom 24 = .ok (.istore 6, 2) := by decide +kernel
theorem dX10_leastFrom_26 : decode cX10_leastFrom 26 = .ok (.iload 6, 2) := by decide +kernel
theorem dX10_leastFrom_28 : decode cX10_leastFrom 28 = .ok (.aload_n 0, 1) := by decide +kernel
theorem dX10_leastFrom_29 : decode cX10_leastFrom 29 = .ok (.getfield 27, 3) := by decide +kernel
theorem dX10_leastFrom_32 : decode cX10_leastFrom 32 = .ok (.invokevirtual 42, 3) := by decide +kernel
theorem dX10_leastFrom_35 : decode cX10_leastFrom 35 = .ok (.if_icmp .ge 27, 3) := by decide +kernel
theorem dX10_leastFrom_38 : decode cX10_leastFrom 38 = .ok (.iload 5, 2) := by decide +kernel
theorem dX10_leastFrom_40 : decode cX10_leastFrom 40 = .ok (.aload_n 0, 1) := by decide +kernel
theorem dX10_leastFrom_41 : decode cX10_leastFrom 41 = .ok (.iload 6, 2) := by decide +kernel
theorem dX10_leastFrom_43 : decode cX10_leastFrom 43 = .ok (.aload_n 1, 1) := by decide +kernel
theorem dX10_leastFrom_44 : decode cX10_leastFrom 44 = .ok (.iload_n 2, 1) := by decide +kernel
theorem dX10_leastFrom_45 : decode cX10_leastFrom 45 = .ok (.aload_n 3, 1) := by decide +kernel
theorem dX10_leastFrom_46 : decode cX10_leastFrom 46 = .ok (.iload 4, 2) := by decide +kernel
theorem dX10_leastFrom_48 : decode cX10_leastFrom 48 = .ok (.invokevirtual 47, 3) := by decide +kernel
theorem dX10_leastFrom_51 : decode cX10_leastFrom 51 = .ok (.invokestatic 51, 3) := by decide +kernel
theorem dX10_leastFrom_54 : decode cX10_leastFrom 54 = .ok (.istore 5, 2) := by decide +kernel
theorem dX10_leastFrom_56 : decode cX10_leastFrom 56 = .ok (.iinc 6 1, 3) := by decide +kernel
theorem dX10_leastFrom_59 : decode cX10_leastFrom 59 = .ok (.goto (-33), 3) := by decide +kernel
theorem dX10_leastFrom_62 : decode cX10_leastFrom 62 = .ok (.iload 5, 2) := by decide +kernel
theorem dX10_leastFrom_64 : decode cX10_leastFrom 64 = .ok (.ireturn, 1) := by decide +kernel
theorem j_Way_leastFrom_62 {l5 : Int} {h : xH} {r0 : Int}  (hf : f_Way_leastFrom_62 l5 h = some r0)  : J mX10_leastFrom true 0 0 62 xKn [(5, xI l5)] [] h (xEq (some r0) h) := by
  unfold f_Way_leastFrom_62 at hf
  refine J_iload 0 dX10_leastFrom_62 rfl ?_
  exact J_ireti dX10_leastFrom_64 rfl (xq_p hf)
theorem j_Way_leastFrom_s26 {l0 : Int} {l1 : Int} {l2 : Int} {l3 : Int} {l4 : Int} {l5 : Int} {l6 : Int} {h : xH} {x : ((Int × Int) ⊕ Int)} {Q : xQ} (kl0 : xK l0 = 3 + 10) (kl1 : xK l1 = 3 + 4) (kl3 : xK l3 = 3 + 4) (hf : f_Way_leastFrom_s26 l0 l1 l2 l3 l4 l5 l6 h = some x) (kb : ∀ (l5' : Int) (l6' : Int), x = Sum.inl (l5', l6') → J mX10_leastFrom true 0 0 26 xKn [(0, xR l0), (1, xR l1), (2, xI l2), (3, xR l3), (4, xI l4), (5, xI l5'), (6, xI l6')] [] h Q) (ke : ∀ (l5' : Int), x = (Sum.inr l5') → J mX10_leastFrom true 0 0 62 xKn [(5, xI l5')] [] h Q) : J mX10_leastFrom true 0 0 26 xKn [(0, xR l0), (1, xR l1), (2, xI l2), (3, xR l3), (4, xI l4), (5, xI l5), (6, xI l6)] [] h Q := by
  unfold f_Way_leastFrom_s26 at hf
  refine J_iload 6 dX10_leastFrom_26 rfl ?_
  refine J_aload_n 0 dX10_leastFrom_28 rfl rfl ?_
  refine J_getRl (j := 0) xcf10 dX10_leastFrom_29 kl0 (Or.inl xq264) (by decide) (by decide) (rfWay_0 kl0) ?_
  obtain ⟨r1, hq, hf⟩ := xc1_e hf
  refine J_cVi (Mc := mX6_codes) [] dX10_leastFrom_32 (fc_Slips_codes.fit ⟨xbl rfl, xbl rfl⟩) rfl ⟨Or.inr ⟨_, xq655⟩, xq657, xq27⟩ kO9 (ci := 6) rfl rfl (xbl rfl) (xbl rfl) (jm_Slips_codes  hq) ?_
  refine J_ic_ge (tgt := 62) dX10_leastFrom_35 (by decide) (fun hc => ?_) (fun hc => ?_)
  · have hf := xip hc hf
    refine J_iload 5 dX10_leastFrom_38 rfl ?_
    refine J_aload_n 0 dX10_leastFrom_40 rfl rfl ?_
    refine J_iload 6 dX10_leastFrom_41 rfl ?_
    refine J_aload_n 1 dX10_leastFrom_43 rfl rfl ?_
    refine J_iload_n 2 dX10_leastFrom_44 rfl rfl ?_
    refine J_aload_n 3 dX10_leastFrom_45 rfl rfl ?_
    refine J_iload 4 dX10_leastFrom_46 rfl ?_
    obtain ⟨r2, hq, hf⟩ := xc1_e hf
    refine J_cVi (Mc := mX10_sumBy) [xI l6, xR l1, xI l2, xR l3, xI l4] dX10_leastFrom_48 (fc_Way_sumBy.fit ⟨xbl rfl, xbl rfl⟩) rfl ⟨Or.inl xq659, xq661, xq28⟩ kl0 (ci := 10) rfl rfl (xbl rfl) (xbl rfl) (jm_Way_sumBy kl0 kl1 kl3 hq) ?_
    refine J_mmin dX10_leastFrom_51 ⟨xq692, xq542, xq129, xq543⟩ (xbl rfl) (xbl rfl) ?_
    obtain ⟨x3, ex3, hf⟩ := xlet_e hf
    refine J_istore (ls' := [(5, xI x3), (0, xR l0), (1, xR l1), (2, xI l2), (3, xR l3), (4, xI l4), (6, xI l6)]) dX10_leastFrom_54 (by decide) ex3 rfl ?_
    obtain ⟨x4, ex4, hf⟩ := xlet_e hf
    refine J_iinc (ls' := [(6, xI x4), (5, xI x3), (0, xR l0), (1, xR l1), (2, xI l2), (3, xR l3), (4, xI l4)]) 6 dX10_leastFrom_56 rfl (by decide) ex4 rfl ?_
    refine J_goto (tgt := 26) dX10_leastFrom_59 (by decide) ?_
    refine J_sub [2, 3, 4, 5, 6, 1, 0] rfl ?_
    exact kb _ _ (xinl hf)
  · have hf := xin' hc hf
    refine J_sub [5] rfl ?_
    exact ke _ (xinl hf)
theorem j_Way_leastFrom_26 {l0 : Int} {l1 : Int} {l2 : Int} {l3 : Int} {l4 : Int} {l5 : Int} {l6 : Int} {h : xH} {r0 : Int} (kl0 : xK l0 = 3 + 10) (kl1 : xK l1 = 3 + 4) (kl3 : xK l3 = 3 + 4) (hf : f_Way_leastFrom_26 l0 l1 l2 l3 l4 l5 l6 h = some r0)  : J mX10_leastFrom true 0 0 26 xKn [(0, xR l0), (1, xR l1), (2, xI l2), (3, xR l3), (4, xI l4), (5, xI l5), (6, xI l6)] [] h (xEq (some r0) h) := by
  unfold f_Way_leastFrom_26 at hf
  obtain ⟨b0, hb0, hf⟩ := xc1_e hf
  refine xloop_ind (P := fun s : (Int × Int) => J mX10_leastFrom true 0 0 26 xKn [(0, xR l0), (1, xR l1), (2, xI l2), (3, xR l3), (4, xI l4), (5, xI s.1), (6, xI s.2)] [] h (xEq (some r0) h)) hb0 (fun s x1 hs ib ie => ?_)
  exact j_Way_leastFrom_s26 kl0 kl1 kl3 hs (fun _ _ e => ib _ e) (fun _ e => by have := ie _ e; subst this; exact j_Way_leastFrom_62  hf)
theorem j_Way_leastFrom_19 {l0 : Int} {l1 : Int} {l2 : Int} {l3 : Int} {l4 : Int} {h : xH} {r0 : Int} (kl0 : xK l0 = 3 + 10) (kl1 : xK l1 = 3 + 4) (kl3 : xK l3 = 3 + 4) (hf : f_Way_leastFrom_19 l0 l1 l2 l3 l4 h = some r0)  : J mX10_leastFrom true 0 0 19 xKn [(0, xR l0), (1, xR l1), (2, xI l2), (3, xR l3), (4, xI l4)] [] h (xEq (some r0) h) := by
  unfold f_Way_leastFrom_19 at hf
  refine J_ldc (v := 1000000) dX10_leastFrom_19 xq654 (by decide) ?_
  refine J_istore (ls' := [(5, xI 1000000), (0, xR l0), (1, xR l1), (2, xI l2), (3, xR l3), (4, xI l4)]) dX10_leastFrom_21 (by decide) rfl rfl ?_
  refine J_iconst dX10_leastFrom_23 (by decide) ?_
  refine J_istore (ls' := [(6, xI 0), (5, xI 1000000), (0, xR l0), (1, xR l1), (2, xI l2), (3, xR l3), (4, xI l4)]) dX10_leastFrom_24 (by decide) rfl rfl ?_
  refine J_sub [2, 3, 4, 5, 6, 1, 0] rfl ?_
  exact j_Way_leastFrom_26 kl0 kl1 kl3 hf
theorem jm_Way_leastFrom {l0 : Int} {l1 : Int} {l2 : Int} {l3 : Int} {l4 : Int} {h : xH} {r0 : Int} (kl0 : xK l0 = 3 + 10) (kl1 : xK l1 = 3 + 4) (kl3 : xK l3 = 3 + 4) (hf : f_Way_leastFrom l0 l1 l2 l3 l4 h = some r0) : J mX10_leastFrom true 0 0 0 xKn (xen 0 [xR l0, xR l1, xI l2, xR l3, xI l4]) [] h (xEq (some r0) h) := by
  unfold f_Way_leastFrom at hf
  refine J_cong (ls2 := [(0, xR l0), (1, xR l1), (2, xI l2), (3, xR l3), (4, xI l4)]) (st2 := []) rfl rfl ?_
  refine J_iload_n 2 dX10_leastFrom_0 rfl rfl ?_
  refine J_aload_n 1 dX10_leastFrom_1 rfl rfl ?_
  refine J_getI (j := 1) xcf4 dX10_leastFrom_2 (xK_rg kl1) kl1 (Or.inr ⟨_, xq247⟩) (by decide) (by decide) ?_
  refine J_ic_ne (tgt := 19) dX10_leastFrom_5 (by decide) (fun hc => ?_) (fun hc => ?_)
  · have hf := xip hc hf
    refine J_iload 4 dX10_leastFrom_8 rfl ?_
    refine J_aload_n 3 dX10_leastFrom_10 rfl rfl ?_
    refine J_getI (j := 1) xcf4 dX10_leastFrom_11 (xK_rg kl3) kl3 (Or.inr ⟨_, xq247⟩) (by decide) (by decide) ?_
    refine J_ic_ne (tgt := 19) dX10_leastFrom_14 (by decide) (fun hc => ?_) (fun hc => ?_)
    · have hf := xip hc hf
      refine J_iconst dX10_leastFrom_17 (by decide) ?_
      exact J_ireti dX10_leastFrom_18 rfl (xq_p hf)
    · have hf := xin' hc hf
      exact j_Way_leastFrom_19 kl0 kl1 kl3 hf
  · have hf := xin' hc hf
    exact j_Way_leastFrom_19 kl0 kl1 kl3 hf
