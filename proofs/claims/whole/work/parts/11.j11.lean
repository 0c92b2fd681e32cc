/-! the machine follows the functions -/
theorem dX12_partAt_0 : decode cX12_partAt 0 = .ok (.aload_n 0, 1) := by decide +kernel
theorem dX12_partAt_1 : decode cX12_partAt 1 = .ok (.iload_n 2, 1) := by decide +kernel
theorem dX12_partAt_2 : decode cX12_partAt 2 = .ok (.invokevirtual 382, 3) := by decide +kernel
theorem dX12_partAt_5 : decode cX12_partAt 5 = .ok (.iconst (-1), 1) := by decide +kernel
theorem dX12_partAt_6 : decode cX12_partAt 6 = .ok (.if_icmp .eq 7, 3) := by decide +kernel
theorem dX12_partAt_9 : decode cX12_partAt 9 = .ok (.iconst 1, 1) := by decide +kernel
theorem dX12_partAt_10 : decode cX12_partAt 10 = .ok (.goto 4, 3) := by decide +kernel
theorem dX12_partAt_13 : decode cX12_partAt 13 = .ok (.iconst 0, 1) := by decide +kernel
theorem dX12_partAt_14 : decode cX12_partAt 14 = .ok (.istore 4, 2) := by decide +kernel
theorem dX12_partAt_16 : decode cX12_partAt 16 = .ok (.iload_n 1, 1) := by decide +kernel
theorem dX12_partAt_17 : decode cX12_partAt 17 = .ok (.tableswitch 143 0 3 #[31, 44, 72, 118], 31) := by decide +kernel
theorem dX12_partAt_48 : decode cX12_partAt 48 = .ok (.iload 4, 2) := by decide +kernel
theorem dX12_partAt_50 : decode cX12_partAt 50 = .ok (.ifCond .eq 7, 3) := by decide +kernel
theorem dX12_partAt_53 : decode cX12_partAt 53 = .ok (.iconst 0, 1) := by decide +kernel
theorem dX12_partAt_54 : decode cX12_partAt 54 = .ok (.goto 6, 3) := by decide +kernel
theorem dX12_partAt_57 : decode cX12_partAt 57 = .ok (.ldc_w 302, 3) := by decide +kernel
theorem dX12_partAt_60 : decode cX12_partAt 60 = .ok (.ireturn, 1) := by decide +kernel
theorem dX12_partAt_61 : decode cX12_partAt 61 = .ok (.iload 4, 2) := by decide +kernel
theorem dX12_partAt_63 : decode cX12_partAt 63 = .ok (.ifCond .ne 22, 3) := by decide +kernel
theorem dX12_partAt_66 : decode cX12_partAt 66 = .ok (.aload_n 0, 1) := by decide +kernel
theorem dX12_partAt_67 : decode cX12_partAt 67 = .ok (.getfield 197, 3) := by decide +kernel
theorem dX12_partAt_70 : decode cX12_partAt 70 = .ok (.iload_n 2, 1) := by decide +kernel
theorem dX12_partAt_71 : decode cX12_partAt 71 = .ok (.iaload, 1) := by decide +kernel
theorem dX12_partAt_72 : decode cX12_partAt 72 = .ok (.iconst (-1), 1) := by decide +kernel
theorem dX12_partAt_73 : decode cX12_partAt 73 = .ok (.if_icmp .eq 12, 3) := by decide +kernel
theorem dX12_partAt_76 : decode cX12_partAt 76 = .ok (.aload_n 0, 1) := by decide +kernel
theorem dX12_partAt_77 : decode cX12_partAt 77 = .ok (.getfield 200, 3) := by decide +kernel
theorem dX12_partAt_80 : decode cX12_partAt 80 = .ok (.iload_n 2, 1) := by decide +kernel
theorem dX12_partAt_81 : decode cX12_partAt 81 = .ok (.iaload, 1) := by decide +kernel
theorem dX12_partAt_82 : decode cX12_partAt 82 = .ok (.goto 6, 3) := by decide +kernel
theorem dX12_partAt_85 : decode cX12_partAt 85 = .ok (.ldc_w 302, 3) := by decide +kernel
theorem dX12_partAt_88 : decode cX12_partAt 88 = .ok (.ireturn, 1) := by decide +kernel
theorem dX12_partAt_89 : decode cX12_partAt 89 = .ok (.iload_n 2, 1) := by decide +kernel
theorem dX12_partAt_90 : decode cX12_partAt 90 = .ok (.iconst 1, 1) := by decide +kernel
theorem dX12_partAt_91 : decode cX12_partAt 91 = .ok (.iadd, 1) := by decide +kernel
theorem dX12_partAt_92 : decode cX12_partAt 92 = .ok (.aload_n 0, 1) := by decide +kernel
theorem dX12_partAt_93 : decode cX12_partAt 93 = .ok (.getfield 222, 3) := by decide +kernel
theorem dX12_partAt_96 : decode cX12_partAt 96 = .ok (.if_icmp .ge 35, 3) := by decide +kernel
theorem dX12_partAt_99 : decode cX12_partAt 99 = .ok (.iload 4, 2) := by decide +kernel
theorem dX12_partAt_101 : decode cX12_partAt 101 = .ok (.ifCond .eq 14, 3) := by decide +kernel
theorem dX12_partAt_104 : decode cX12_partAt 104 = .ok (.aload_n 0, 1) := by decide +kernel
theorem dX12_partAt_105 : decode cX12_partAt 105 = .ok (.iload_n 2, 1) := by decide +kernel
theorem dX12_partAt_106 : decode cX12_partAt 106 = .ok (.iconst 1, 1) := by decide +kernel
theorem dX12_partAt_107 : decode cX12_partAt 107 = .ok (.iadd, 1) := by decide +kernel
theorem dX12_partAt_108 : decode cX12_partAt 108 = .ok (.invokevirtual 382, 3) := by decide +kernel
theorem dX12_partAt_111 : decode cX12_partAt 111 = .ok (.iconst (-1), 1) := by decide +kernel
theorem dX12_partAt_112 : decode cX12_partAt 112 = .ok (.if_icmp .ne 19, 3) := by decide +kernel
theorem dX12_partAt_115 : decode cX12_partAt 115 = .ok (.aload_n 0, 1) := by decide +kernel
theorem dX12_partAt_116 : decode cX12_partAt 116 = .ok (.iload_n 2, 1) := by decide +kernel
theorem dX12_partAt_117 : decode cX12_partAt 117 = .ok (.invokevirtual 385, 3) := by decide +kernel
theorem dX12_partAt_120 : decode cX12_partAt 120 = .ok (.iconst (-1), 1) := by decide +kernel
theorem dX12_partAt_121 : decode cX12_partAt 121 = .ok (.if_icmp .eq 10, 3) := by decide +kernel
theorem dX12_partAt_124 : decode cX12_partAt 124 = .ok (.aload_n 0, 1) := by decide +kernel
theorem dX12_partAt_125 : decode cX12_partAt 125 = .ok (.getfield 40, 3) := by decide +kernel
theorem dX12_partAt_128 : decode cX12_partAt 128 = .ok (.goto 6, 3) := by decide +kernel
theorem dX12_partAt_131 : decode cX12_partAt 131 = .ok (.ldc_w 302, 3) := by decide +kernel
theorem dX12_partAt_134 : decode cX12_partAt 134 = .ok (.ireturn, 1) := by decide +kernel
theorem dX12_partAt_135 : decode cX12_partAt 135 = .ok (.iload 4, 2) := by decide +kernel
theorem dX12_partAt_137 : decode cX12_partAt 137 = .ok (.ifCond .ne 19, 3) := by decide +kernel
theorem dX12_partAt_140 : decode cX12_partAt 140 = .ok (.aload_n 0, 1) := by decide +kernel
theorem dX12_partAt_141 : decode cX12_partAt 141 = .ok (.iload_n 2, 1) := by decide +kernel
theorem dX12_partAt_142 : decode cX12_partAt 142 = .ok (.invokevirtual 388, 3) := by decide +kernel
theorem dX12_partAt_145 : decode cX12_partAt 145 = .ok (.iconst (-1), 1) := by decide +kernel
theorem dX12_partAt_146 : decode cX12_partAt 146 = .ok (.if_icmp .eq 10, 3) := by decide +kernel
theorem dX12_partAt_149 : decode cX12_partAt 149 = .ok (.aload_n 0, 1) := by decide +kernel
theorem dX12_partAt_150 : decode cX12_partAt 150 = .ok (.getfield 44, 3) := by decide +kernel
theorem dX12_partAt_153 : decode cX12_partAt 153 = .ok (.goto 6, 3) := by decide +kernel
theorem dX12_partAt_156 : decode cX12_partAt 156 = .ok (.ldc_w 302, 3) := by decide +kernel
theorem dX12_partAt_159 : decode cX12_partAt 159 = .ok (.ireturn, 1) := by decide +kernel
theorem dX12_partAt_160 : decode cX12_partAt 160 = .ok (.iload 4, 2) := by decide +kernel
theorem dX12_partAt_162 : decode cX12_partAt 162 = .ok (.ifCond .eq 9, 3) := by decide +kernel
theorem dX12_partAt_165 : decode cX12_partAt 165 = .ok (.ldc_w 302, 3) := by decide +kernel
theorem dX12_partAt_168 : decode cX12_partAt 168 = .ok (.goto 6, 3) := by decide +kernel
theorem dX12_partAt_171 : decode cX12_partAt 171 = .ok (.iload_n 3, 1) := by decide +kernel
theorem dX12_partAt_172 : decode cX12_partAt 172 = .ok (.iconst 1, 1) := by decide +kernel
theorem dX12_partAt_173 : decode cX12_partAt 173 = .ok (.iadd, 1) := by decide +kernel
theorem dX12_partAt_174 : decode cX12_partAt 174 = .ok (.ireturn, 1) := by decide +kernel
theorem j_Md_partAt_115 {l2 : Int} {h : xH} {r0 : Int} {h0 : xH}  (hf : f_Md_partAt_115 l2 h = some (r0, h0))  : J mX12_partAt true 0 0 115 xKn [(0, xR 81), (2, xI l2)] [] h (xEq (some r0) h0) := by
  unfold f_Md_partAt_115 at hf
  refine J_aload_n 0 dX12_partAt_115 rfl rfl ?_
  refine J_iload_n 1 dX12_partAt_116 rfl rfl ?_
  obtain ⟨r1, h2, hq, hf⟩ := xc2_e hf
  refine J_cVi (Mc := mX12_together) [xI l2] dX12_partAt_117 (fc_Md_together.fit ⟨xbl rfl, xbl rfl⟩) rfl ⟨Or.inl xq1498, xq1500, xq120⟩ kO81 (ci := 12) rfl rfl (xbl rfl) (xbl rfl) (jm_Md_together  hq) ?_
  refine J_iconst dX12_partAt_120 (by decide) ?_
  refine J_ic_eq (tgt := 131) dX12_partAt_121 (by decide) (fun hc => ?_) (fun hc => ?_)
  · have hf := xip hc hf
    refine J_ldcw (v := 1000000) dX12_partAt_131 xq1370 (by decide) ?_
    exact J_ireti dX12_partAt_134 rfl (xq_i hf)
  · have hf := xin' hc hf
    refine J_aload_n 0 dX12_partAt_124 rfl rfl ?_
    refine J_getI (j := 13) xcf12 dX12_partAt_125 (xK_rg kO81) kO81 (Or.inl xq1033) (by decide) (by decide) ?_
    refine J_goto (tgt := 134) dX12_partAt_128 (by decide) ?_
    exact J_ireti dX12_partAt_134 rfl (xq_i hf)
theorem j_Md_partAt_14 {l1 : Int} {l2 : Int} {l3 : Int} {s0 : Int} {h : xH} {r0 : Int} {h0 : xH}  (hf : f_Md_partAt_14 l1 l2 l3 s0 h = some (r0, h0))  : J mX12_partAt true 0 0 14 xKn [(0, xR 81), (1, xI l1), (2, xI l2), (3, xI l3)] [xI s0] h (xEq (some r0) h0) := by
  unfold f_Md_partAt_14 at hf
  refine J_istore (ls' := [(4, xI s0), (0, xR 81), (1, xI l1), (2, xI l2), (3, xI l3)]) dX12_partAt_14 (by decide) rfl rfl ?_
  refine J_iload_n 2 dX12_partAt_16 rfl rfl ?_
  refine J_by (c := l1 = 0) (fun hc0 => ?_) (fun hc0 => ?_)
  · have hf := xip hc0 hf
    refine J_tswIn (tgt := 48) dX12_partAt_17 0 hc0 (by decide) (by decide) rfl (by decide) ?_
    refine J_iload 0 dX12_partAt_48 rfl ?_
    refine J_if_eq (tgt := 57) dX12_partAt_50 (by decide) (fun hc => ?_) (fun hc => ?_)
    · have hf := xip hc hf
      refine J_ldcw (v := 1000000) dX12_partAt_57 xq1370 (by decide) ?_
      exact J_ireti dX12_partAt_60 rfl (xq_i hf)
    · have hf := xin' hc hf
      refine J_iconst dX12_partAt_53 (by decide) ?_
      refine J_goto (tgt := 60) dX12_partAt_54 (by decide) ?_
      exact J_ireti dX12_partAt_60 rfl (xq_i hf)
  · have hf := xin' hc0 hf
    refine J_by (c := l1 = 1) (fun hc1 => ?_) (fun hc1 => ?_)
    · have hf := xip hc1 hf
      refine J_tswIn (tgt := 61) dX12_partAt_17 1 hc1 (by decide) (by decide) rfl (by decide) ?_
      refine J_iload 0 dX12_partAt_61 rfl ?_
      refine J_if_ne (tgt := 85) dX12_partAt_63 (by decide) (fun hc => ?_) (fun hc => ?_)
      · have hf := xip hc hf
        refine J_aload_n 1 dX12_partAt_66 rfl rfl ?_
        refine J_getRl (j := 77) xcf12 dX12_partAt_67 kO81 (Or.inl xq1097) (by decide) (by decide) rf_81_77 ?_
        refine J_iload_n 3 dX12_partAt_70 rfl rfl ?_
        obtain ⟨hg, hf⟩ := xgd_e hf
        refine J_iald dX12_partAt_71 (xK_r1 kO140) kO140 hg nA140 ?_
        refine J_iconst dX12_partAt_72 (by decide) ?_
        refine J_ic_eq (tgt := 85) dX12_partAt_73 (by decide) (fun hc => ?_) (fun hc => ?_)
        · have hf := xip hc hf
          refine J_ldcw (v := 1000000) dX12_partAt_85 xq1370 (by decide) ?_
          exact J_ireti dX12_partAt_88 rfl (xq_i hf)
        · have hf := xin' hc hf
          refine J_aload_n 1 dX12_partAt_76 rfl rfl ?_
          refine J_getRl (j := 78) xcf12 dX12_partAt_77 kO81 (Or.inl xq1098) (by decide) (by decide) rf_81_78 ?_
          refine J_iload_n 3 dX12_partAt_80 rfl rfl ?_
          obtain ⟨hg, hf⟩ := xgd_e hf
          refine J_iald dX12_partAt_81 (xK_r1 kO141) kO141 hg nA141 ?_
          refine J_goto (tgt := 88) dX12_partAt_82 (by decide) ?_
          exact J_ireti dX12_partAt_88 rfl (xq_i hf)
      · have hf := xin' hc hf
        refine J_ldcw (v := 1000000) dX12_partAt_85 xq1370 (by decide) ?_
        exact J_ireti dX12_partAt_88 rfl (xq_i hf)
    · have hf := xin' hc1 hf
      refine J_by (c := l1 = 2) (fun hc2 => ?_) (fun hc2 => ?_)
      · have hf := xip hc2 hf
        refine J_tswIn (tgt := 89) dX12_partAt_17 2 hc2 (by decide) (by decide) rfl (by decide) ?_
        refine J_iload_n 3 dX12_partAt_89 rfl rfl ?_
        refine J_iconst dX12_partAt_90 (by decide) ?_
        refine J_iadd dX12_partAt_91 ?_
        refine J_aload_n 1 dX12_partAt_92 rfl rfl ?_
        refine J_getI (j := 2) xcf12 dX12_partAt_93 (xK_rg kO81) kO81 (Or.inl xq1022) (by decide) (by decide) ?_
        refine J_ic_ge (tgt := 131) dX12_partAt_96 (by decide) (fun hc => ?_) (fun hc => ?_)
        · have hf := xip hc hf
          refine J_iload 0 dX12_partAt_99 rfl ?_
          refine J_if_eq (tgt := 115) dX12_partAt_101 (by decide) (fun hc => ?_) (fun hc => ?_)
          · have hf := xip hc hf
            refine J_sub [1, 3] rfl ?_
            exact j_Md_partAt_115  hf
          · have hf := xin' hc hf
            refine J_aload_n 1 dX12_partAt_104 rfl rfl ?_
            refine J_iload_n 3 dX12_partAt_105 rfl rfl ?_
            refine J_iconst dX12_partAt_106 (by decide) ?_
            refine J_iadd dX12_partAt_107 ?_
            obtain ⟨r1, hq, hf⟩ := xc1_e hf
            refine J_cVi (Mc := mX12_isWord) [xI (w32 (l2 + 1))] dX12_partAt_108 (fc_Md_isWord.fit ⟨xbl rfl, xbl rfl⟩) rfl ⟨Or.inl xq1489, xq1491, xq118⟩ kO81 (ci := 12) rfl rfl (xbl rfl) (xbl rfl) (jm_Md_isWord  hq) ?_
            refine J_iconst dX12_partAt_111 (by decide) ?_
            refine J_ic_ne (tgt := 131) dX12_partAt_112 (by decide) (fun hc => ?_) (fun hc => ?_)
            · have hf := xip hc hf
              refine J_sub [1, 3] rfl ?_
              exact j_Md_partAt_115  hf
            · have hf := xin' hc hf
              refine J_ldcw (v := 1000000) dX12_partAt_131 xq1370 (by decide) ?_
              exact J_ireti dX12_partAt_134 rfl (xq_i hf)
        · have hf := xin' hc hf
          refine J_ldcw (v := 1000000) dX12_partAt_131 xq1370 (by decide) ?_
          exact J_ireti dX12_partAt_134 rfl (xq_i hf)
      · have hf := xin' hc2 hf
        refine J_by (c := l1 = 3) (fun hc3 => ?_) (fun hc3 => ?_)
        · have hf := xip hc3 hf
          refine J_tswIn (tgt := 135) dX12_partAt_17 3 hc3 (by decide) (by decide) rfl (by decide) ?_
          refine J_iload 0 dX12_partAt_135 rfl ?_
          refine J_if_ne (tgt := 156) dX12_partAt_137 (by decide) (fun hc => ?_) (fun hc => ?_)
          · have hf := xip hc hf
            refine J_aload_n 1 dX12_partAt_140 rfl rfl ?_
            refine J_iload_n 3 dX12_partAt_141 rfl rfl ?_
            obtain ⟨r2, hq, hf⟩ := xc1_e hf
            refine J_cVi (Mc := mX12_parting) [xI l2] dX12_partAt_142 (fc_Md_parting.fit ⟨xbl rfl, xbl rfl⟩) rfl ⟨Or.inl xq1502, xq1504, xq121⟩ kO81 (ci := 12) rfl rfl (xbl rfl) (xbl rfl) (jm_Md_parting  hq) ?_
            refine J_iconst dX12_partAt_145 (by decide) ?_
            refine J_ic_eq (tgt := 156) dX12_partAt_146 (by decide) (fun hc => ?_) (fun hc => ?_)
            · have hf := xip hc hf
              refine J_ldcw (v := 1000000) dX12_partAt_156 xq1370 (by decide) ?_
              exact J_ireti dX12_partAt_159 rfl (xq_i hf)
            · have hf := xin' hc hf
              refine J_aload_n 1 dX12_partAt_149 rfl rfl ?_
              refine J_getI (j := 14) xcf12 dX12_partAt_150 (xK_rg kO81) kO81 (Or.inl xq1034) (by decide) (by decide) ?_
              refine J_goto (tgt := 159) dX12_partAt_153 (by decide) ?_
              exact J_ireti dX12_partAt_159 rfl (xq_i hf)
          · have hf := xin' hc hf
            refine J_ldcw (v := 1000000) dX12_partAt_156 xq1370 (by decide) ?_
            exact J_ireti dX12_partAt_159 rfl (xq_i hf)
        · have hf := xin' hc3 hf
          refine J_tswOut (tgt := 160) dX12_partAt_17 (by omega) (by decide) ?_
          refine J_iload 0 dX12_partAt_160 rfl ?_
          refine J_if_eq (tgt := 171) dX12_partAt_162 (by decide) (fun hc => ?_) (fun hc => ?_)
          · have hf := xip hc hf
            refine J_iload_n 4 dX12_partAt_171 rfl rfl ?_
            refine J_iconst dX12_partAt_172 (by decide) ?_
            refine J_iadd dX12_partAt_173 ?_
            exact J_ireti dX12_partAt_174 rfl (xq_i hf)
          · have hf := xin' hc hf
            refine J_ldcw (v := 1000000) dX12_partAt_165 xq1370 (by decide) ?_
            refine J_goto (tgt := 174) dX12_partAt_168 (by decide) ?_
            exact J_ireti dX12_partAt_174 rfl (xq_i hf)
theorem jm_Md_partAt {l1 : Int} {l2 : Int} {l3 : Int} {h : xH} {r0 : Int} {h0 : xH}  (hf : f_Md_partAt l1 l2 l3 h = some (r0, h0)) : J mX12_partAt true 0 0 0 xKn (xen 0 [xR 81, xI l1, xI l2, xI l3]) [] h (xEq (some r0) h0) := by
  unfold f_Md_partAt at hf
  refine J_cong (ls2 := [(0, xR 81), (1, xI l1), (2, xI l2), (3, xI l3)]) (st2 := []) rfl rfl ?_
  refine J_aload_n 0 dX12_partAt_0 rfl rfl ?_
  refine J_iload_n 2 dX12_partAt_1 rfl rfl ?_
  obtain ⟨r1, hq, hf⟩ := xc1_e hf
  refine J_cVi (Mc := mX12_isWord) [xI l2] dX12_partAt_2 (fc_Md_isWord.fit ⟨xbl rfl, xbl rfl⟩) rfl ⟨Or.inl xq1489, xq1491, xq118⟩ kO81 (ci := 12) rfl rfl (xbl rfl) (xbl rfl) (jm_Md_isWord  hq) ?_
  refine J_iconst dX12_partAt_5 (by decide) ?_
  refine J_ic_eq (tgt := 13) dX12_partAt_6 (by decide) (fun hc => ?_) (fun hc => ?_)
  · have hf := xip hc hf
    refine J_iconst dX12_partAt_13 (by decide) ?_
    exact j_Md_partAt_14  hf
  · have hf := xin' hc hf
    refine J_iconst dX12_partAt_9 (by decide) ?_
    refine J_goto (tgt := 14) dX12_partAt_10 (by decide) ?_
    exact j_Md_partAt_14  hf
theorem dX12_mend_0 : decode cX12_mend 0 = .ok (.aload_n 0, 1) := by decide +kernel
theorem dX12_mend_1 : decode cX12_mend 1 = .ok (.bipush 32, 2) := by decide +kernel
theorem dX12_mend_3 : decode cX12_mend 3 = .ok (.bipush 12, 2) := by decide +kernel
theorem dX12_mend_5 : decode cX12_mend 5 = .ok (.bipush 12, 2) := by decide +kernel
theorem dX12_mend_7 : decode cX12_mend 7 = .ok (.invokevirtual 225, 3) := by decide +kernel
theorem dX12_mend_10 : decode cX12_mend 10 = .ok (.istore_n 2, 1) := by decide +kernel
theorem dX12_mend_11 : decode cX12_mend 11 = .ok (.iload_n 2, 1) := by decide +kernel
theorem dX12_mend_12 : decode cX12_mend 12 = .ok (.ifCond .eq 14, 3) := by decide +kernel
theorem dX12_mend_15 : decode cX12_mend 15 = .ok (.iload_n 1, 1) := by decide +kernel
theorem dX12_mend_16 : decode cX12_mend 16 = .ok (.iconst 0, 1) := by decide +kernel
theorem dX12_mend_17 : decode cX12_mend 17 = .ok (.ldc_w 367, 3) := by decide +kernel
theorem dX12_mend_20 : decode cX12_mend 20 = .ok (.invokestatic 215, 3) := by decide +kernel
theorem dX12_mend_23 : decode cX12_mend 23 = .ok (.ifCond .ne 6, 3) := by decide +kernel
theorem dX12_mend_26 : decode cX12_mend 26 = .ok (.bipush (-2), 2) := by decide +kernel
theorem dX12_mend_28 : decode cX12_mend 28 = .ok (.ireturn, 1) := by decide +kernel
theorem dX12_mend_29 : decode cX12_mend 29 = .ok (.iconst 0, 1) := by decide +kernel
theorem dX12_mend_30 : decode cX12_mend 30 = .ok (.istore_n 3, 1) := by decide +kernel
theorem dX12_mend_31 : decode cX12_mend 31 = .ok (.iload_n 3, 1) := by decide +kernel
theorem dX12_mend_32 : decode cX12_mend 32 = .ok (.aload_n 0, 1) := by decide +kernel
theorem dX12_mend_33 : decode cX12_mend 33 = .ok (.getfield 222, 3) := by decide +kernel
theorem dX12_mend_36 : decode cX12_mend 36 = .ok (.if_icmp .ge 70, 3) := by decide +kernel
theorem dX12_mend_39 : decode cX12_mend 39 = .ok (.aload_n 0, 1) := by decide +kernel
theorem dX12_mend_40 : decode cX12_mend 40 = .ok (.getfield 197, 3) := by decide +kernel
theorem dX12_mend_43 : decode cX12_mend 43 = .ok (.iload_n 3, 1) := by decide +kernel
theorem dX12_mend_44 : decode cX12_mend 44 = .ok (.iconst (-1), 1) := by decide +kernel
theorem dX12_mend_45 : decode cX12_mend 45 = .ok (.iastore, 1) := by decide +kernel
theorem dX12_mend_46 : decode cX12_mend 46 = .ok (.aload_n 0, 1) := by decide +kernel
theorem dX12_mend_47 : decode cX12_mend 47 = .ok (.iload_n 3, 1) := by decide +kernel
theorem dX12_mend_48 : decode cX12_mend 48 = .ok (.invokevirtual 382, 3) := by decide +kernel
theorem dX12_mend_51 : decode cX12_mend 51 = .ok (.iconst (-1), 1) := by decide +kernel
theorem dX12_mend_52 : decode cX12_mend 52 = .ok (.if_icmp .eq 6, 3) := by decide +kernel
theorem dX12_mend_55 : decode cX12_mend 55 = .ok (.goto 45, 3) := by decide +kernel
theorem dX12_mend_58 : decode cX12_mend 58 = .ok (.aload_n 0, 1) := by decide +kernel
theorem dX12_mend_59 : decode cX12_mend 59 = .ok (.iload_n 3, 1) := by decide +kernel
theorem dX12_mend_60 : decode cX12_mend 60 = .ok (.invokevirtual 326, 3) := by decide +kernel
theorem dX12_mend_63 : decode cX12_mend 63 = .ok (.aload_n 0, 1) := by decide +kernel
theorem dX12_mend_64 : decode cX12_mend 64 = .ok (.iload_n 1, 1) := by decide +kernel
theorem dX12_mend_65 : decode cX12_mend 65 = .ok (.iconst 0, 1) := by decide +kernel
theorem dX12_mend_66 : decode cX12_mend 66 = .ok (.invokevirtual 371, 3) := by decide +kernel
theorem dX12_mend_69 : decode cX12_mend 69 = .ok (.aload_n 0, 1) := by decide +kernel
theorem dX12_mend_70 : decode cX12_mend 70 = .ok (.getfield 351, 3) := by decide +kernel
theorem dX12_mend_73 : decode cX12_mend 73 = .ok (.ifCond .le 27, 3) := by decide +kernel
theorem dX12_mend_76 : decode cX12_mend 76 = .ok (.aload_n 0, 1) := by decide +kernel
theorem dX12_mend_77 : decode cX12_mend 77 = .ok (.getfield 197, 3) := by decide +kernel
theorem dX12_mend_80 : decode cX12_mend 80 = .ok (.iload_n 3, 1) := by decide +kernel
theorem dX12_mend_81 : decode cX12_mend 81 = .ok (.aload_n 0, 1) := by decide +kernel
theorem dX12_mend_82 : decode cX12_mend 82 = .ok (.getfield 146, 3) := by decide +kernel
theorem dX12_mend_85 : decode cX12_mend 85 = .ok (.iconst 0, 1) := by decide +kernel
theorem dX12_mend_86 : decode cX12_mend 86 = .ok (.iaload, 1) := by decide +kernel
theorem dX12_mend_87 : decode cX12_mend 87 = .ok (.iastore, 1) := by decide +kernel
theorem dX12_mend_88 : decode cX12_mend 88 = .ok (.aload_n 0, 1) := by decide +kernel
theorem dX12_mend_89 : decode cX12_mend 89 = .ok (.getfield 200, 3) := by decide +kernel
theorem dX12_mend_92 : decode cX12_mend 92 = .ok (.iload_n 3, 1) := by decide +kernel
theorem dX12_mend_93 : decode cX12_mend 93 = .ok (.aload_n 0, 1) := by decide +kernel
theorem dX12_mend_94 : decode cX12_mend 94 = .ok (.getfield 149, 3) := by decide +kernel
theorem dX12_mend_97 : decode cX12_mend 97 = .ok (.iconst 0, 1) := by decide +kernel
theorem dX12_mend_98 : decode cX12_mend 98 = .ok (.iaload, 1) := by decide +kernel
theorem dX12_mend_99 : decode cX12_mend 99 = .ok (.iastore, 1) := by decide +kernel
theorem dX12_mend_100 : decode cX12_mend 100 = .ok (.iinc 3 1, 3) := by decide +kernel
theorem dX12_mend_103 : decode cX12_mend 103 = .ok (.goto (-72), 3) := by decide +kernel
theorem dX12_mend_106 : decode cX12_mend 106 = .ok (.aload_n 0, 1) := by decide +kernel
theorem dX12_mend_107 : decode cX12_mend 107 = .ok (.getfield 194, 3) := by decide +kernel
theorem dX12_mend_110 : decode cX12_mend 110 = .ok (.aload_n 0, 1) := by decide +kernel
theorem dX12_mend_111 : decode cX12_mend 111 = .ok (.getfield 222, 3) := by decide +kernel
theorem dX12_mend_114 : decode cX12_mend 114 = .ok (.iconst 0, 1) := by decide +kernel
theorem dX12_mend_115 : decode cX12_mend 115 = .ok (.iastore, 1) := by decide +kernel
theorem dX12_mend_116 : decode cX12_mend 116 = .ok (.aload_n 0, 1) := by decide +kernel
theorem dX12_mend_117 : decode cX12_mend 117 = .ok (.getfield 222, 3) := by decide +kernel
theorem dX12_mend_120 : decode cX12_mend 120 = .ok (.iconst 1, 1) := by decide +kernel
theorem dX12_mend_121 : decode cX12_mend 121 = .ok (.isub, 1) := by decide +kernel
theorem dX12_mend_122 : decode cX12_mend 122 = .ok (.istore_n 3, 1) := by decide +kernel
theorem dX12_mend_123 : decode cX12_mend 123 = .ok (.iload_n 3, 1) := by decide +kernel
theorem dX12_mend_124 : decode cX12_mend 124 = .ok (.ifCond .lt 87, 3) := by decide +kernel
theorem dX12_mend_127 : decode cX12_mend 127 = .ok (.aload_n 0, 1) := by decide +kernel
theorem dX12_mend_128 : decode cX12_mend 128 = .ok (.getfield 194, 3) := by decide +kernel
theorem dX12_mend_131 : decode cX12_mend 131 = .ok (.iload_n 3, 1) := by decide +kernel
theorem dX12_mend_132 : decode cX12_mend 132 = .ok (.ldc_w 391, 3) := by decide +kernel
theorem dX12_mend_135 : decode cX12_mend 135 = .ok (.iastore, 1) := by decide +kernel
theorem dX12_mend_136 : decode cX12_mend 136 = .ok (.iconst 0, 1) := by decide +kernel
theorem dX12_mend_137 : decode cX12_mend 137 = .ok (.istore 4, 2) := by decide +kernel
theorem dX12_mend_139 : decode cX12_mend 139 = .ok (.iload 4, 2) := by decide +kernel
theorem dX12_mend_141 : decode cX12_mend 141 = .ok (.iconst 5, 1) := by decide +kernel
theorem dX12_mend_142 : decode cX12_mend 142 = .ok (.if_icmp .ge 63, 3) := by decide +kernel
theorem dX12_mend_145 : decode cX12_mend 145 = .ok (.aload_n 0, 1) := by decide +kernel
theorem dX12_mend_146 : decode cX12_mend 146 = .ok (.iload 4, 2) := by decide +kernel
theorem dX12_mend_148 : decode cX12_mend 148 = .ok (.iload_n 3, 1) := by decide +kernel
theorem dX12_mend_149 : decode cX12_mend 149 = .ok (.iload_n 1, 1) := by decide +kernel
theorem dX12_mend_150 : decode cX12_mend 150 = .ok (.invokevirtual 392, 3) := by decide +kernel
theorem dX12_mend_153 : decode cX12_mend 153 = .ok (.istore 5, 2) := by decide +kernel
theorem dX12_mend_155 : decode cX12_mend 155 = .ok (.iload 5, 2) := by decide +kernel
theorem dX12_mend_157 : decode cX12_mend 157 = .ok (.ldc_w 302, 3) := by decide +kernel
theorem dX12_mend_160 : decode cX12_mend 160 = .ok (.if_icmp .ge 39, 3) := by decide +kernel
theorem dX12_mend_163 : decode cX12_mend 163 = .ok (.aload_n 0, 1) := by decide +kernel
theorem dX12_mend_164 : decode cX12_mend 164 = .ok (.getfield 194, 3) := by decide +kernel
theorem dX12_mend_167 : decode cX12_mend 167 = .ok (.iload_n 3, 1) := by decide +kernel
theorem dX12_mend_168 : decode cX12_mend 168 = .ok (.aload_n 0, 1) := by decide +kernel
theorem dX12_mend_169 : decode cX12_mend 169 = .ok (.getfield 194, 3) := by decide +kernel
theorem dX12_mend_172 : decode cX12_mend 172 = .ok (.iload_n 3, 1) := by decide +kernel
theorem dX12_mend_173 : decode cX12_mend 173 = .ok (.iaload, 1) := by decide +kernel
theorem dX12_mend_174 : decode cX12_mend 174 = .ok (.iload 5, 2) := by decide +kernel
theorem dX12_mend_176 : decode cX12_mend 176 = .ok (.aload_n 0, 1) := by decide +kernel
theorem dX12_mend_177 : decode cX12_mend 177 = .ok (.getfield 194, 3) := by decide +kernel
theorem dX12_mend_180 : decode cX12_mend 180 = .ok (.iload_n 3, 1) := by decide +kernel
theorem dX12_mend_181 : decode cX12_mend 181 = .ok (.iload 4, 2) := by decide +kernel
theorem dX12_mend_183 : decode cX12_mend 183 = .ok (.iconst 2, 1) := by decide +kernel
theorem dX12_mend_184 : decode cX12_mend 184 = .ok (.if_icmp .ne 7, 3) := by decide +kernel
theorem dX12_mend_187 : decode cX12_mend 187 = .ok (.iconst 2, 1) := by decide +kernel
theorem dX12_mend_188 : decode cX12_mend 188 = .ok (.goto 4, 3) := by decide +kernel
theorem dX12_mend_191 : decode cX12_mend 191 = .ok (.iconst 1, 1) := by decide +kernel
theorem dX12_mend_192 : decode cX12_mend 192 = .ok (.iadd, 1) := by decide +kernel
theorem dX12_mend_193 : decode cX12_mend 193 = .ok (.iaload, 1) := by decide +kernel
theorem dX12_mend_194 : decode cX12_mend 194 = .ok (.iadd, 1) := by decide +kernel
theorem dX12_mend_195 : decode cX12_mend 195 = .ok (.invokestatic 250, 3) := by decide +kernel
theorem dX12_mend_198 : decode cX12_mend 198 = .ok (.iastore, 1) := by decide +kernel
theorem dX12_mend_199 : decode cX12_mend 199 = .ok (.iinc 4 1, 3) := by decide +kernel
theorem dX12_mend_202 : decode cX12_mend 202 = .ok (.goto (-63), 3) := by decide +kernel
theorem dX12_mend_205 : decode cX12_mend 205 = .ok (.iinc 3 (-1), 3) := by decide +kernel
theorem dX12_mend_208 : decode cX12_mend 208 = .ok (.goto (-85), 3) := by decide +kernel
theorem dX12_mend_211 : decode cX12_mend 211 = .ok (.aload_n 0, 1) := by decide +kernel
theorem dX12_mend_212 : decode cX12_mend 212 = .ok (.iconst 0, 1) := by decide +kernel
theorem dX12_mend_213 : decode cX12_mend 213 = .ok (.putfield 176, 3) := by decide +kernel
theorem dX12_mend_216 : decode cX12_mend 216 = .ok (.aload_n 0, 1) := by decide +kernel
theorem dX12_mend_217 : decode cX12_mend 217 = .ok (.aload_n 0, 1) := by decide +kernel
theorem dX12_mend_218 : decode cX12_mend 218 = .ok (.getfield 194, 3) := by decide +kernel
theorem dX12_mend_221 : decode cX12_mend 221 = .ok (.iconst 0, 1) := by decide +kernel
theorem dX12_mend_222 : decode cX12_mend 222 = .ok (.iaload, 1) := by decide +kernel
theorem dX12_mend_223 : decode cX12_mend 223 = .ok (.putfield 396, 3) := by decide +kernel
theorem dX12_mend_226 : decode cX12_mend 226 = .ok (.iconst 0, 1) := by decide +kernel
theorem dX12_mend_227 : decode cX12_mend 227 = .ok (.istore_n 3, 1) := by decide +kernel
theorem dX12_mend_228 : decode cX12_mend 228 = .ok (.iload_n 3, 1) := by decide +kernel
theorem dX12_mend_229 : decode cX12_mend 229 = .ok (.aload_n 0, 1) := by decide +kernel
theorem dX12_mend_230 : decode cX12_mend 230 = .ok (.getfield 222, 3) := by decide +kernel
theorem dX12_mend_233 : decode cX12_mend 233 = .ok (.if_icmp .ge 277, 3) := by decide +kernel
theorem dX12_mend_236 : decode cX12_mend 236 = .ok (.iconst 0, 1) := by decide +kernel
theorem dX12_mend_237 : decode cX12_mend 237 = .ok (.istore 4, 2) := by decide +kernel
theorem dX12_mend_239 : decode cX12_mend 239 = .ok (.aload_n 0, 1) := by decide +kernel
theorem dX12_mend_240 : decode cX12_mend 240 = .ok (.iconst 0, 1) := by decide +kernel
theorem dX12_mend_241 : decode cX12_mend 241 = .ok (.iload_n 3, 1) := by decide +kernel
theorem dX12_mend_242 : decode cX12_mend 242 = .ok (.iload_n 1, 1) := by decide +kernel
theorem dX12_mend_243 : decode cX12_mend 243 = .ok (.invokevirtual 392, 3) := by decide +kernel
theorem dX12_mend_246 : decode cX12_mend 246 = .ok (.istore 5, 2) := by decide +kernel
theorem dX12_mend_248 : decode cX12_mend 248 = .ok (.iload 5, 2) := by decide +kernel
theorem dX12_mend_250 : decode cX12_mend 250 = .ok (.ldc_w 302, 3) := by decide +kernel
theorem dX12_mend_253 : decode cX12_mend 253 = .ok (.if_icmp .ge 33, 3) := by decide +kernel
theorem dX12_mend_256 : decode cX12_mend 256 = .ok (.iload 5, 2) := by decide +kernel
theorem dX12_mend_258 : decode cX12_mend 258 = .ok (.aload_n 0, 1) := by decide +kernel
theorem dX12_mend_259 : decode cX12_mend 259 = .ok (.getfield 194, 3) := by decide +kernel
theorem dX12_mend_262 : decode cX12_mend 262 = .ok (.iload_n 3, 1) := by decide +kernel
theorem dX12_mend_263 : decode cX12_mend 263 = .ok (.iload 4, 2) := by decide +kernel
theorem dX12_mend_265 : decode cX12_mend 265 = .ok (.iconst 2, 1) := by decide +kernel
theorem dX12_mend_266 : decode cX12_mend 266 = .ok (.if_icmp .ne 7, 3) := by decide +kernel
theorem dX12_mend_269 : decode cX12_mend 269 = .ok (.iconst 2, 1) := by decide +kernel
theorem dX12_mend_270 : decode cX12_mend 270 = .ok (.goto 4, 3) := by decide +kernel
theorem dX12_mend_273 : decode cX12_mend 273 = .ok (.iconst 1, 1) := by decide +kernel
theorem dX12_mend_274 : decode cX12_mend 274 = .ok (.iadd, 1) := by decide +kernel
theorem dX12_mend_275 : decode cX12_mend 275 = .ok (.iaload, 1) := by decide +kernel
theorem dX12_mend_276 : decode cX12_mend 276 = .ok (.iadd, 1) := by decide +kernel
theorem dX12_mend_277 : decode cX12_mend 277 = .ok (.aload_n 0, 1) := by decide +kernel
theorem dX12_mend_278 : decode cX12_mend 278 = .ok (.getfield 194, 3) := by decide +kernel
theorem dX12_mend_281 : decode cX12_mend 281 = .ok (.iload_n 3, 1) := by decide +kernel
theorem dX12_mend_282 : decode cX12_mend 282 = .ok (.iaload, 1) := by decide +kernel
theorem dX12_mend_283 : decode cX12_mend 283 = .ok (.if_icmp .eq 19, 3) := by decide +kernel
theorem dX12_mend_286 : decode cX12_mend 286 = .ok (.iinc 4 1, 3) := by decide +kernel
theorem dX12_mend_289 : decode cX12_mend 289 = .ok (.aload_n 0, 1) := by decide +kernel
theorem dX12_mend_290 : decode cX12_mend 290 = .ok (.iload 4, 2) := by decide +kernel
theorem dX12_mend_292 : decode cX12_mend 292 = .ok (.iload_n 3, 1) := by decide +kernel
theorem dX12_mend_293 : decode cX12_mend 293 = .ok (.iload_n 1, 1) := by decide +kernel
theorem dX12_mend_294 : decode cX12_mend 294 = .ok (.invokevirtual 392, 3) := by decide +kernel
theorem dX12_mend_297 : decode cX12_mend 297 = .ok (.istore 5, 2) := by decide +kernel
theorem dX12_mend_299 : decode cX12_mend 299 = .ok (.goto (-51), 3) := by decide +kernel
theorem dX12_mend_302 : decode cX12_mend 302 = .ok (.aload_n 0, 1) := by decide +kernel
theorem dX12_mend_303 : decode cX12_mend 303 = .ok (.getfield 179, 3) := by decide +kernel
theorem dX12_mend_306 : decode cX12_mend 306 = .ok (.aload_n 0, 1) := by decide +kernel
theorem dX12_mend_307 : decode cX12_mend 307 = .ok (.getfield 176, 3) := by decide +kernel
theorem dX12_mend_310 : decode cX12_mend 310 = .ok (.iload 4, 2) := by decide +kernel
theorem dX12_mend_312 : decode cX12_mend 312 = .ok (.iastore, 1) := by decide +kernel
theorem dX12_mend_313 : decode cX12_mend 313 = .ok (.aload_n 0, 1) := by decide +kernel
theorem dX12_mend_314 : decode cX12_mend 314 = .ok (.getfield 182, 3) := by decide +kernel
theorem dX12_mend_317 : decode cX12_mend 317 = .ok (.aload_n 0, 1) := by decide +kernel
theorem dX12_mend_318 : decode cX12_mend 318 = .ok (.getfield 176, 3) := by decide +kernel
theorem dX12_mend_321 : decode cX12_mend 321 = .ok (.iload 5, 2) := by decide +kernel
theorem dX12_mend_323 : decode cX12_mend 323 = .ok (.iastore, 1) := by decide +kernel
theorem dX12_mend_324 : decode cX12_mend 324 = .ok (.aload_n 0, 1) := by decide +kernel
theorem dX12_mend_325 : decode cX12_mend 325 = .ok (.getfield 188, 3) := by decide +kernel
theorem dX12_mend_328 : decode cX12_mend 328 = .ok (.aload_n 0, 1) := by decide +kernel
theorem dX12_mend_329 : decode cX12_mend 329 = .ok (.getfield 176, 3) := by decide +kernel
theorem dX12_mend_332 : decode cX12_mend 332 = .ok (.iconst (-1), 1) := by decide +kernel
theorem dX12_mend_333 : decode cX12_mend 333 = .ok (.iastore, 1) := by decide +kernel
theorem dX12_mend_334 : decode cX12_mend 334 = .ok (.aload_n 0, 1) := by decide +kernel
theorem dX12_mend_335 : decode cX12_mend 335 = .ok (.getfield 191, 3) := by decide +kernel
theorem dX12_mend_338 : decode cX12_mend 338 = .ok (.aload_n 0, 1) := by decide +kernel
theorem dX12_mend_339 : decode cX12_mend 339 = .ok (.getfield 176, 3) := by decide +kernel
theorem dX12_mend_342 : decode cX12_mend 342 = .ok (.iload 4, 2) := by decide +kernel
theorem dX12_mend_344 : decode cX12_mend 344 = .ok (.iconst 2, 1) := by decide +kernel
theorem dX12_mend_345 : decode cX12_mend 345 = .ok (.if_icmp .ne 7, 3) := by decide +kernel
theorem dX12_mend_348 : decode cX12_mend 348 = .ok (.iconst 2, 1) := by decide +kernel
theorem dX12_mend_349 : decode cX12_mend 349 = .ok (.goto 4, 3) := by decide +kernel
theorem dX12_mend_352 : decode cX12_mend 352 = .ok (.iconst 1, 1) := by decide +kernel
theorem dX12_mend_353 : decode cX12_mend 353 = .ok (.iastore, 1) := by decide +kernel
theorem dX12_mend_354 : decode cX12_mend 354 = .ok (.iload 4, 2) := by decide +kernel
theorem dX12_mend_356 : decode cX12_mend 356 = .ok (.iconst 3, 1) := by decide +kernel
theorem dX12_mend_357 : decode cX12_mend 357 = .ok (.if_icmp .ne 11, 3) := by decide +kernel
theorem dX12_mend_360 : decode cX12_mend 360 = .ok (.aload_n 0, 1) := by decide +kernel
theorem dX12_mend_361 : decode cX12_mend 361 = .ok (.iload_n 3, 1) := by decide +kernel
theorem dX12_mend_362 : decode cX12_mend 362 = .ok (.invokevirtual 388, 3) := by decide +kernel
theorem dX12_mend_365 : decode cX12_mend 365 = .ok (.goto 4, 3) := by decide +kernel
theorem dX12_mend_368 : decode cX12_mend 368 = .ok (.iconst 0, 1) := by decide +kernel
theorem dX12_mend_369 : decode cX12_mend 369 = .ok (.istore 6, 2) := by decide +kernel
theorem dX12_mend_371 : decode cX12_mend 371 = .ok (.aload_n 0, 1) := by decide +kernel
theorem dX12_mend_372 : decode cX12_mend 372 = .ok (.getfield 185, 3) := by decide +kernel
theorem dX12_mend_375 : decode cX12_mend 375 = .ok (.aload_n 0, 1) := by decide +kernel
theorem dX12_mend_376 : decode cX12_mend 376 = .ok (.getfield 176, 3) := by decide +kernel
theorem dX12_mend_379 : decode cX12_mend 379 = .ok (.iload 4, 2) := by decide +kernel
theorem dX12_mend_381 : decode cX12_mend 381 = .ok (.ifCond .ne 11, 3) := by decide +kernel
theorem dX12_mend_384 : decode cX12_mend 384 = .ok (.aload_n 0, 1) := by decide +kernel
theorem dX12_mend_385 : decode cX12_mend 385 = .ok (.iload_n 3, 1) := by decide +kernel
theorem dX12_mend_386 : decode cX12_mend 386 = .ok (.invokevirtual 382, 3) := by decide +kernel
theorem dX12_mend_389 : decode cX12_mend 389 = .ok (.goto 56, 3) := by decide +kernel
theorem dX12_mend_392 : decode cX12_mend 392 = .ok (.iload 4, 2) := by decide +kernel
theorem dX12_mend_394 : decode cX12_mend 394 = .ok (.iconst 1, 1) := by decide +kernel
theorem dX12_mend_395 : decode cX12_mend 395 = .ok (.if_icmp .ne 12, 3) := by decide +kernel
theorem dX12_mend_398 : decode cX12_mend 398 = .ok (.aload_n 0, 1) := by decide +kernel
theorem dX12_mend_399 : decode cX12_mend 399 = .ok (.getfield 197, 3) := by decide +kernel
theorem dX12_mend_402 : decode cX12_mend 402 = .ok (.iload_n 3, 1) := by decide +kernel
theorem dX12_mend_403 : decode cX12_mend 403 = .ok (.iaload, 1) := by decide +kernel
theorem dX12_mend_404 : decode cX12_mend 404 = .ok (.goto 41, 3) := by decide +kernel
theorem dX12_mend_407 : decode cX12_mend 407 = .ok (.iload 4, 2) := by decide +kernel
theorem dX12_mend_409 : decode cX12_mend 409 = .ok (.iconst 2, 1) := by decide +kernel
theorem dX12_mend_410 : decode cX12_mend 410 = .ok (.if_icmp .ne 11, 3) := by decide +kernel
theorem dX12_mend_413 : decode cX12_mend 413 = .ok (.aload_n 0, 1) := by decide +kernel
theorem dX12_mend_414 : decode cX12_mend 414 = .ok (.iload_n 3, 1) := by decide +kernel
theorem dX12_mend_415 : decode cX12_mend 415 = .ok (.invokevirtual 385, 3) := by decide +kernel
theorem dX12_mend_418 : decode cX12_mend 418 = .ok (.goto 27, 3) := by decide +kernel
theorem dX12_mend_421 : decode cX12_mend 421 = .ok (.iload 4, 2) := by decide +kernel
theorem dX12_mend_423 : decode cX12_mend 423 = .ok (.iconst 3, 1) := by decide +kernel
theorem dX12_mend_424 : decode cX12_mend 424 = .ok (.if_icmp .ne 20, 3) := by decide +kernel
theorem dX12_mend_427 : decode cX12_mend 427 = .ok (.aload_n 0, 1) := by decide +kernel
theorem dX12_mend_428 : decode cX12_mend 428 = .ok (.iload 6, 2) := by decide +kernel
theorem dX12_mend_430 : decode cX12_mend 430 = .ok (.aload_n 0, 1) := by decide +kernel
theorem dX12_mend_431 : decode cX12_mend 431 = .ok (.getfield 16, 3) := by decide +kernel
theorem dX12_mend_434 : decode cX12_mend 434 = .ok (.bipush 12, 2) := by decide +kernel
theorem dX12_mend_436 : decode cX12_mend 436 = .ok (.iload_n 3, 1) := by decide +kernel
theorem dX12_mend_437 : decode cX12_mend 437 = .ok (.imul, 1) := by decide +kernel
theorem dX12_mend_438 : decode cX12_mend 438 = .ok (.invokevirtual 246, 3) := by decide +kernel
theorem dX12_mend_441 : decode cX12_mend 441 = .ok (.goto 4, 3) := by decide +kernel
theorem dX12_mend_444 : decode cX12_mend 444 = .ok (.iconst (-1), 1) := by decide +kernel
theorem dX12_mend_445 : decode cX12_mend 445 = .ok (.iastore, 1) := by decide +kernel
theorem dX12_mend_446 : decode cX12_mend 446 = .ok (.iload 4, 2) := by decide +kernel
theorem dX12_mend_448 : decode cX12_mend 448 = .ok (.iconst 3, 1) := by decide +kernel
theorem dX12_mend_449 : decode cX12_mend 449 = .ok (.if_icmp .ne 36, 3) := by decide +kernel
theorem dX12_mend_452 : decode cX12_mend 452 = .ok (.aload_n 0, 1) := by decide +kernel
theorem dX12_mend_453 : decode cX12_mend 453 = .ok (.getfield 188, 3) := by decide +kernel
theorem dX12_mend_456 : decode cX12_mend 456 = .ok (.aload_n 0, 1) := by decide +kernel
theorem dX12_mend_457 : decode cX12_mend 457 = .ok (.getfield 176, 3) := by decide +kernel
theorem dX12_mend_460 : decode cX12_mend 460 = .ok (.aload_n 0, 1) := by decide +kernel
theorem dX12_mend_461 : decode cX12_mend 461 = .ok (.aload_n 0, 1) := by decide +kernel
theorem dX12_mend_462 : decode cX12_mend 462 = .ok (.getfield 13, 3) := by decide +kernel
theorem dX12_mend_465 : decode cX12_mend 465 = .ok (.iload_n 3, 1) := by decide +kernel
theorem dX12_mend_466 : decode cX12_mend 466 = .ok (.iaload, 1) := by decide +kernel
theorem dX12_mend_467 : decode cX12_mend 467 = .ok (.iload 6, 2) := by decide +kernel
theorem dX12_mend_469 : decode cX12_mend 469 = .ok (.isub, 1) := by decide +kernel
theorem dX12_mend_470 : decode cX12_mend 470 = .ok (.aload_n 0, 1) := by decide +kernel
theorem dX12_mend_471 : decode cX12_mend 471 = .ok (.getfield 16, 3) := by decide +kernel
theorem dX12_mend_474 : decode cX12_mend 474 = .ok (.bipush 12, 2) := by decide +kernel
theorem dX12_mend_476 : decode cX12_mend 476 = .ok (.iload_n 3, 1) := by decide +kernel
theorem dX12_mend_477 : decode cX12_mend 477 = .ok (.imul, 1) := by decide +kernel
theorem dX12_mend_478 : decode cX12_mend 478 = .ok (.iload 6, 2) := by decide +kernel
theorem dX12_mend_480 : decode cX12_mend 480 = .ok (.iadd, 1) := by decide +kernel
theorem dX12_mend_481 : decode cX12_mend 481 = .ok (.invokevirtual 246, 3) := by decide +kernel
theorem dX12_mend_484 : decode cX12_mend 484 = .ok (.iastore, 1) := by decide +kernel
theorem dX12_mend_485 : decode cX12_mend 485 = .ok (.iload_n 3, 1) := by decide +kernel
theorem dX12_mend_486 : decode cX12_mend 486 = .ok (.aload_n 0, 1) := by decide +kernel
theorem dX12_mend_487 : decode cX12_mend 487 = .ok (.getfield 191, 3) := by decide +kernel
theorem dX12_mend_490 : decode cX12_mend 490 = .ok (.aload_n 0, 1) := by decide +kernel
theorem dX12_mend_491 : decode cX12_mend 491 = .ok (.getfield 176, 3) := by decide +kernel
theorem dX12_mend_494 : decode cX12_mend 494 = .ok (.iaload, 1) := by decide +kernel
theorem dX12_mend_495 : decode cX12_mend 495 = .ok (.iadd, 1) := by decide +kernel
theorem dX12_mend_496 : decode cX12_mend 496 = .ok (.istore_n 3, 1) := by decide +kernel
theorem dX12_mend_497 : decode cX12_mend 497 = .ok (.aload_n 0, 1) := by decide +kernel
theorem dX12_mend_498 : decode cX12_mend 498 = .ok (.dup, 1) := by decide +kernel
theorem dX12_mend_499 : decode cX12_mend 499 = .ok (.getfield 176, 3) := by decide +kernel
theorem dX12_mend_502 : decode cX12_mend 502 = .ok (.iconst 1, 1) := by decide +kernel
theorem dX12_mend_503 : decode cX12_mend 503 = .ok (.iadd, 1) := by decide +kernel
theorem dX12_mend_504 : decode cX12_mend 504 = .ok (.putfield 176, 3) := by decide +kernel
theorem dX12_mend_507 : decode cX12_mend 507 = .ok (.goto (-279), 3) := by decide +kernel
theorem dX12_mend_510 : decode cX12_mend 510 = .ok (.aload_n 0, 1) := by decide +kernel
theorem dX12_mend_511 : decode cX12_mend 511 = .ok (.getfield 176, 3) := by decide +kernel
theorem dX12_mend_514 : decode cX12_mend 514 = .ok (.ireturn, 1) := by decide +kernel
theorem j_Md_mend_510  {h : xH} {r0 : Int} {h0 : xH}  (hf : f_Md_mend_510 h = some (r0, h0))  : J mX12_mend true 0 0 510 xKn [(0, xR 81)] [] h (xEq (some r0) h0) := by
  unfold f_Md_mend_510 at hf
  refine J_aload_n 0 dX12_mend_510 rfl rfl ?_
  refine J_getI (j := 69) xcf12 dX12_mend_511 (xK_rg kO81) kO81 (Or.inl xq1089) (by decide) (by decide) ?_
  exact J_ireti dX12_mend_514 rfl (xq_i hf)
theorem j_Md_mend_485 {l1 : Int} {l3 : Int} {h : xH} {x : ((Int × xH) ⊕ xH)} {Q : xQ}  (hf : f_Md_mend_485 l1 l3 h = some x) (kb : ∀ (l3' : Int) (h' : xH), x = Sum.inl (l3', h') → J mX12_mend true 0 0 228 xKn [(0, xR 81), (1, xI l1), (3, xI l3')] [] h' Q) (ke : ∀  (h' : xH), x = (Sum.inr h') → J mX12_mend true 0 0 510 xKn [(0, xR 81)] [] h' Q) : J mX12_mend true 0 0 485 xKn [(0, xR 81), (1, xI l1), (3, xI l3)] [] h Q := by
  unfold f_Md_mend_485 at hf
  refine J_iload_n 2 dX12_mend_485 rfl rfl ?_
  refine J_aload_n 0 dX12_mend_486 rfl rfl ?_
  refine J_getRl (j := 75) xcf12 dX12_mend_487 kO81 (Or.inl xq1095) (by decide) (by decide) rf_81_75 ?_
  refine J_aload_n 0 dX12_mend_490 rfl rfl ?_
  refine J_getI (j := 69) xcf12 dX12_mend_491 (xK_rg kO81) kO81 (Or.inl xq1089) (by decide) (by decide) ?_
  obtain ⟨hg, hf⟩ := xgd_e hf
  refine J_iald dX12_mend_494 (xK_r1 kO138) kO138 hg nA138 ?_
  refine J_iadd dX12_mend_495 ?_
  obtain ⟨x1, ex1, hf⟩ := xlet_e hf
  refine J_istore_n (ls' := [(3, xI x1), (0, xR 81), (1, xI l1)]) dX12_mend_496 rfl (by decide) ex1 rfl ?_
  refine J_aload_n 1 dX12_mend_497 rfl rfl ?_
  refine J_dup dX12_mend_498 rfl ?_
  refine J_getI (j := 69) xcf12 dX12_mend_499 (xK_rg kO81) kO81 (Or.inl xq1089) (by decide) (by decide) ?_
  refine J_iconst dX12_mend_502 (by decide) ?_
  refine J_iadd dX12_mend_503 ?_
  obtain ⟨h2, eh2, hf⟩ := xlet_e hf
  refine J_putI (j := 69) xcf12 dX12_mend_504 (xK_rg kO81) kO81 (Or.inl xq1089) (by decide) (by decide) eh2 ?_
  refine J_goto (tgt := 228) dX12_mend_507 (by decide) ?_
  refine J_sub [1, 2, 0] rfl ?_
  exact kb _ _ (xinl hf)
theorem j_Md_mend_445 {l1 : Int} {l3 : Int} {l4 : Int} {l6 : Int} {s1 : Int} {s2 : Int} {h : xH} {x : ((Int × xH) ⊕ xH)} {Q : xQ}  (hf : f_Md_mend_445 l1 l3 l4 l6 s1 s2 h = some x) (kb : ∀ (l3' : Int) (h' : xH), x = Sum.inl (l3', h') → J mX12_mend true 0 0 228 xKn [(0, xR 81), (1, xI l1), (3, xI l3')] [] h' Q) (ke : ∀  (h' : xH), x = (Sum.inr h') → J mX12_mend true 0 0 510 xKn [(0, xR 81)] [] h' Q) : J mX12_mend true 0 0 445 xKn [(0, xR 81), (1, xI l1), (3, xI l3), (4, xI l4), (6, xI l6)] [xI s2, xI s1, xR 136] h Q := by
  unfold f_Md_mend_445 at hf
  obtain ⟨hg, hf⟩ := xgd_e hf
  obtain ⟨h1, eh1, hf⟩ := xlet_e hf
  refine J_iast dX12_mend_445 (xK_r1 kO136) kO136 hg nA136 eh1 ?_
  refine J_iload 3 dX12_mend_446 rfl ?_
  refine J_iconst dX12_mend_448 (by decide) ?_
  refine J_ic_ne (tgt := 485) dX12_mend_449 (by decide) (fun hc => ?_) (fun hc => ?_)
  · have hf := xip hc hf
    refine J_aload_n 0 dX12_mend_452 rfl rfl ?_
    refine J_getRl (j := 74) xcf12 dX12_mend_453 kO81 (Or.inl xq1094) (by decide) (by decide) rf_81_74 ?_
    refine J_aload_n 0 dX12_mend_456 rfl rfl ?_
    refine J_getI (j := 69) xcf12 dX12_mend_457 (xK_rg kO81) kO81 (Or.inl xq1089) (by decide) (by decide) ?_
    refine J_aload_n 0 dX12_mend_460 rfl rfl ?_
    refine J_aload_n 0 dX12_mend_461 rfl rfl ?_
    refine J_getRl (j := 3) xcf12 dX12_mend_462 kO81 (Or.inl xq1023) (by decide) (by decide) rf_81_3 ?_
    refine J_iload_n 2 dX12_mend_465 rfl rfl ?_
    obtain ⟨hg, hf⟩ := xgd_e hf
    refine J_iald dX12_mend_466 (xK_r1 kO83) kO83 hg nA83 ?_
    refine J_iload 4 dX12_mend_467 rfl ?_
    refine J_isub dX12_mend_469 ?_
    refine J_aload_n 0 dX12_mend_470 rfl rfl ?_
    refine J_getRl (j := 4) xcf12 dX12_mend_471 kO81 (Or.inl xq1024) (by decide) (by decide) rf_81_4 ?_
    refine J_bip dX12_mend_474 (by decide) ?_
    refine J_iload_n 2 dX12_mend_476 rfl rfl ?_
    refine J_imul dX12_mend_477 ?_
    refine J_iload 4 dX12_mend_478 rfl ?_
    refine J_iadd dX12_mend_480 ?_
    obtain ⟨r2, hq, hf⟩ := xc1_e hf
    refine J_cVi (Mc := mX12_wordOf) [xI (w32 ((h1 83 l3) - l6)), xR 84, xI (w32 ((w32 (12 * l3)) + l6))] dX12_mend_481 (fc_Md_wordOf.fit ⟨xbl rfl, xbl rfl⟩) rfl ⟨Or.inl xq1299, xq1301, xq91⟩ kO81 (ci := 12) rfl rfl (xbl rfl) (xbl rfl) (jm_Md_wordOf kO84 hq) ?_
    obtain ⟨hg, hf⟩ := xgd_e hf
    obtain ⟨h3, eh3, hf⟩ := xlet_e hf
    refine J_iast dX12_mend_484 (xK_r1 kO137) kO137 hg nA137 eh3 ?_
    refine J_sub [0, 1, 2] rfl ?_
    exact j_Md_mend_485  hf kb ke
  · have hf := xin' hc hf
    refine J_sub [0, 1, 2] rfl ?_
    exact j_Md_mend_485  hf kb ke
theorem j_Md_mend_369 {l1 : Int} {l3 : Int} {l4 : Int} {s0 : Int} {h : xH} {x : ((Int × xH) ⊕ xH)} {Q : xQ}  (hf : f_Md_mend_369 l1 l3 l4 s0 h = some x) (kb : ∀ (l3' : Int) (h' : xH), x = Sum.inl (l3', h') → J mX12_mend true 0 0 228 xKn [(0, xR 81), (1, xI l1), (3, xI l3')] [] h' Q) (ke : ∀  (h' : xH), x = (Sum.inr h') → J mX12_mend true 0 0 510 xKn [(0, xR 81)] [] h' Q) : J mX12_mend true 0 0 369 xKn [(0, xR 81), (1, xI l1), (3, xI l3), (4, xI l4)] [xI s0] h Q := by
  unfold f_Md_mend_369 at hf
  refine J_istore (ls' := [(6, xI s0), (0, xR 81), (1, xI l1), (3, xI l3), (4, xI l4)]) dX12_mend_369 (by decide) rfl rfl ?_
  refine J_aload_n 1 dX12_mend_371 rfl rfl ?_
  refine J_getRl (j := 73) xcf12 dX12_mend_372 kO81 (Or.inl xq1093) (by decide) (by decide) rf_81_73 ?_
  refine J_aload_n 1 dX12_mend_375 rfl rfl ?_
  refine J_getI (j := 69) xcf12 dX12_mend_376 (xK_rg kO81) kO81 (Or.inl xq1089) (by decide) (by decide) ?_
  refine J_iload 4 dX12_mend_379 rfl ?_
  refine J_if_ne (tgt := 392) dX12_mend_381 (by decide) (fun hc => ?_) (fun hc => ?_)
  · have hf := xip hc hf
    refine J_aload_n 1 dX12_mend_384 rfl rfl ?_
    refine J_iload_n 3 dX12_mend_385 rfl rfl ?_
    obtain ⟨r1, hq, hf⟩ := xc1_e hf
    refine J_cVi (Mc := mX12_isWord) [xI l3] dX12_mend_386 (fc_Md_isWord.fit ⟨xbl rfl, xbl rfl⟩) rfl ⟨Or.inl xq1489, xq1491, xq118⟩ kO81 (ci := 12) rfl rfl (xbl rfl) (xbl rfl) (jm_Md_isWord  hq) ?_
    refine J_goto (tgt := 445) dX12_mend_389 (by decide) ?_
    refine J_sub [1, 2, 3, 4, 0] rfl ?_
    exact j_Md_mend_445  hf kb ke
  · have hf := xin' hc hf
    refine J_iload 4 dX12_mend_392 rfl ?_
    refine J_iconst dX12_mend_394 (by decide) ?_
    refine J_ic_ne (tgt := 407) dX12_mend_395 (by decide) (fun hc => ?_) (fun hc => ?_)
    · have hf := xip hc hf
      refine J_aload_n 1 dX12_mend_398 rfl rfl ?_
      refine J_getRl (j := 77) xcf12 dX12_mend_399 kO81 (Or.inl xq1097) (by decide) (by decide) rf_81_77 ?_
      refine J_iload_n 3 dX12_mend_402 rfl rfl ?_
      obtain ⟨hg, hf⟩ := xgd_e hf
      refine J_iald dX12_mend_403 (xK_r1 kO140) kO140 hg nA140 ?_
      refine J_goto (tgt := 445) dX12_mend_404 (by decide) ?_
      refine J_sub [1, 2, 3, 4, 0] rfl ?_
      exact j_Md_mend_445  hf kb ke
    · have hf := xin' hc hf
      refine J_iload 4 dX12_mend_407 rfl ?_
      refine J_iconst dX12_mend_409 (by decide) ?_
      refine J_ic_ne (tgt := 421) dX12_mend_410 (by decide) (fun hc => ?_) (fun hc => ?_)
      · have hf := xip hc hf
        refine J_aload_n 1 dX12_mend_413 rfl rfl ?_
        refine J_iload_n 3 dX12_mend_414 rfl rfl ?_
        obtain ⟨r2, h3, hq, hf⟩ := xc2_e hf
        refine J_cVi (Mc := mX12_together) [xI l3] dX12_mend_415 (fc_Md_together.fit ⟨xbl rfl, xbl rfl⟩) rfl ⟨Or.inl xq1498, xq1500, xq120⟩ kO81 (ci := 12) rfl rfl (xbl rfl) (xbl rfl) (jm_Md_together  hq) ?_
        refine J_goto (tgt := 445) dX12_mend_418 (by decide) ?_
        refine J_sub [1, 2, 3, 4, 0] rfl ?_
        exact j_Md_mend_445  hf kb ke
      · have hf := xin' hc hf
        refine J_iload 4 dX12_mend_421 rfl ?_
        refine J_iconst dX12_mend_423 (by decide) ?_
        refine J_ic_ne (tgt := 444) dX12_mend_424 (by decide) (fun hc => ?_) (fun hc => ?_)
        · have hf := xip hc hf
          refine J_aload_n 1 dX12_mend_427 rfl rfl ?_
          refine J_iload 0 dX12_mend_428 rfl ?_
          refine J_aload_n 1 dX12_mend_430 rfl rfl ?_
          refine J_getRl (j := 4) xcf12 dX12_mend_431 kO81 (Or.inl xq1024) (by decide) (by decide) rf_81_4 ?_
          refine J_bip dX12_mend_434 (by decide) ?_
          refine J_iload_n 3 dX12_mend_436 rfl rfl ?_
          refine J_imul dX12_mend_437 ?_
          obtain ⟨r4, hq, hf⟩ := xc1_e hf
          refine J_cVi (Mc := mX12_wordOf) [xI s0, xR 84, xI (w32 (12 * l3))] dX12_mend_438 (fc_Md_wordOf.fit ⟨xbl rfl, xbl rfl⟩) rfl ⟨Or.inl xq1299, xq1301, xq91⟩ kO81 (ci := 12) rfl rfl (xbl rfl) (xbl rfl) (jm_Md_wordOf kO84 hq) ?_
          refine J_goto (tgt := 445) dX12_mend_441 (by decide) ?_
          refine J_sub [1, 2, 3, 4, 0] rfl ?_
          exact j_Md_mend_445  hf kb ke
        · have hf := xin' hc hf
          refine J_iconst dX12_mend_444 (by decide) ?_
          refine J_sub [1, 2, 3, 4, 0] rfl ?_
          exact j_Md_mend_445  hf kb ke
theorem j_Md_mend_353 {l1 : Int} {l3 : Int} {l4 : Int} {s1 : Int} {s2 : Int} {h : xH} {x : ((Int × xH) ⊕ xH)} {Q : xQ}  (hf : f_Md_mend_353 l1 l3 l4 s1 s2 h = some x) (kb : ∀ (l3' : Int) (h' : xH), x = Sum.inl (l3', h') → J mX12_mend true 0 0 228 xKn [(0, xR 81), (1, xI l1), (3, xI l3')] [] h' Q) (ke : ∀  (h' : xH), x = (Sum.inr h') → J mX12_mend true 0 0 510 xKn [(0, xR 81)] [] h' Q) : J mX12_mend true 0 0 353 xKn [(0, xR 81), (1, xI l1), (3, xI l3), (4, xI l4)] [xI s2, xI s1, xR 138] h Q := by
  unfold f_Md_mend_353 at hf
  obtain ⟨hg, hf⟩ := xgd_e hf
  obtain ⟨h1, eh1, hf⟩ := xlet_e hf
  refine J_iast dX12_mend_353 (xK_r1 kO138) kO138 hg nA138 eh1 ?_
  refine J_iload 3 dX12_mend_354 rfl ?_
  refine J_iconst dX12_mend_356 (by decide) ?_
  refine J_ic_ne (tgt := 368) dX12_mend_357 (by decide) (fun hc => ?_) (fun hc => ?_)
  · have hf := xip hc hf
    refine J_aload_n 0 dX12_mend_360 rfl rfl ?_
    refine J_iload_n 2 dX12_mend_361 rfl rfl ?_
    obtain ⟨r2, hq, hf⟩ := xc1_e hf
    refine J_cVi (Mc := mX12_parting) [xI l3] dX12_mend_362 (fc_Md_parting.fit ⟨xbl rfl, xbl rfl⟩) rfl ⟨Or.inl xq1502, xq1504, xq121⟩ kO81 (ci := 12) rfl rfl (xbl rfl) (xbl rfl) (jm_Md_parting  hq) ?_
    refine J_goto (tgt := 369) dX12_mend_365 (by decide) ?_
    exact j_Md_mend_369  hf kb ke
  · have hf := xin' hc hf
    refine J_iconst dX12_mend_368 (by decide) ?_
    exact j_Md_mend_369  hf kb ke
theorem j_Md_mend_302 {l1 : Int} {l3 : Int} {l4 : Int} {l5 : Int} {h : xH} {x : ((Int × xH) ⊕ xH)} {Q : xQ}  (hf : f_Md_mend_302 l1 l3 l4 l5 h = some x) (kb : ∀ (l3' : Int) (h' : xH), x = Sum.inl (l3', h') → J mX12_mend true 0 0 228 xKn [(0, xR 81), (1, xI l1), (3, xI l3')] [] h' Q) (ke : ∀  (h' : xH), x = (Sum.inr h') → J mX12_mend true 0 0 510 xKn [(0, xR 81)] [] h' Q) : J mX12_mend true 0 0 302 xKn [(0, xR 81), (1, xI l1), (3, xI l3), (4, xI l4), (5, xI l5)] [] h Q := by
  unfold f_Md_mend_302 at hf
  refine J_aload_n 0 dX12_mend_302 rfl rfl ?_
  refine J_getRl (j := 71) xcf12 dX12_mend_303 kO81 (Or.inl xq1091) (by decide) (by decide) rf_81_71 ?_
  refine J_aload_n 0 dX12_mend_306 rfl rfl ?_
  refine J_getI (j := 69) xcf12 dX12_mend_307 (xK_rg kO81) kO81 (Or.inl xq1089) (by decide) (by decide) ?_
  refine J_iload 3 dX12_mend_310 rfl ?_
  obtain ⟨hg, hf⟩ := xgd_e hf
  obtain ⟨h1, eh1, hf⟩ := xlet_e hf
  refine J_iast dX12_mend_312 (xK_r1 kO134) kO134 hg nA134 eh1 ?_
  refine J_aload_n 0 dX12_mend_313 rfl rfl ?_
  refine J_getRl (j := 72) xcf12 dX12_mend_314 kO81 (Or.inl xq1092) (by decide) (by decide) rf_81_72 ?_
  refine J_aload_n 0 dX12_mend_317 rfl rfl ?_
  refine J_getI (j := 69) xcf12 dX12_mend_318 (xK_rg kO81) kO81 (Or.inl xq1089) (by decide) (by decide) ?_
  refine J_iload 4 dX12_mend_321 rfl ?_
  obtain ⟨hg, hf⟩ := xgd_e hf
  obtain ⟨h2, eh2, hf⟩ := xlet_e hf
  refine J_iast dX12_mend_323 (xK_r1 kO135) kO135 hg nA135 eh2 ?_
  refine J_aload_n 0 dX12_mend_324 rfl rfl ?_
  refine J_getRl (j := 74) xcf12 dX12_mend_325 kO81 (Or.inl xq1094) (by decide) (by decide) rf_81_74 ?_
  refine J_aload_n 0 dX12_mend_328 rfl rfl ?_
  refine J_getI (j := 69) xcf12 dX12_mend_329 (xK_rg kO81) kO81 (Or.inl xq1089) (by decide) (by decide) ?_
  refine J_iconst dX12_mend_332 (by decide) ?_
  obtain ⟨hg, hf⟩ := xgd_e hf
  obtain ⟨h3, eh3, hf⟩ := xlet_e hf
  refine J_iast dX12_mend_333 (xK_r1 kO137) kO137 hg nA137 eh3 ?_
  refine J_aload_n 0 dX12_mend_334 rfl rfl ?_
  refine J_getRl (j := 75) xcf12 dX12_mend_335 kO81 (Or.inl xq1095) (by decide) (by decide) rf_81_75 ?_
  refine J_aload_n 0 dX12_mend_338 rfl rfl ?_
  refine J_getI (j := 69) xcf12 dX12_mend_339 (xK_rg kO81) kO81 (Or.inl xq1089) (by decide) (by decide) ?_
  refine J_iload 3 dX12_mend_342 rfl ?_
  refine J_iconst dX12_mend_344 (by decide) ?_
  refine J_ic_ne (tgt := 352) dX12_mend_345 (by decide) (fun hc => ?_) (fun hc => ?_)
  · have hf := xip hc hf
    refine J_iconst dX12_mend_348 (by decide) ?_
    refine J_goto (tgt := 353) dX12_mend_349 (by decide) ?_
    refine J_sub [0, 1, 2, 3] rfl ?_
    exact j_Md_mend_353  hf kb ke
  · have hf := xin' hc hf
    refine J_iconst dX12_mend_352 (by decide) ?_
    refine J_sub [0, 1, 2, 3] rfl ?_
    exact j_Md_mend_353  hf kb ke
theorem j_Md_mend_286 {l1 : Int} {l3 : Int} {l4 : Int} {h : xH} {x : ((Int × Int × xH) ⊕ (Int × Int × xH))} {Q : xQ}  (hf : f_Md_mend_286 l1 l3 l4 h = some x) (kb : ∀ (l4' : Int) (l5' : Int) (h' : xH), x = Sum.inl (l4', l5', h') → J mX12_mend true 0 0 248 xKn [(0, xR 81), (1, xI l1), (3, xI l3), (4, xI l4'), (5, xI l5')] [] h' Q) (ke : ∀ (l4' : Int) (l5' : Int) (h' : xH), x = (Sum.inr (l4', l5', h')) → J mX12_mend true 0 0 302 xKn [(0, xR 81), (1, xI l1), (3, xI l3), (4, xI l4'), (5, xI l5')] [] h' Q) : J mX12_mend true 0 0 286 xKn [(0, xR 81), (1, xI l1), (3, xI l3), (4, xI l4)] [] h Q := by
  unfold f_Md_mend_286 at hf
  obtain ⟨x1, ex1, hf⟩ := xlet_e hf
  refine J_iinc (ls' := [(4, xI x1), (0, xR 81), (1, xI l1), (3, xI l3)]) 3 dX12_mend_286 rfl (by decide) ex1 rfl ?_
  refine J_aload_n 1 dX12_mend_289 rfl rfl ?_
  refine J_iload 0 dX12_mend_290 rfl ?_
  refine J_iload_n 3 dX12_mend_292 rfl rfl ?_
  refine J_iload_n 2 dX12_mend_293 rfl rfl ?_
  obtain ⟨r2, h3, hq, hf⟩ := xc2_e hf
  refine J_cVi (Mc := mX12_partAt) [xI x1, xI l3, xI l1] dX12_mend_294 (fc_Md_partAt.fit ⟨xbl rfl, xbl rfl⟩) rfl ⟨Or.inl xq1494, xq1496, xq119⟩ kO81 (ci := 12) rfl rfl (xbl rfl) (xbl rfl) (jm_Md_partAt  hq) ?_
  refine J_istore (ls' := [(5, xI r2), (4, xI x1), (0, xR 81), (1, xI l1), (3, xI l3)]) dX12_mend_297 (by decide) rfl rfl ?_
  refine J_goto (tgt := 248) dX12_mend_299 (by decide) ?_
  refine J_sub [2, 3, 4, 1, 0] rfl ?_
  exact kb _ _ _ (xinl hf)
theorem j_Md_mend_274 {l1 : Int} {l3 : Int} {l4 : Int} {l5 : Int} {s0 : Int} {s2 : Int} {s3 : Int} {h : xH} {x : ((Int × Int × xH) ⊕ (Int × Int × xH))} {Q : xQ}  (hf : f_Md_mend_274 l1 l3 l4 l5 s0 s2 s3 h = some x) (kb : ∀ (l4' : Int) (l5' : Int) (h' : xH), x = Sum.inl (l4', l5', h') → J mX12_mend true 0 0 248 xKn [(0, xR 81), (1, xI l1), (3, xI l3), (4, xI l4'), (5, xI l5')] [] h' Q) (ke : ∀ (l4' : Int) (l5' : Int) (h' : xH), x = (Sum.inr (l4', l5', h')) → J mX12_mend true 0 0 302 xKn [(0, xR 81), (1, xI l1), (3, xI l3), (4, xI l4'), (5, xI l5')] [] h' Q) : J mX12_mend true 0 0 274 xKn [(0, xR 81), (1, xI l1), (3, xI l3), (4, xI l4), (5, xI l5)] [xI s3, xI s2, xR 139, xI s0] h Q := by
  unfold f_Md_mend_274 at hf
  refine J_iadd dX12_mend_274 ?_
  obtain ⟨hg, hf⟩ := xgd_e hf
  refine J_iald dX12_mend_275 (xK_r1 kO139) kO139 hg nA139 ?_
  refine J_iadd dX12_mend_276 ?_
  refine J_aload_n 0 dX12_mend_277 rfl rfl ?_
  refine J_getRl (j := 76) xcf12 dX12_mend_278 kO81 (Or.inl xq1096) (by decide) (by decide) rf_81_76 ?_
  refine J_iload_n 2 dX12_mend_281 rfl rfl ?_
  obtain ⟨hg, hf⟩ := xgd_e hf
  refine J_iald dX12_mend_282 (xK_r1 kO139) kO139 hg nA139 ?_
  refine J_ic_eq (tgt := 302) dX12_mend_283 (by decide) (fun hc => ?_) (fun hc => ?_)
  · have hf := xip hc hf
    exact ke _ _ _ (xinl hf)
  · have hf := xin' hc hf
    refine J_sub [0, 1, 2, 3] rfl ?_
    exact j_Md_mend_286  hf kb ke
theorem j_Md_mend_s248 {l1 : Int} {l3 : Int} {l4 : Int} {l5 : Int} {h : xH} {x : ((Int × Int × xH) ⊕ (Int × Int × xH))} {Q : xQ}  (hf : f_Md_mend_s248 l1 l3 l4 l5 h = some x) (kb : ∀ (l4' : Int) (l5' : Int) (h' : xH), x = Sum.inl (l4', l5', h') → J mX12_mend true 0 0 248 xKn [(0, xR 81), (1, xI l1), (3, xI l3), (4, xI l4'), (5, xI l5')] [] h' Q) (ke : ∀ (l4' : Int) (l5' : Int) (h' : xH), x = (Sum.inr (l4', l5', h')) → J mX12_mend true 0 0 302 xKn [(0, xR 81), (1, xI l1), (3, xI l3), (4, xI l4'), (5, xI l5')] [] h' Q) : J mX12_mend true 0 0 248 xKn [(0, xR 81), (1, xI l1), (3, xI l3), (4, xI l4), (5, xI l5)] [] h Q := by
  unfold f_Md_mend_s248 at hf
  refine J_iload 4 dX12_mend_248 rfl ?_
  refine J_ldcw (v := 1000000) dX12_mend_250 xq1370 (by decide) ?_
  refine J_ic_ge (tgt := 286) dX12_mend_253 (by decide) (fun hc => ?_) (fun hc => ?_)
  · have hf := xip hc hf
    refine J_iload 4 dX12_mend_256 rfl ?_
    refine J_aload_n 0 dX12_mend_258 rfl rfl ?_
    refine J_getRl (j := 76) xcf12 dX12_mend_259 kO81 (Or.inl xq1096) (by decide) (by decide) rf_81_76 ?_
    refine J_iload_n 2 dX12_mend_262 rfl rfl ?_
    refine J_iload 3 dX12_mend_263 rfl ?_
    refine J_iconst dX12_mend_265 (by decide) ?_
    refine J_ic_ne (tgt := 273) dX12_mend_266 (by decide) (fun hc => ?_) (fun hc => ?_)
    · have hf := xip hc hf
      refine J_iconst dX12_mend_269 (by decide) ?_
      refine J_goto (tgt := 274) dX12_mend_270 (by decide) ?_
      exact j_Md_mend_274  hf kb ke
    · have hf := xin' hc hf
      refine J_iconst dX12_mend_273 (by decide) ?_
      exact j_Md_mend_274  hf kb ke
  · have hf := xin' hc hf
    refine J_sub [0, 1, 2, 3] rfl ?_
    exact j_Md_mend_286  hf kb ke
theorem j_Md_mend_248 {l1 : Int} {l3 : Int} {l4 : Int} {l5 : Int} {h : xH} {x : ((Int × xH) ⊕ xH)} {Q : xQ}  (hf : f_Md_mend_248 l1 l3 l4 l5 h = some x) (kb : ∀ (l3' : Int) (h' : xH), x = Sum.inl (l3', h') → J mX12_mend true 0 0 228 xKn [(0, xR 81), (1, xI l1), (3, xI l3')] [] h' Q) (ke : ∀  (h' : xH), x = (Sum.inr h') → J mX12_mend true 0 0 510 xKn [(0, xR 81)] [] h' Q) : J mX12_mend true 0 0 248 xKn [(0, xR 81), (1, xI l1), (3, xI l3), (4, xI l4), (5, xI l5)] [] h Q := by
  unfold f_Md_mend_248 at hf
  obtain ⟨b0, hb0, hf⟩ := xc1_e hf
  refine xloop_ind (P := fun s : (Int × Int × xH) => J mX12_mend true 0 0 248 xKn [(0, xR 81), (1, xI l1), (3, xI l3), (4, xI s.1), (5, xI s.2.1)] [] s.2.2 Q) hb0 (fun s x1 hs ib ie => ?_)
  exact j_Md_mend_s248  hs (fun _ _ _ e => ib _ e) (fun _ _ _ e => by have := ie _ e; subst this; exact j_Md_mend_302  hf kb ke)
theorem j_Md_mend_s228 {l1 : Int} {l3 : Int} {h : xH} {x : ((Int × xH) ⊕ xH)} {Q : xQ}  (hf : f_Md_mend_s228 l1 l3 h = some x) (kb : ∀ (l3' : Int) (h' : xH), x = Sum.inl (l3', h') → J mX12_mend true 0 0 228 xKn [(0, xR 81), (1, xI l1), (3, xI l3')] [] h' Q) (ke : ∀  (h' : xH), x = (Sum.inr h') → J mX12_mend true 0 0 510 xKn [(0, xR 81)] [] h' Q) : J mX12_mend true 0 0 228 xKn [(0, xR 81), (1, xI l1), (3, xI l3)] [] h Q := by
  unfold f_Md_mend_s228 at hf
  refine J_iload_n 2 dX12_mend_228 rfl rfl ?_
  refine J_aload_n 0 dX12_mend_229 rfl rfl ?_
  refine J_getI (j := 2) xcf12 dX12_mend_230 (xK_rg kO81) kO81 (Or.inl xq1022) (by decide) (by decide) ?_
  refine J_ic_ge (tgt := 510) dX12_mend_233 (by decide) (fun hc => ?_) (fun hc => ?_)
  · have hf := xip hc hf
    refine J_iconst dX12_mend_236 (by decide) ?_
    refine J_istore (ls' := [(4, xI 0), (0, xR 81), (1, xI l1), (3, xI l3)]) dX12_mend_237 (by decide) rfl rfl ?_
    refine J_aload_n 1 dX12_mend_239 rfl rfl ?_
    refine J_iconst dX12_mend_240 (by decide) ?_
    refine J_iload_n 3 dX12_mend_241 rfl rfl ?_
    refine J_iload_n 2 dX12_mend_242 rfl rfl ?_
    obtain ⟨r1, h2, hq, hf⟩ := xc2_e hf
    refine J_cVi (Mc := mX12_partAt) [xI 0, xI l3, xI l1] dX12_mend_243 (fc_Md_partAt.fit ⟨xbl rfl, xbl rfl⟩) rfl ⟨Or.inl xq1494, xq1496, xq119⟩ kO81 (ci := 12) rfl rfl (xbl rfl) (xbl rfl) (jm_Md_partAt  hq) ?_
    refine J_istore (ls' := [(5, xI r1), (4, xI 0), (0, xR 81), (1, xI l1), (3, xI l3)]) dX12_mend_246 (by decide) rfl rfl ?_
    refine J_sub [2, 3, 4, 1, 0] rfl ?_
    exact j_Md_mend_248  hf kb ke
  · have hf := xin' hc hf
    refine J_sub [0] rfl ?_
    exact ke _ (xinl hf)
theorem j_Md_mend_228 {l1 : Int} {l3 : Int} {h : xH} {r0 : Int} {h0 : xH}  (hf : f_Md_mend_228 l1 l3 h = some (r0, h0))  : J mX12_mend true 0 0 228 xKn [(0, xR 81), (1, xI l1), (3, xI l3)] [] h (xEq (some r0) h0) := by
  unfold f_Md_mend_228 at hf
  obtain ⟨b0, hb0, hf⟩ := xc1_e hf
  refine xloop_ind (P := fun s : (Int × xH) => J mX12_mend true 0 0 228 xKn [(0, xR 81), (1, xI l1), (3, xI s.1)] [] s.2 (xEq (some r0) h0)) hb0 (fun s x1 hs ib ie => ?_)
  exact j_Md_mend_s228  hs (fun _ _ e => ib _ e) (fun _ e => by have := ie _ e; subst this; exact j_Md_mend_510  hf)
theorem j_Md_mend_211 {l1 : Int} {h : xH} {r0 : Int} {h0 : xH}  (hf : f_Md_mend_211 l1 h = some (r0, h0))  : J mX12_mend true 0 0 211 xKn [(0, xR 81), (1, xI l1)] [] h (xEq (some r0) h0) := by
  unfold f_Md_mend_211 at hf
  refine J_aload_n 0 dX12_mend_211 rfl rfl ?_
  refine J_iconst dX12_mend_212 (by decide) ?_
  obtain ⟨h1, eh1, hf⟩ := xlet_e hf
  refine J_putI (j := 69) xcf12 dX12_mend_213 (xK_rg kO81) kO81 (Or.inl xq1089) (by decide) (by decide) eh1 ?_
  refine J_aload_n 0 dX12_mend_216 rfl rfl ?_
  refine J_aload_n 0 dX12_mend_217 rfl rfl ?_
  refine J_getRl (j := 76) xcf12 dX12_mend_218 kO81 (Or.inl xq1096) (by decide) (by decide) rf_81_76 ?_
  refine J_iconst dX12_mend_221 (by decide) ?_
  obtain ⟨hg, hf⟩ := xgd_e hf
  refine J_iald dX12_mend_222 (xK_r1 kO139) kO139 hg nA139 ?_
  obtain ⟨h2, eh2, hf⟩ := xlet_e hf
  refine J_putI (j := 70) xcf12 dX12_mend_223 (xK_rg kO81) kO81 (Or.inl xq1090) (by decide) (by decide) eh2 ?_
  refine J_iconst dX12_mend_226 (by decide) ?_
  refine J_istore_n (ls' := [(3, xI 0), (0, xR 81), (1, xI l1)]) dX12_mend_227 rfl (by decide) rfl rfl ?_
  refine J_sub [1, 2, 0] rfl ?_
  exact j_Md_mend_228  hf
theorem j_Md_mend_205 {l1 : Int} {l3 : Int} {h : xH} {x : ((Int × xH) ⊕ xH)} {Q : xQ}  (hf : f_Md_mend_205 l1 l3 h = some x) (kb : ∀ (l3' : Int) (h' : xH), x = Sum.inl (l3', h') → J mX12_mend true 0 0 123 xKn [(0, xR 81), (1, xI l1), (3, xI l3')] [] h' Q) (ke : ∀  (h' : xH), x = (Sum.inr h') → J mX12_mend true 0 0 211 xKn [(0, xR 81), (1, xI l1)] [] h' Q) : J mX12_mend true 0 0 205 xKn [(0, xR 81), (1, xI l1), (3, xI l3)] [] h Q := by
  unfold f_Md_mend_205 at hf
  obtain ⟨x1, ex1, hf⟩ := xlet_e hf
  refine J_iinc (ls' := [(3, xI x1), (0, xR 81), (1, xI l1)]) 2 dX12_mend_205 rfl (by decide) ex1 rfl ?_
  refine J_goto (tgt := 123) dX12_mend_208 (by decide) ?_
  refine J_sub [1, 2, 0] rfl ?_
  exact kb _ _ (xinl hf)
theorem j_Md_mend_199 {l1 : Int} {l3 : Int} {l4 : Int} {h : xH} {x : ((Int × xH) ⊕ xH)} {Q : xQ}  (hf : f_Md_mend_199 l1 l3 l4 h = some x) (kb : ∀ (l4' : Int) (h' : xH), x = Sum.inl (l4', h') → J mX12_mend true 0 0 139 xKn [(0, xR 81), (1, xI l1), (3, xI l3), (4, xI l4')] [] h' Q) (ke : ∀  (h' : xH), x = (Sum.inr h') → J mX12_mend true 0 0 205 xKn [(0, xR 81), (1, xI l1), (3, xI l3)] [] h' Q) : J mX12_mend true 0 0 199 xKn [(0, xR 81), (1, xI l1), (3, xI l3), (4, xI l4)] [] h Q := by
  unfold f_Md_mend_199 at hf
  obtain ⟨x1, ex1, hf⟩ := xlet_e hf
  refine J_iinc (ls' := [(4, xI x1), (0, xR 81), (1, xI l1), (3, xI l3)]) 3 dX12_mend_199 rfl (by decide) ex1 rfl ?_
  refine J_goto (tgt := 139) dX12_mend_202 (by decide) ?_
  refine J_sub [1, 2, 3, 0] rfl ?_
  exact kb _ _ (xinl hf)
theorem j_Md_mend_192 {l1 : Int} {l3 : Int} {l4 : Int} {s1 : Int} {s2 : Int} {s3 : Int} {s5 : Int} {s6 : Int} {h : xH} {x : ((Int × xH) ⊕ xH)} {Q : xQ}  (hf : f_Md_mend_192 l1 l3 l4 s1 s2 s3 s5 s6 h = some x) (kb : ∀ (l4' : Int) (h' : xH), x = Sum.inl (l4', h') → J mX12_mend true 0 0 139 xKn [(0, xR 81), (1, xI l1), (3, xI l3), (4, xI l4')] [] h' Q) (ke : ∀  (h' : xH), x = (Sum.inr h') → J mX12_mend true 0 0 205 xKn [(0, xR 81), (1, xI l1), (3, xI l3)] [] h' Q) : J mX12_mend true 0 0 192 xKn [(0, xR 81), (1, xI l1), (3, xI l3), (4, xI l4)] [xI s6, xI s5, xR 139, xI s3, xI s2, xI s1, xR 139] h Q := by
  unfold f_Md_mend_192 at hf
  refine J_iadd dX12_mend_192 ?_
  obtain ⟨hg, hf⟩ := xgd_e hf
  refine J_iald dX12_mend_193 (xK_r1 kO139) kO139 hg nA139 ?_
  refine J_iadd dX12_mend_194 ?_
  obtain ⟨r1, hq, hf⟩ := xc1_e hf
  refine J_cSi (Mc := mX12_min) [xI s2, xI (w32 (s3 + (h 139 (w32 (s5 + s6)))))] dX12_mend_195 (fc_Md_min.fit ⟨xbl rfl, xbl rfl⟩) rfl ⟨Or.inl xq1307, xq1308⟩ rfl (xbl rfl) (xbl rfl) (jm_Md_min  hq) ?_
  obtain ⟨hg, hf⟩ := xgd_e hf
  obtain ⟨h2, eh2, hf⟩ := xlet_e hf
  refine J_iast dX12_mend_198 (xK_r1 kO139) kO139 hg nA139 eh2 ?_
  exact j_Md_mend_199  hf kb ke
theorem j_Md_mend_s139 {l1 : Int} {l3 : Int} {l4 : Int} {h : xH} {x : ((Int × xH) ⊕ xH)} {Q : xQ}  (hf : f_Md_mend_s139 l1 l3 l4 h = some x) (kb : ∀ (l4' : Int) (h' : xH), x = Sum.inl (l4', h') → J mX12_mend true 0 0 139 xKn [(0, xR 81), (1, xI l1), (3, xI l3), (4, xI l4')] [] h' Q) (ke : ∀  (h' : xH), x = (Sum.inr h') → J mX12_mend true 0 0 205 xKn [(0, xR 81), (1, xI l1), (3, xI l3)] [] h' Q) : J mX12_mend true 0 0 139 xKn [(0, xR 81), (1, xI l1), (3, xI l3), (4, xI l4)] [] h Q := by
  unfold f_Md_mend_s139 at hf
  refine J_iload 3 dX12_mend_139 rfl ?_
  refine J_iconst dX12_mend_141 (by decide) ?_
  refine J_ic_ge (tgt := 205) dX12_mend_142 (by decide) (fun hc => ?_) (fun hc => ?_)
  · have hf := xip hc hf
    refine J_aload_n 0 dX12_mend_145 rfl rfl ?_
    refine J_iload 3 dX12_mend_146 rfl ?_
    refine J_iload_n 2 dX12_mend_148 rfl rfl ?_
    refine J_iload_n 1 dX12_mend_149 rfl rfl ?_
    obtain ⟨r1, h2, hq, hf⟩ := xc2_e hf
    refine J_cVi (Mc := mX12_partAt) [xI l4, xI l3, xI l1] dX12_mend_150 (fc_Md_partAt.fit ⟨xbl rfl, xbl rfl⟩) rfl ⟨Or.inl xq1494, xq1496, xq119⟩ kO81 (ci := 12) rfl rfl (xbl rfl) (xbl rfl) (jm_Md_partAt  hq) ?_
    refine J_istore (ls' := [(5, xI r1), (0, xR 81), (1, xI l1), (3, xI l3), (4, xI l4)]) dX12_mend_153 (by decide) rfl rfl ?_
    refine J_iload 0 dX12_mend_155 rfl ?_
    refine J_ldcw (v := 1000000) dX12_mend_157 xq1370 (by decide) ?_
    refine J_ic_ge (tgt := 199) dX12_mend_160 (by decide) (fun hc => ?_) (fun hc => ?_)
    · have hf := xip hc hf
      refine J_aload_n 1 dX12_mend_163 rfl rfl ?_
      refine J_getRl (j := 76) xcf12 dX12_mend_164 kO81 (Or.inl xq1096) (by decide) (by decide) rf_81_76 ?_
      refine J_iload_n 3 dX12_mend_167 rfl rfl ?_
      refine J_aload_n 1 dX12_mend_168 rfl rfl ?_
      refine J_getRl (j := 76) xcf12 dX12_mend_169 kO81 (Or.inl xq1096) (by decide) (by decide) rf_81_76 ?_
      refine J_iload_n 3 dX12_mend_172 rfl rfl ?_
      obtain ⟨hg, hf⟩ := xgd_e hf
      refine J_iald dX12_mend_173 (xK_r1 kO139) kO139 hg nA139 ?_
      refine J_iload 0 dX12_mend_174 rfl ?_
      refine J_aload_n 1 dX12_mend_176 rfl rfl ?_
      refine J_getRl (j := 76) xcf12 dX12_mend_177 kO81 (Or.inl xq1096) (by decide) (by decide) rf_81_76 ?_
      refine J_iload_n 3 dX12_mend_180 rfl rfl ?_
      refine J_iload 4 dX12_mend_181 rfl ?_
      refine J_iconst dX12_mend_183 (by decide) ?_
      refine J_ic_ne (tgt := 191) dX12_mend_184 (by decide) (fun hc => ?_) (fun hc => ?_)
      · have hf := xip hc hf
        refine J_iconst dX12_mend_187 (by decide) ?_
        refine J_goto (tgt := 192) dX12_mend_188 (by decide) ?_
        refine J_sub [1, 2, 3, 4] rfl ?_
        exact j_Md_mend_192  hf kb ke
      · have hf := xin' hc hf
        refine J_iconst dX12_mend_191 (by decide) ?_
        refine J_sub [1, 2, 3, 4] rfl ?_
        exact j_Md_mend_192  hf kb ke
    · have hf := xin' hc hf
      refine J_sub [1, 2, 3, 4] rfl ?_
      exact j_Md_mend_199  hf kb ke
  · have hf := xin' hc hf
    refine J_sub [0, 1, 2] rfl ?_
    exact ke _ (xinl hf)
theorem j_Md_mend_139 {l1 : Int} {l3 : Int} {l4 : Int} {h : xH} {x : ((Int × xH) ⊕ xH)} {Q : xQ}  (hf : f_Md_mend_139 l1 l3 l4 h = some x) (kb : ∀ (l3' : Int) (h' : xH), x = Sum.inl (l3', h') → J mX12_mend true 0 0 123 xKn [(0, xR 81), (1, xI l1), (3, xI l3')] [] h' Q) (ke : ∀  (h' : xH), x = (Sum.inr h') → J mX12_mend true 0 0 211 xKn [(0, xR 81), (1, xI l1)] [] h' Q) : J mX12_mend true 0 0 139 xKn [(0, xR 81), (1, xI l1), (3, xI l3), (4, xI l4)] [] h Q := by
  unfold f_Md_mend_139 at hf
  obtain ⟨b0, hb0, hf⟩ := xc1_e hf
  refine xloop_ind (P := fun s : (Int × xH) => J mX12_mend true 0 0 139 xKn [(0, xR 81), (1, xI l1), (3, xI l3), (4, xI s.1)] [] s.2 Q) hb0 (fun s x1 hs ib ie => ?_)
  exact j_Md_mend_s139  hs (fun _ _ e => ib _ e) (fun _ e => by have := ie _ e; subst this; exact j_Md_mend_205  hf kb ke)
theorem j_Md_mend_s123 {l1 : Int} {l3 : Int} {h : xH} {x : ((Int × xH) ⊕ xH)} {Q : xQ}  (hf : f_Md_mend_s123 l1 l3 h = some x) (kb : ∀ (l3' : Int) (h' : xH), x = Sum.inl (l3', h') → J mX12_mend true 0 0 123 xKn [(0, xR 81), (1, xI l1), (3, xI l3')] [] h' Q) (ke : ∀  (h' : xH), x = (Sum.inr h') → J mX12_mend true 0 0 211 xKn [(0, xR 81), (1, xI l1)] [] h' Q) : J mX12_mend true 0 0 123 xKn [(0, xR 81), (1, xI l1), (3, xI l3)] [] h Q := by
  unfold f_Md_mend_s123 at hf
  refine J_iload_n 2 dX12_mend_123 rfl rfl ?_
  refine J_if_lt (tgt := 211) dX12_mend_124 (by decide) (fun hc => ?_) (fun hc => ?_)
  · have hf := xip hc hf
    refine J_sub [0, 1] rfl ?_
    exact ke _ (xinl hf)
  · have hf := xin' hc hf
    refine J_aload_n 0 dX12_mend_127 rfl rfl ?_
    refine J_getRl (j := 76) xcf12 dX12_mend_128 kO81 (Or.inl xq1096) (by decide) (by decide) rf_81_76 ?_
    refine J_iload_n 2 dX12_mend_131 rfl rfl ?_
    refine J_ldcw (v := 100000000) dX12_mend_132 xq1493 (by decide) ?_
    obtain ⟨hg, hf⟩ := xgd_e hf
    obtain ⟨h1, eh1, hf⟩ := xlet_e hf
    refine J_iast dX12_mend_135 (xK_r1 kO139) kO139 hg nA139 eh1 ?_
    refine J_iconst dX12_mend_136 (by decide) ?_
    refine J_istore (ls' := [(4, xI 0), (0, xR 81), (1, xI l1), (3, xI l3)]) dX12_mend_137 (by decide) rfl rfl ?_
    refine J_sub [1, 2, 3, 0] rfl ?_
    exact j_Md_mend_139  hf kb ke
theorem j_Md_mend_123 {l1 : Int} {l3 : Int} {h : xH} {r0 : Int} {h0 : xH}  (hf : f_Md_mend_123 l1 l3 h = some (r0, h0))  : J mX12_mend true 0 0 123 xKn [(0, xR 81), (1, xI l1), (3, xI l3)] [] h (xEq (some r0) h0) := by
  unfold f_Md_mend_123 at hf
  obtain ⟨b0, hb0, hf⟩ := xc1_e hf
  refine xloop_ind (P := fun s : (Int × xH) => J mX12_mend true 0 0 123 xKn [(0, xR 81), (1, xI l1), (3, xI s.1)] [] s.2 (xEq (some r0) h0)) hb0 (fun s x1 hs ib ie => ?_)
  exact j_Md_mend_s123  hs (fun _ _ e => ib _ e) (fun _ e => by have := ie _ e; subst this; exact j_Md_mend_211  hf)
theorem j_Md_mend_106 {l1 : Int} {h : xH} {r0 : Int} {h0 : xH}  (hf : f_Md_mend_106 l1 h = some (r0, h0))  : J mX12_mend true 0 0 106 xKn [(0, xR 81), (1, xI l1)] [] h (xEq (some r0) h0) := by
  unfold f_Md_mend_106 at hf
  refine J_aload_n 0 dX12_mend_106 rfl rfl ?_
  refine J_getRl (j := 76) xcf12 dX12_mend_107 kO81 (Or.inl xq1096) (by decide) (by decide) rf_81_76 ?_
  refine J_aload_n 0 dX12_mend_110 rfl rfl ?_
  refine J_getI (j := 2) xcf12 dX12_mend_111 (xK_rg kO81) kO81 (Or.inl xq1022) (by decide) (by decide) ?_
  refine J_iconst dX12_mend_114 (by decide) ?_
  obtain ⟨hg, hf⟩ := xgd_e hf
  obtain ⟨h1, eh1, hf⟩ := xlet_e hf
  refine J_iast dX12_mend_115 (xK_r1 kO139) kO139 hg nA139 eh1 ?_
  refine J_aload_n 0 dX12_mend_116 rfl rfl ?_
  refine J_getI (j := 2) xcf12 dX12_mend_117 (xK_rg kO81) kO81 (Or.inl xq1022) (by decide) (by decide) ?_
  refine J_iconst dX12_mend_120 (by decide) ?_
  refine J_isub dX12_mend_121 ?_
  obtain ⟨x2, ex2, hf⟩ := xlet_e hf
  refine J_istore_n (ls' := [(3, xI x2), (0, xR 81), (1, xI l1)]) dX12_mend_122 rfl (by decide) ex2 rfl ?_
  refine J_sub [1, 2, 0] rfl ?_
  exact j_Md_mend_123  hf
theorem j_Md_mend_100 {l1 : Int} {l3 : Int} {h : xH} {x : ((Int × xH) ⊕ xH)} {Q : xQ}  (hf : f_Md_mend_100 l1 l3 h = some x) (kb : ∀ (l3' : Int) (h' : xH), x = Sum.inl (l3', h') → J mX12_mend true 0 0 31 xKn [(0, xR 81), (1, xI l1), (3, xI l3')] [] h' Q) (ke : ∀  (h' : xH), x = (Sum.inr h') → J mX12_mend true 0 0 106 xKn [(0, xR 81), (1, xI l1)] [] h' Q) : J mX12_mend true 0 0 100 xKn [(0, xR 81), (1, xI l1), (3, xI l3)] [] h Q := by
  unfold f_Md_mend_100 at hf
  obtain ⟨x1, ex1, hf⟩ := xlet_e hf
  refine J_iinc (ls' := [(3, xI x1), (0, xR 81), (1, xI l1)]) 2 dX12_mend_100 rfl (by decide) ex1 rfl ?_
  refine J_goto (tgt := 31) dX12_mend_103 (by decide) ?_
  refine J_sub [1, 2, 0] rfl ?_
  exact kb _ _ (xinl hf)
theorem j_Md_mend_s31 {l1 : Int} {l3 : Int} {h : xH} {x : ((Int × xH) ⊕ xH)} {Q : xQ}  (hf : f_Md_mend_s31 l1 l3 h = some x) (kb : ∀ (l3' : Int) (h' : xH), x = Sum.inl (l3', h') → J mX12_mend true 0 0 31 xKn [(0, xR 81), (1, xI l1), (3, xI l3')] [] h' Q) (ke : ∀  (h' : xH), x = (Sum.inr h') → J mX12_mend true 0 0 106 xKn [(0, xR 81), (1, xI l1)] [] h' Q) : J mX12_mend true 0 0 31 xKn [(0, xR 81), (1, xI l1), (3, xI l3)] [] h Q := by
  unfold f_Md_mend_s31 at hf
  refine J_iload_n 2 dX12_mend_31 rfl rfl ?_
  refine J_aload_n 0 dX12_mend_32 rfl rfl ?_
  refine J_getI (j := 2) xcf12 dX12_mend_33 (xK_rg kO81) kO81 (Or.inl xq1022) (by decide) (by decide) ?_
  refine J_ic_ge (tgt := 106) dX12_mend_36 (by decide) (fun hc => ?_) (fun hc => ?_)
  · have hf := xip hc hf
    refine J_aload_n 0 dX12_mend_39 rfl rfl ?_
    refine J_getRl (j := 77) xcf12 dX12_mend_40 kO81 (Or.inl xq1097) (by decide) (by decide) rf_81_77 ?_
    refine J_iload_n 2 dX12_mend_43 rfl rfl ?_
    refine J_iconst dX12_mend_44 (by decide) ?_
    obtain ⟨hg, hf⟩ := xgd_e hf
    obtain ⟨h1, eh1, hf⟩ := xlet_e hf
    refine J_iast dX12_mend_45 (xK_r1 kO140) kO140 hg nA140 eh1 ?_
    refine J_aload_n 0 dX12_mend_46 rfl rfl ?_
    refine J_iload_n 2 dX12_mend_47 rfl rfl ?_
    obtain ⟨r2, hq, hf⟩ := xc1_e hf
    refine J_cVi (Mc := mX12_isWord) [xI l3] dX12_mend_48 (fc_Md_isWord.fit ⟨xbl rfl, xbl rfl⟩) rfl ⟨Or.inl xq1489, xq1491, xq118⟩ kO81 (ci := 12) rfl rfl (xbl rfl) (xbl rfl) (jm_Md_isWord  hq) ?_
    refine J_iconst dX12_mend_51 (by decide) ?_
    refine J_ic_eq (tgt := 58) dX12_mend_52 (by decide) (fun hc => ?_) (fun hc => ?_)
    · have hf := xip hc hf
      refine J_aload_n 0 dX12_mend_58 rfl rfl ?_
      refine J_iload_n 2 dX12_mend_59 rfl rfl ?_
      obtain ⟨h3, hq, hf⟩ := xc1_e hf
      refine J_cVv (Mc := mX12_takeB) [xI l3] dX12_mend_60 (fc_Md_takeB.fit ⟨xbl rfl, xbl rfl⟩) rfl ⟨Or.inl xq1362, xq1364, xq98⟩ kO81 (ci := 12) rfl rfl (xbl rfl) (xbl rfl) (jm_Md_takeB  hq) ?_
      refine J_aload_n 0 dX12_mend_63 rfl rfl ?_
      refine J_iload_n 1 dX12_mend_64 rfl rfl ?_
      refine J_iconst dX12_mend_65 (by decide) ?_
      obtain ⟨h4, hq, hf⟩ := xc1_e hf
      refine J_cVv (Mc := mX12_tries) [xI l1, xI 0] dX12_mend_66 (fc_Md_tries.fit ⟨xbl rfl, xbl rfl⟩) rfl ⟨Or.inl xq1420, xq1422, xq110⟩ kO81 (ci := 12) rfl rfl (xbl rfl) (xbl rfl) (jm_Md_tries  hq) ?_
      refine J_aload_n 0 dX12_mend_69 rfl rfl ?_
      refine J_getI (j := 57) xcf12 dX12_mend_70 (xK_rg kO81) kO81 (Or.inl xq1077) (by decide) (by decide) ?_
      refine J_if_le (tgt := 100) dX12_mend_73 (by decide) (fun hc => ?_) (fun hc => ?_)
      · have hf := xip hc hf
        refine J_aload_n 0 dX12_mend_76 rfl rfl ?_
        refine J_getRl (j := 77) xcf12 dX12_mend_77 kO81 (Or.inl xq1097) (by decide) (by decide) rf_81_77 ?_
        refine J_iload_n 2 dX12_mend_80 rfl rfl ?_
        refine J_aload_n 0 dX12_mend_81 rfl rfl ?_
        refine J_getRl (j := 58) xcf12 dX12_mend_82 kO81 (Or.inl xq1078) (by decide) (by decide) rf_81_58 ?_
        refine J_iconst dX12_mend_85 (by decide) ?_
        obtain ⟨hg, hf⟩ := xgd_e hf
        refine J_iald dX12_mend_86 (xK_r1 kO124) kO124 hg nA124 ?_
        obtain ⟨hg, hf⟩ := xgd_e hf
        obtain ⟨h5, eh5, hf⟩ := xlet_e hf
        refine J_iast dX12_mend_87 (xK_r1 kO140) kO140 hg nA140 eh5 ?_
        refine J_aload_n 0 dX12_mend_88 rfl rfl ?_
        refine J_getRl (j := 78) xcf12 dX12_mend_89 kO81 (Or.inl xq1098) (by decide) (by decide) rf_81_78 ?_
        refine J_iload_n 2 dX12_mend_92 rfl rfl ?_
        refine J_aload_n 0 dX12_mend_93 rfl rfl ?_
        refine J_getRl (j := 59) xcf12 dX12_mend_94 kO81 (Or.inl xq1079) (by decide) (by decide) rf_81_59 ?_
        refine J_iconst dX12_mend_97 (by decide) ?_
        obtain ⟨hg, hf⟩ := xgd_e hf
        refine J_iald dX12_mend_98 (xK_r1 kO125) kO125 hg nA125 ?_
        obtain ⟨hg, hf⟩ := xgd_e hf
        obtain ⟨h6, eh6, hf⟩ := xlet_e hf
        refine J_iast dX12_mend_99 (xK_r1 kO141) kO141 hg nA141 eh6 ?_
        exact j_Md_mend_100  hf kb ke
      · have hf := xin' hc hf
        exact j_Md_mend_100  hf kb ke
    · have hf := xin' hc hf
      refine J_goto (tgt := 100) dX12_mend_55 (by decide) ?_
      exact j_Md_mend_100  hf kb ke
  · have hf := xin' hc hf
    refine J_sub [0, 1] rfl ?_
    exact ke _ (xinl hf)
theorem j_Md_mend_31 {l1 : Int} {l3 : Int} {h : xH} {r0 : Int} {h0 : xH}  (hf : f_Md_mend_31 l1 l3 h = some (r0, h0))  : J mX12_mend true 0 0 31 xKn [(0, xR 81), (1, xI l1), (3, xI l3)] [] h (xEq (some r0) h0) := by
  unfold f_Md_mend_31 at hf
  obtain ⟨b0, hb0, hf⟩ := xc1_e hf
  refine xloop_ind (P := fun s : (Int × xH) => J mX12_mend true 0 0 31 xKn [(0, xR 81), (1, xI l1), (3, xI s.1)] [] s.2 (xEq (some r0) h0)) hb0 (fun s x1 hs ib ie => ?_)
  exact j_Md_mend_s31  hs (fun _ _ e => ib _ e) (fun _ e => by have := ie _ e; subst this; exact j_Md_mend_106  hf)
theorem jm_Md_mend {l1 : Int} {h : xH} {r0 : Int} {h0 : xH}  (hf : f_Md_mend l1 h = some (r0, h0)) : J mX12_mend true 0 0 0 xKn (xen 0 [xR 81, xI l1]) [] h (xEq (some r0) h0) := by
  unfold f_Md_mend at hf
  refine J_cong (ls2 := [(0, xR 81), (1, xI l1)]) (st2 := []) rfl rfl ?_
  refine J_aload_n 0 dX12_mend_0 rfl rfl ?_
  refine J_bip dX12_mend_1 (by decide) ?_
  refine J_bip dX12_mend_3 (by decide) ?_
  refine J_bip dX12_mend_5 (by decide) ?_
  obtain ⟨r1, h2, hq, hf⟩ := xc2_e hf
  refine J_cVi (Mc := mX12_reads) [xI 32, xI 12, xI 12] dX12_mend_7 (fc_Md_reads.fit ⟨xbl rfl, xbl rfl⟩) rfl ⟨Or.inl xq1294, xq1296, xq90⟩ kO81 (ci := 12) rfl rfl (xbl rfl) (xbl rfl) (jm_Md_reads  hq) ?_
  refine J_istore_n (ls' := [(2, xI r1), (0, xR 81), (1, xI l1)]) dX12_mend_10 rfl (by decide) rfl rfl ?_
  refine J_iload_n 0 dX12_mend_11 rfl rfl ?_
  refine J_if_eq (tgt := 26) dX12_mend_12 (by decide) (fun hc => ?_) (fun hc => ?_)
  · have hf := xip hc hf
    refine J_bip dX12_mend_26 (by decide) ?_
    exact J_ireti dX12_mend_28 rfl (xq_i hf)
  · have hf := xin' hc hf
    refine J_iload_n 2 dX12_mend_15 rfl rfl ?_
    refine J_iconst dX12_mend_16 (by decide) ?_
    refine J_ldcw (v := 99999) dX12_mend_17 xq1403 (by decide) ?_
    obtain ⟨r3, hq, hf⟩ := xc1_e hf
    refine J_cSi (Mc := mX12_in) [xI l1, xI 0, xI 99999] dX12_mend_20 (fc_Md_in.fit ⟨xbl rfl, xbl rfl⟩) rfl ⟨Or.inl xq1283, xq1284⟩ rfl (xbl rfl) (xbl rfl) (jm_Md_in  hq) ?_
    refine J_if_ne (tgt := 29) dX12_mend_23 (by decide) (fun hc => ?_) (fun hc => ?_)
    · have hf := xip hc hf
      refine J_bip dX12_mend_26 (by decide) ?_
      exact J_ireti dX12_mend_28 rfl (xq_i hf)
    · have hf := xin' hc hf
      refine J_iconst dX12_mend_29 (by decide) ?_
      refine J_istore_n (ls' := [(3, xI 0), (2, xI r1), (0, xR 81), (1, xI l1)]) dX12_mend_30 rfl (by decide) rfl rfl ?_
      refine J_sub [2, 3, 0] rfl ?_
      exact j_Md_mend_31  hf
theorem dX12_part_0 : decode cX12_part 0 = .ok (.iload_n 2, 1) := by decide +kernel
theorem dX12_part_1 : decode cX12_part 1 = .ok (.iconst 0, 1) := by decide +kernel
theorem dX12_part_2 : decode cX12_part 2 = .ok (.iconst 4, 1) := by decide +kernel
theorem dX12_part_3 : decode cX12_part 3 = .ok (.invokestatic 215, 3) := by decide +kernel
theorem dX12_part_6 : decode cX12_part 6 = .ok (.ifCond .ne 6, 3) := by decide +kernel
theorem dX12_part_9 : decode cX12_part 9 = .ok (.bipush (-2), 2) := by decide +kernel
theorem dX12_part_11 : decode cX12_part 11 = .ok (.ireturn, 1) := by decide +kernel
theorem dX12_part_12 : decode cX12_part 12 = .ok (.aload_n 0, 1) := by decide +kernel
theorem dX12_part_13 : decode cX12_part 13 = .ok (.getfield 176, 3) := by decide +kernel
theorem dX12_part_16 : decode cX12_part 16 = .ok (.iconst (-1), 1) := by decide +kernel
theorem dX12_part_17 : decode cX12_part 17 = .ok (.if_icmp .ne 19, 3) := by decide +kernel
theorem dX12_part_20 : decode cX12_part 20 = .ok (.iload_n 1, 1) := by decide +kernel
theorem dX12_part_21 : decode cX12_part 21 = .ok (.iconst (-1), 1) := by decide +kernel
theorem dX12_part_22 : decode cX12_part 22 = .ok (.if_icmp .ne 12, 3) := by decide +kernel
theorem dX12_part_25 : decode cX12_part 25 = .ok (.iload_n 2, 1) := by decide +kernel
theorem dX12_part_26 : decode cX12_part 26 = .ok (.iconst 1, 1) := by decide +kernel
theorem dX12_part_27 : decode cX12_part 27 = .ok (.if_icmp .ne 7, 3) := by decide +kernel
theorem dX12_part_30 : decode cX12_part 30 = .ok (.iconst 0, 1) := by decide +kernel
theorem dX12_part_31 : decode cX12_part 31 = .ok (.goto 4, 3) := by decide +kernel
theorem dX12_part_34 : decode cX12_part 34 = .ok (.iconst (-1), 1) := by decide +kernel
theorem dX12_part_35 : decode cX12_part 35 = .ok (.ireturn, 1) := by decide +kernel
theorem dX12_part_36 : decode cX12_part 36 = .ok (.iload_n 1, 1) := by decide +kernel
theorem dX12_part_37 : decode cX12_part 37 = .ok (.iconst (-1), 1) := by decide +kernel
theorem dX12_part_38 : decode cX12_part 38 = .ok (.if_icmp .ne 17, 3) := by decide +kernel
theorem dX12_part_41 : decode cX12_part 41 = .ok (.iload_n 2, 1) := by decide +kernel
theorem dX12_part_42 : decode cX12_part 42 = .ok (.iconst 1, 1) := by decide +kernel
theorem dX12_part_43 : decode cX12_part 43 = .ok (.if_icmp .ne 10, 3) := by decide +kernel
theorem dX12_part_46 : decode cX12_part 46 = .ok (.aload_n 0, 1) := by decide +kernel
theorem dX12_part_47 : decode cX12_part 47 = .ok (.getfield 396, 3) := by decide +kernel
theorem dX12_part_50 : decode cX12_part 50 = .ok (.goto 4, 3) := by decide +kernel
theorem dX12_part_53 : decode cX12_part 53 = .ok (.iconst (-1), 1) := by decide +kernel
theorem dX12_part_54 : decode cX12_part 54 = .ok (.ireturn, 1) := by decide +kernel
theorem dX12_part_55 : decode cX12_part 55 = .ok (.iload_n 1, 1) := by decide +kernel
theorem dX12_part_56 : decode cX12_part 56 = .ok (.iconst 0, 1) := by decide +kernel
theorem dX12_part_57 : decode cX12_part 57 = .ok (.aload_n 0, 1) := by decide +kernel
theorem dX12_part_58 : decode cX12_part 58 = .ok (.getfield 176, 3) := by decide +kernel
theorem dX12_part_61 : decode cX12_part 61 = .ok (.iconst 1, 1) := by decide +kernel
theorem dX12_part_62 : decode cX12_part 62 = .ok (.isub, 1) := by decide +kernel
theorem dX12_part_63 : decode cX12_part 63 = .ok (.invokestatic 215, 3) := by decide +kernel
theorem dX12_part_66 : decode cX12_part 66 = .ok (.ifCond .ne 5, 3) := by decide +kernel
theorem dX12_part_69 : decode cX12_part 69 = .ok (.iconst (-1), 1) := by decide +kernel
theorem dX12_part_70 : decode cX12_part 70 = .ok (.ireturn, 1) := by decide +kernel
theorem dX12_part_71 : decode cX12_part 71 = .ok (.iload_n 2, 1) := by decide +kernel
theorem dX12_part_72 : decode cX12_part 72 = .ok (.ifCond .ne 12, 3) := by decide +kernel
theorem dX12_part_75 : decode cX12_part 75 = .ok (.aload_n 0, 1) := by decide +kernel
theorem dX12_part_76 : decode cX12_part 76 = .ok (.getfield 179, 3) := by decide +kernel
theorem dX12_part_79 : decode cX12_part 79 = .ok (.iload_n 1, 1) := by decide +kernel
theorem dX12_part_80 : decode cX12_part 80 = .ok (.iaload, 1) := by decide +kernel
theorem dX12_part_81 : decode cX12_part 81 = .ok (.goto 51, 3) := by decide +kernel
theorem dX12_part_84 : decode cX12_part 84 = .ok (.iload_n 2, 1) := by decide +kernel
theorem dX12_part_85 : decode cX12_part 85 = .ok (.iconst 1, 1) := by decide +kernel
theorem dX12_part_86 : decode cX12_part 86 = .ok (.if_icmp .ne 12, 3) := by decide +kernel
theorem dX12_part_89 : decode cX12_part 89 = .ok (.aload_n 0, 1) := by decide +kernel
theorem dX12_part_90 : decode cX12_part 90 = .ok (.getfield 182, 3) := by decide +kernel
theorem dX12_part_93 : decode cX12_part 93 = .ok (.iload_n 1, 1) := by decide +kernel
theorem dX12_part_94 : decode cX12_part 94 = .ok (.iaload, 1) := by decide +kernel
theorem dX12_part_95 : decode cX12_part 95 = .ok (.goto 37, 3) := by decide +kernel
theorem dX12_part_98 : decode cX12_part 98 = .ok (.iload_n 2, 1) := by decide +kernel
theorem dX12_part_99 : decode cX12_part 99 = .ok (.iconst 2, 1) := by decide +kernel
theorem dX12_part_100 : decode cX12_part 100 = .ok (.if_icmp .ne 12, 3) := by decide +kernel
theorem dX12_part_103 : decode cX12_part 103 = .ok (.aload_n 0, 1) := by decide +kernel
theorem dX12_part_104 : decode cX12_part 104 = .ok (.getfield 185, 3) := by decide +kernel
theorem dX12_part_107 : decode cX12_part 107 = .ok (.iload_n 1, 1) := by decide +kernel
theorem dX12_part_108 : decode cX12_part 108 = .ok (.iaload, 1) := by decide +kernel
theorem dX12_part_109 : decode cX12_part 109 = .ok (.goto 23, 3) := by decide +kernel
theorem dX12_part_112 : decode cX12_part 112 = .ok (.iload_n 2, 1) := by decide +kernel
theorem dX12_part_113 : decode cX12_part 113 = .ok (.iconst 3, 1) := by decide +kernel
theorem dX12_part_114 : decode cX12_part 114 = .ok (.if_icmp .ne 12, 3) := by decide +kernel
theorem dX12_part_117 : decode cX12_part 117 = .ok (.aload_n 0, 1) := by decide +kernel
theorem dX12_part_118 : decode cX12_part 118 = .ok (.getfield 188, 3) := by decide +kernel
theorem dX12_part_121 : decode cX12_part 121 = .ok (.iload_n 1, 1) := by decide +kernel
theorem dX12_part_122 : decode cX12_part 122 = .ok (.iaload, 1) := by decide +kernel
theorem dX12_part_123 : decode cX12_part 123 = .ok (.goto 9, 3) := by decide +kernel
theorem dX12_part_126 : decode cX12_part 126 = .ok (.aload_n 0, 1) := by decide +kernel
theorem dX12_part_127 : decode cX12_part 127 = .ok (.getfield 191, 3) := by decide +kernel
theorem dX12_part_130 : decode cX12_part 130 = .ok (.iload_n 1, 1) := by decide +kernel
theorem dX12_part_131 : decode cX12_part 131 = .ok (.iaload, 1) := by decide +kernel
theorem dX12_part_132 : decode cX12_part 132 = .ok (.ireturn, 1) := by decide +kernel
theorem jm_Md_part {l1 : Int} {l2 : Int} {h : xH} {r0 : Int}  (hf : f_Md_part l1 l2 h = some r0) : J mX12_part true 0 0 0 xKn (xen 0 [xR 81, xI l1, xI l2]) [] h (xEq (some r0) h) := by
  unfold f_Md_part at hf
  refine J_cong (ls2 := [(0, xR 81), (1, xI l1), (2, xI l2)]) (st2 := []) rfl rfl ?_
  refine J_iload_n 2 dX12_part_0 rfl rfl ?_
  refine J_iconst dX12_part_1 (by decide) ?_
  refine J_iconst dX12_part_2 (by decide) ?_
  obtain ⟨r1, hq, hf⟩ := xc1_e hf
  refine J_cSi (Mc := mX12_in) [xI l2, xI 0, xI 4] dX12_part_3 (fc_Md_in.fit ⟨xbl rfl, xbl rfl⟩) rfl ⟨Or.inl xq1283, xq1284⟩ rfl (xbl rfl) (xbl rfl) (jm_Md_in  hq) ?_
  refine J_if_ne (tgt := 12) dX12_part_6 (by decide) (fun hc => ?_) (fun hc => ?_)
  · have hf := xip hc hf
    refine J_bip dX12_part_9 (by decide) ?_
    exact J_ireti dX12_part_11 rfl (xq_p hf)
  · have hf := xin' hc hf
    refine J_aload_n 0 dX12_part_12 rfl rfl ?_
    refine J_getI (j := 69) xcf12 dX12_part_13 (xK_rg kO81) kO81 (Or.inl xq1089) (by decide) (by decide) ?_
    refine J_iconst dX12_part_16 (by decide) ?_
    refine J_ic_ne (tgt := 36) dX12_part_17 (by decide) (fun hc => ?_) (fun hc => ?_)
    · have hf := xip hc hf
      refine J_iload_n 1 dX12_part_20 rfl rfl ?_
      refine J_iconst dX12_part_21 (by decide) ?_
      refine J_ic_ne (tgt := 34) dX12_part_22 (by decide) (fun hc => ?_) (fun hc => ?_)
      · have hf := xip hc hf
        refine J_iload_n 2 dX12_part_25 rfl rfl ?_
        refine J_iconst dX12_part_26 (by decide) ?_
        refine J_ic_ne (tgt := 34) dX12_part_27 (by decide) (fun hc => ?_) (fun hc => ?_)
        · have hf := xip hc hf
          refine J_iconst dX12_part_30 (by decide) ?_
          refine J_goto (tgt := 35) dX12_part_31 (by decide) ?_
          exact J_ireti dX12_part_35 rfl (xq_p hf)
        · have hf := xin' hc hf
          refine J_iconst dX12_part_34 (by decide) ?_
          exact J_ireti dX12_part_35 rfl (xq_p hf)
      · have hf := xin' hc hf
        refine J_iconst dX12_part_34 (by decide) ?_
        exact J_ireti dX12_part_35 rfl (xq_p hf)
    · have hf := xin' hc hf
      refine J_iload_n 1 dX12_part_36 rfl rfl ?_
      refine J_iconst dX12_part_37 (by decide) ?_
      refine J_ic_ne (tgt := 55) dX12_part_38 (by decide) (fun hc => ?_) (fun hc => ?_)
      · have hf := xip hc hf
        refine J_iload_n 2 dX12_part_41 rfl rfl ?_
        refine J_iconst dX12_part_42 (by decide) ?_
        refine J_ic_ne (tgt := 53) dX12_part_43 (by decide) (fun hc => ?_) (fun hc => ?_)
        · have hf := xip hc hf
          refine J_aload_n 0 dX12_part_46 rfl rfl ?_
          refine J_getI (j := 70) xcf12 dX12_part_47 (xK_rg kO81) kO81 (Or.inl xq1090) (by decide) (by decide) ?_
          refine J_goto (tgt := 54) dX12_part_50 (by decide) ?_
          exact J_ireti dX12_part_54 rfl (xq_p hf)
        · have hf := xin' hc hf
          refine J_iconst dX12_part_53 (by decide) ?_
          exact J_ireti dX12_part_54 rfl (xq_p hf)
      · have hf := xin' hc hf
        refine J_iload_n 1 dX12_part_55 rfl rfl ?_
        refine J_iconst dX12_part_56 (by decide) ?_
        refine J_aload_n 0 dX12_part_57 rfl rfl ?_
        refine J_getI (j := 69) xcf12 dX12_part_58 (xK_rg kO81) kO81 (Or.inl xq1089) (by decide) (by decide) ?_
        refine J_iconst dX12_part_61 (by decide) ?_
        refine J_isub dX12_part_62 ?_
        obtain ⟨r2, hq, hf⟩ := xc1_e hf
        refine J_cSi (Mc := mX12_in) [xI l1, xI 0, xI (w32 ((h 81 69) - 1))] dX12_part_63 (fc_Md_in.fit ⟨xbl rfl, xbl rfl⟩) rfl ⟨Or.inl xq1283, xq1284⟩ rfl (xbl rfl) (xbl rfl) (jm_Md_in  hq) ?_
        refine J_if_ne (tgt := 71) dX12_part_66 (by decide) (fun hc => ?_) (fun hc => ?_)
        · have hf := xip hc hf
          refine J_iconst dX12_part_69 (by decide) ?_
          exact J_ireti dX12_part_70 rfl (xq_p hf)
        · have hf := xin' hc hf
          refine J_iload_n 2 dX12_part_71 rfl rfl ?_
          refine J_if_ne (tgt := 84) dX12_part_72 (by decide) (fun hc => ?_) (fun hc => ?_)
          · have hf := xip hc hf
            refine J_aload_n 0 dX12_part_75 rfl rfl ?_
            refine J_getRl (j := 71) xcf12 dX12_part_76 kO81 (Or.inl xq1091) (by decide) (by decide) rf_81_71 ?_
            refine J_iload_n 1 dX12_part_79 rfl rfl ?_
            obtain ⟨hg, hf⟩ := xgd_e hf
            refine J_iald dX12_part_80 (xK_r1 kO134) kO134 hg nA134 ?_
            refine J_goto (tgt := 132) dX12_part_81 (by decide) ?_
            exact J_ireti dX12_part_132 rfl (xq_p hf)
          · have hf := xin' hc hf
            refine J_iload_n 2 dX12_part_84 rfl rfl ?_
            refine J_iconst dX12_part_85 (by decide) ?_
            refine J_ic_ne (tgt := 98) dX12_part_86 (by decide) (fun hc => ?_) (fun hc => ?_)
            · have hf := xip hc hf
              refine J_aload_n 0 dX12_part_89 rfl rfl ?_
              refine J_getRl (j := 72) xcf12 dX12_part_90 kO81 (Or.inl xq1092) (by decide) (by decide) rf_81_72 ?_
              refine J_iload_n 1 dX12_part_93 rfl rfl ?_
              obtain ⟨hg, hf⟩ := xgd_e hf
              refine J_iald dX12_part_94 (xK_r1 kO135) kO135 hg nA135 ?_
              refine J_goto (tgt := 132) dX12_part_95 (by decide) ?_
              exact J_ireti dX12_part_132 rfl (xq_p hf)
            · have hf := xin' hc hf
              refine J_iload_n 2 dX12_part_98 rfl rfl ?_
              refine J_iconst dX12_part_99 (by decide) ?_
              refine J_ic_ne (tgt := 112) dX12_part_100 (by decide) (fun hc => ?_) (fun hc => ?_)
              · have hf := xip hc hf
                refine J_aload_n 0 dX12_part_103 rfl rfl ?_
                refine J_getRl (j := 73) xcf12 dX12_part_104 kO81 (Or.inl xq1093) (by decide) (by decide) rf_81_73 ?_
                refine J_iload_n 1 dX12_part_107 rfl rfl ?_
                obtain ⟨hg, hf⟩ := xgd_e hf
                refine J_iald dX12_part_108 (xK_r1 kO136) kO136 hg nA136 ?_
                refine J_goto (tgt := 132) dX12_part_109 (by decide) ?_
                exact J_ireti dX12_part_132 rfl (xq_p hf)
              · have hf := xin' hc hf
                refine J_iload_n 2 dX12_part_112 rfl rfl ?_
                refine J_iconst dX12_part_113 (by decide) ?_
                refine J_ic_ne (tgt := 126) dX12_part_114 (by decide) (fun hc => ?_) (fun hc => ?_)
                · have hf := xip hc hf
                  refine J_aload_n 0 dX12_part_117 rfl rfl ?_
                  refine J_getRl (j := 74) xcf12 dX12_part_118 kO81 (Or.inl xq1094) (by decide) (by decide) rf_81_74 ?_
                  refine J_iload_n 1 dX12_part_121 rfl rfl ?_
                  obtain ⟨hg, hf⟩ := xgd_e hf
                  refine J_iald dX12_part_122 (xK_r1 kO137) kO137 hg nA137 ?_
                  refine J_goto (tgt := 132) dX12_part_123 (by decide) ?_
                  exact J_ireti dX12_part_132 rfl (xq_p hf)
                · have hf := xin' hc hf
                  refine J_aload_n 0 dX12_part_126 rfl rfl ?_
                  refine J_getRl (j := 75) xcf12 dX12_part_127 kO81 (Or.inl xq1095) (by decide) (by decide) rf_81_75 ?_
                  refine J_iload_n 1 dX12_part_130 rfl rfl ?_
                  obtain ⟨hg, hf⟩ := xgd_e hf
                  refine J_iald dX12_part_131 (xK_r1 kO138) kO138 hg nA138 ?_
                  exact J_ireti dX12_part_132 rfl (xq_p hf)
theorem dX12_refused_0 : decode cX12_refused 0 = .ok (.aload_n 0, 1) := by decide +kernel
theorem dX12_refused_1 : decode cX12_refused 1 = .ok (.iload_n 1, 1) := by decide +kernel
theorem dX12_refused_2 : decode cX12_refused 2 = .ok (.putfield 399, 3) := by decide +kernel
theorem dX12_refused_5 : decode cX12_refused 5 = .ok (.iconst (-1), 1) := by decide +kernel
theorem dX12_refused_6 : decode cX12_refused 6 = .ok (.ireturn, 1) := by decide +kernel
theorem jm_Md_refused {l1 : Int} {h : xH} {r0 : Int} {h0 : xH}  (hf : f_Md_refused l1 h = some (r0, h0)) : J mX12_refused true 0 0 0 xKn (xen 0 [xR 81, xI l1]) [] h (xEq (some r0) h0) := by
  unfold f_Md_refused at hf
  refine J_cong (ls2 := [(0, xR 81), (1, xI l1)]) (st2 := []) rfl rfl ?_
  refine J_aload_n 0 dX12_refused_0 rfl rfl ?_
  refine J_iload_n 1 dX12_refused_1 rfl rfl ?_
  obtain ⟨h1, eh1, hf⟩ := xlet_e hf
  refine J_putI (j := 82) xcf12 dX12_refused_2 (xK_rg kO81) kO81 (Or.inl xq1102) (by decide) (by decide) eh1 ?_
  refine J_iconst dX12_refused_5 (by decide) ?_
  exact J_ireti dX12_refused_6 rfl (xq_i hf)
theorem dX12_done_0 : decode cX12_done 0 = .ok (.aload_n 0, 1) := by decide +kernel
theorem dX12_done_1 : decode cX12_done 1 = .ok (.iconst 0, 1) := by decide +kernel
theorem dX12_done_2 : decode cX12_done 2 = .ok (.putfield 399, 3) := by decide +kernel
theorem dX12_done_5 : decode cX12_done 5 = .ok (.iload_n 1, 1) := by decide +kernel
theorem dX12_done_6 : decode cX12_done 6 = .ok (.ireturn, 1) := by decide +kernel
theorem jm_Md_done {l1 : Int} {h : xH} {r0 : Int} {h0 : xH}  (hf : f_Md_done l1 h = some (r0, h0)) : J mX12_done true 0 0 0 xKn (xen 0 [xR 81, xI l1]) [] h (xEq (some r0) h0) := by
  unfold f_Md_done at hf
  refine J_cong (ls2 := [(0, xR 81), (1, xI l1)]) (st2 := []) rfl rfl ?_
  refine J_aload_n 0 dX12_done_0 rfl rfl ?_
  refine J_iconst dX12_done_1 (by decide) ?_
  obtain ⟨h1, eh1, hf⟩ := xlet_e hf
  refine J_putI (j := 82) xcf12 dX12_done_2 (xK_rg kO81) kO81 (Or.inl xq1102) (by decide) (by decide) eh1 ?_
  refine J_iload_n 1 dX12_done_5 rfl rfl ?_
  exact J_ireti dX12_done_6 rfl (xq_i hf)
theorem dX12_put_0 : decode cX12_put 0 = .ok (.iload_n 2, 1) := by decide +kernel
theorem dX12_put_1 : decode cX12_put 1 = .ok (.ifCond .eq 51, 3) := by decide +kernel
theorem dX12_put_4 : decode cX12_put 4 = .ok (.iload_n 2, 1) := by decide +kernel
theorem dX12_put_5 : decode cX12_put 5 = .ok (.iconst 3, 1) := by decide +kernel
theorem dX12_put_6 : decode cX12_put 6 = .ok (.if_icmp .eq 46, 3) := by decide +kernel
theorem dX12_put_9 : decode cX12_put 9 = .ok (.iload_n 2, 1) := by decide +kernel
theorem dX12_put_10 : decode cX12_put 10 = .ok (.iconst 1, 1) := by decide +kernel
theorem dX12_put_11 : decode cX12_put 11 = .ok (.if_icmp .eq 8, 3) := by decide +kernel
theorem dX12_put_14 : decode cX12_put 14 = .ok (.iload_n 2, 1) := by decide +kernel
theorem dX12_put_15 : decode cX12_put 15 = .ok (.iconst 4, 1) := by decide +kernel
theorem dX12_put_16 : decode cX12_put 16 = .ok (.if_icmp .ne 17, 3) := by decide +kernel
theorem dX12_put_19 : decode cX12_put 19 = .ok (.iload_n 3, 1) := by decide +kernel
theorem dX12_put_20 : decode cX12_put 20 = .ok (.iconst 0, 1) := by decide +kernel
theorem dX12_put_21 : decode cX12_put 21 = .ok (.aload_n 0, 1) := by decide +kernel
theorem dX12_put_22 : decode cX12_put 22 = .ok (.getfield 234, 3) := by decide +kernel
theorem dX12_put_25 : decode cX12_put 25 = .ok (.iconst 1, 1) := by decide +kernel
theorem dX12_put_26 : decode cX12_put 26 = .ok (.isub, 1) := by decide +kernel
theorem dX12_put_27 : decode cX12_put 27 = .ok (.invokestatic 215, 3) := by decide +kernel
theorem dX12_put_30 : decode cX12_put 30 = .ok (.ifCond .ne 22, 3) := by decide +kernel
theorem dX12_put_33 : decode cX12_put 33 = .ok (.iload_n 2, 1) := by decide +kernel
theorem dX12_put_34 : decode cX12_put 34 = .ok (.iconst 2, 1) := by decide +kernel
theorem dX12_put_35 : decode cX12_put 35 = .ok (.if_icmp .ne 21, 3) := by decide +kernel
theorem dX12_put_38 : decode cX12_put 38 = .ok (.iload_n 3, 1) := by decide +kernel
theorem dX12_put_39 : decode cX12_put 39 = .ok (.iconst 0, 1) := by decide +kernel
theorem dX12_put_40 : decode cX12_put 40 = .ok (.aload_n 0, 1) := by decide +kernel
theorem dX12_put_41 : decode cX12_put 41 = .ok (.getfield 272, 3) := by decide +kernel
theorem dX12_put_44 : decode cX12_put 44 = .ok (.iconst 1, 1) := by decide +kernel
theorem dX12_put_45 : decode cX12_put 45 = .ok (.isub, 1) := by decide +kernel
theorem dX12_put_46 : decode cX12_put 46 = .ok (.invokestatic 215, 3) := by decide +kernel
theorem dX12_put_49 : decode cX12_put 49 = .ok (.ifCond .eq 7, 3) := by decide +kernel
theorem dX12_put_52 : decode cX12_put 52 = .ok (.iconst 1, 1) := by decide +kernel
theorem dX12_put_53 : decode cX12_put 53 = .ok (.goto 4, 3) := by decide +kernel
theorem dX12_put_56 : decode cX12_put 56 = .ok (.iconst 0, 1) := by decide +kernel
theorem dX12_put_57 : decode cX12_put 57 = .ok (.istore 4, 2) := by decide +kernel
theorem dX12_put_59 : decode cX12_put 59 = .ok (.iload_n 1, 1) := by decide +kernel
theorem dX12_put_60 : decode cX12_put 60 = .ok (.iconst 0, 1) := by decide +kernel
theorem dX12_put_61 : decode cX12_put 61 = .ok (.bipush 7, 2) := by decide +kernel
theorem dX12_put_63 : decode cX12_put 63 = .ok (.invokestatic 215, 3) := by decide +kernel
theorem dX12_put_66 : decode cX12_put 66 = .ok (.ifCond .eq 8, 3) := by decide +kernel
theorem dX12_put_69 : decode cX12_put 69 = .ok (.iload 4, 2) := by decide +kernel
theorem dX12_put_71 : decode cX12_put 71 = .ok (.ifCond .ne 9, 3) := by decide +kernel
theorem dX12_put_74 : decode cX12_put 74 = .ok (.aload_n 0, 1) := by decide +kernel
theorem dX12_put_75 : decode cX12_put 75 = .ok (.iconst 1, 1) := by decide +kernel
theorem dX12_put_76 : decode cX12_put 76 = .ok (.invokevirtual 402, 3) := by decide +kernel
theorem dX12_put_79 : decode cX12_put 79 = .ok (.ireturn, 1) := by decide +kernel
theorem dX12_put_80 : decode cX12_put 80 = .ok (.aload_n 0, 1) := by decide +kernel
theorem dX12_put_81 : decode cX12_put 81 = .ok (.getfield 203, 3) := by decide +kernel
theorem dX12_put_84 : decode cX12_put 84 = .ok (.iload_n 1, 1) := by decide +kernel
theorem dX12_put_85 : decode cX12_put 85 = .ok (.iload_n 2, 1) := by decide +kernel
theorem dX12_put_86 : decode cX12_put 86 = .ok (.iastore, 1) := by decide +kernel
theorem dX12_put_87 : decode cX12_put 87 = .ok (.bipush 26, 2) := by decide +kernel
theorem dX12_put_89 : decode cX12_put 89 = .ok (.iload_n 1, 1) := by decide +kernel
theorem dX12_put_90 : decode cX12_put 90 = .ok (.imul, 1) := by decide +kernel
theorem dX12_put_91 : decode cX12_put 91 = .ok (.istore 5, 2) := by decide +kernel
theorem dX12_put_93 : decode cX12_put 93 = .ok (.iload_n 2, 1) := by decide +kernel
theorem dX12_put_94 : decode cX12_put 94 = .ok (.tableswitch 267 1 4 #[30, 87, 142, 188], 30) := by decide +kernel
theorem dX12_put_124 : decode cX12_put 124 = .ok (.aload_n 0, 1) := by decide +kernel
theorem dX12_put_125 : decode cX12_put 125 = .ok (.getfield 206, 3) := by decide +kernel
theorem dX12_put_128 : decode cX12_put 128 = .ok (.iload_n 1, 1) := by decide +kernel
theorem dX12_put_129 : decode cX12_put 129 = .ok (.aload_n 0, 1) := by decide +kernel
theorem dX12_put_130 : decode cX12_put 130 = .ok (.getfield 19, 3) := by decide +kernel
theorem dX12_put_133 : decode cX12_put 133 = .ok (.iload_n 3, 1) := by decide +kernel
theorem dX12_put_134 : decode cX12_put 134 = .ok (.iaload, 1) := by decide +kernel
theorem dX12_put_135 : decode cX12_put 135 = .ok (.iastore, 1) := by decide +kernel
theorem dX12_put_136 : decode cX12_put 136 = .ok (.iconst 0, 1) := by decide +kernel
theorem dX12_put_137 : decode cX12_put 137 = .ok (.istore 6, 2) := by decide +kernel
theorem dX12_put_139 : decode cX12_put 139 = .ok (.iload 6, 2) := by decide +kernel
theorem dX12_put_141 : decode cX12_put 141 = .ok (.aload_n 0, 1) := by decide +kernel
theorem dX12_put_142 : decode cX12_put 142 = .ok (.getfield 19, 3) := by decide +kernel
theorem dX12_put_145 : decode cX12_put 145 = .ok (.iload_n 3, 1) := by decide +kernel
theorem dX12_put_146 : decode cX12_put 146 = .ok (.iaload, 1) := by decide +kernel
theorem dX12_put_147 : decode cX12_put 147 = .ok (.if_icmp .ge 31, 3) := by decide +kernel
theorem dX12_put_150 : decode cX12_put 150 = .ok (.aload_n 0, 1) := by decide +kernel
theorem dX12_put_151 : decode cX12_put 151 = .ok (.getfield 209, 3) := by decide +kernel
theorem dX12_put_154 : decode cX12_put 154 = .ok (.iload 5, 2) := by decide +kernel
theorem dX12_put_156 : decode cX12_put 156 = .ok (.iload 6, 2) := by decide +kernel
theorem dX12_put_158 : decode cX12_put 158 = .ok (.iadd, 1) := by decide +kernel
theorem dX12_put_159 : decode cX12_put 159 = .ok (.aload_n 0, 1) := by decide +kernel
theorem dX12_put_160 : decode cX12_put 160 = .ok (.getfield 22, 3) := by decide +kernel
theorem dX12_put_163 : decode cX12_put 163 = .ok (.bipush 12, 2) := by decide +kernel
theorem dX12_put_165 : decode cX12_put 165 = .ok (.iload_n 3, 1) := by decide +kernel
theorem dX12_put_166 : decode cX12_put 166 = .ok (.imul, 1) := by decide +kernel
theorem dX12_put_167 : decode cX12_put 167 = .ok (.iload 6, 2) := by decide +kernel
theorem dX12_put_169 : decode cX12_put 169 = .ok (.iadd, 1) := by decide +kernel
theorem dX12_put_170 : decode cX12_put 170 = .ok (.iaload, 1) := by decide +kernel
theorem dX12_put_171 : decode cX12_put 171 = .ok (.iastore, 1) := by decide +kernel
theorem dX12_put_172 : decode cX12_put 172 = .ok (.iinc 6 1, 3) := by decide +kernel
theorem dX12_put_175 : decode cX12_put 175 = .ok (.goto (-36), 3) := by decide +kernel
theorem dX12_put_178 : decode cX12_put 178 = .ok (.goto 183, 3) := by decide +kernel
theorem dX12_put_181 : decode cX12_put 181 = .ok (.aload_n 0, 1) := by decide +kernel
theorem dX12_put_182 : decode cX12_put 182 = .ok (.getfield 206, 3) := by decide +kernel
theorem dX12_put_185 : decode cX12_put 185 = .ok (.iload_n 1, 1) := by decide +kernel
theorem dX12_put_186 : decode cX12_put 186 = .ok (.aload_n 0, 1) := by decide +kernel
theorem dX12_put_187 : decode cX12_put 187 = .ok (.getfield 341, 3) := by decide +kernel
theorem dX12_put_190 : decode cX12_put 190 = .ok (.iconst 1, 1) := by decide +kernel
theorem dX12_put_191 : decode cX12_put 191 = .ok (.iadd, 1) := by decide +kernel
theorem dX12_put_192 : decode cX12_put 192 = .ok (.iastore, 1) := by decide +kernel
theorem dX12_put_193 : decode cX12_put 193 = .ok (.iconst 0, 1) := by decide +kernel
theorem dX12_put_194 : decode cX12_put 194 = .ok (.istore 6, 2) := by decide +kernel
theorem dX12_put_196 : decode cX12_put 196 = .ok (.iload 6, 2) := by decide +kernel
theorem dX12_put_198 : decode cX12_put 198 = .ok (.aload_n 0, 1) := by decide +kernel
theorem dX12_put_199 : decode cX12_put 199 = .ok (.getfield 341, 3) := by decide +kernel
theorem dX12_put_202 : decode cX12_put 202 = .ok (.if_icmp .gt 31, 3) := by decide +kernel
theorem dX12_put_205 : decode cX12_put 205 = .ok (.aload_n 0, 1) := by decide +kernel
theorem dX12_put_206 : decode cX12_put 206 = .ok (.getfield 209, 3) := by decide +kernel
theorem dX12_put_209 : decode cX12_put 209 = .ok (.iload 5, 2) := by decide +kernel
theorem dX12_put_211 : decode cX12_put 211 = .ok (.iload 6, 2) := by decide +kernel
theorem dX12_put_213 : decode cX12_put 213 = .ok (.iadd, 1) := by decide +kernel
theorem dX12_put_214 : decode cX12_put 214 = .ok (.aload_n 0, 1) := by decide +kernel
theorem dX12_put_215 : decode cX12_put 215 = .ok (.getfield 119, 3) := by decide +kernel
theorem dX12_put_218 : decode cX12_put 218 = .ok (.bipush 13, 2) := by decide +kernel
theorem dX12_put_220 : decode cX12_put 220 = .ok (.iload_n 3, 1) := by decide +kernel
theorem dX12_put_221 : decode cX12_put 221 = .ok (.imul, 1) := by decide +kernel
theorem dX12_put_222 : decode cX12_put 222 = .ok (.iload 6, 2) := by decide +kernel
theorem dX12_put_224 : decode cX12_put 224 = .ok (.iadd, 1) := by decide +kernel
theorem dX12_put_225 : decode cX12_put 225 = .ok (.iaload, 1) := by decide +kernel
theorem dX12_put_226 : decode cX12_put 226 = .ok (.iastore, 1) := by decide +kernel
theorem dX12_put_227 : decode cX12_put 227 = .ok (.iinc 6 1, 3) := by decide +kernel
theorem dX12_put_230 : decode cX12_put 230 = .ok (.goto (-34), 3) := by decide +kernel
theorem dX12_put_233 : decode cX12_put 233 = .ok (.goto 128, 3) := by decide +kernel
theorem dX12_put_236 : decode cX12_put 236 = .ok (.aload_n 0, 1) := by decide +kernel
theorem dX12_put_237 : decode cX12_put 237 = .ok (.getfield 206, 3) := by decide +kernel
theorem dX12_put_240 : decode cX12_put 240 = .ok (.iload_n 1, 1) := by decide +kernel
theorem dX12_put_241 : decode cX12_put 241 = .ok (.bipush 6, 2) := by decide +kernel
theorem dX12_put_243 : decode cX12_put 243 = .ok (.iastore, 1) := by decide +kernel
theorem dX12_put_244 : decode cX12_put 244 = .ok (.iconst 0, 1) := by decide +kernel
theorem dX12_put_245 : decode cX12_put 245 = .ok (.istore 6, 2) := by decide +kernel
theorem dX12_put_247 : decode cX12_put 247 = .ok (.iload 6, 2) := by decide +kernel
theorem dX12_put_249 : decode cX12_put 249 = .ok (.bipush 6, 2) := by decide +kernel
theorem dX12_put_251 : decode cX12_put 251 = .ok (.if_icmp .ge 28, 3) := by decide +kernel
theorem dX12_put_254 : decode cX12_put 254 = .ok (.aload_n 0, 1) := by decide +kernel
theorem dX12_put_255 : decode cX12_put 255 = .ok (.getfield 209, 3) := by decide +kernel
theorem dX12_put_258 : decode cX12_put 258 = .ok (.iload 5, 2) := by decide +kernel
theorem dX12_put_260 : decode cX12_put 260 = .ok (.iload 6, 2) := by decide +kernel
theorem dX12_put_262 : decode cX12_put 262 = .ok (.iadd, 1) := by decide +kernel
theorem dX12_put_263 : decode cX12_put 263 = .ok (.aload_n 0, 1) := by decide +kernel
theorem dX12_put_264 : decode cX12_put 264 = .ok (.getfield 28, 3) := by decide +kernel
theorem dX12_put_267 : decode cX12_put 267 = .ok (.iload 6, 2) := by decide +kernel
theorem dX12_put_269 : decode cX12_put 269 = .ok (.iconst 1, 1) := by decide +kernel
theorem dX12_put_270 : decode cX12_put 270 = .ok (.iadd, 1) := by decide +kernel
theorem dX12_put_271 : decode cX12_put 271 = .ok (.iaload, 1) := by decide +kernel
theorem dX12_put_272 : decode cX12_put 272 = .ok (.iastore, 1) := by decide +kernel
theorem dX12_put_273 : decode cX12_put 273 = .ok (.iinc 6 1, 3) := by decide +kernel
theorem dX12_put_276 : decode cX12_put 276 = .ok (.goto (-29), 3) := by decide +kernel
theorem dX12_put_279 : decode cX12_put 279 = .ok (.goto 82, 3) := by decide +kernel
theorem dX12_put_282 : decode cX12_put 282 = .ok (.aload_n 0, 1) := by decide +kernel
theorem dX12_put_283 : decode cX12_put 283 = .ok (.getfield 206, 3) := by decide +kernel
theorem dX12_put_286 : decode cX12_put 286 = .ok (.iload_n 1, 1) := by decide +kernel
theorem dX12_put_287 : decode cX12_put 287 = .ok (.bipush 26, 2) := by decide +kernel
theorem dX12_put_289 : decode cX12_put 289 = .ok (.iastore, 1) := by decide +kernel
theorem dX12_put_290 : decode cX12_put 290 = .ok (.iconst 0, 1) := by decide +kernel
theorem dX12_put_291 : decode cX12_put 291 = .ok (.istore 6, 2) := by decide +kernel
theorem dX12_put_293 : decode cX12_put 293 = .ok (.iload 6, 2) := by decide +kernel
theorem dX12_put_295 : decode cX12_put 295 = .ok (.bipush 26, 2) := by decide +kernel
theorem dX12_put_297 : decode cX12_put 297 = .ok (.if_icmp .ge 20, 3) := by decide +kernel
theorem dX12_put_300 : decode cX12_put 300 = .ok (.aload_n 0, 1) := by decide +kernel
theorem dX12_put_301 : decode cX12_put 301 = .ok (.getfield 209, 3) := by decide +kernel
theorem dX12_put_304 : decode cX12_put 304 = .ok (.iload 5, 2) := by decide +kernel
theorem dX12_put_306 : decode cX12_put 306 = .ok (.iload 6, 2) := by decide +kernel
theorem dX12_put_308 : decode cX12_put 308 = .ok (.iadd, 1) := by decide +kernel
theorem dX12_put_309 : decode cX12_put 309 = .ok (.iconst 0, 1) := by decide +kernel
theorem dX12_put_310 : decode cX12_put 310 = .ok (.iastore, 1) := by decide +kernel
theorem dX12_put_311 : decode cX12_put 311 = .ok (.iinc 6 1, 3) := by decide +kernel
theorem dX12_put_314 : decode cX12_put 314 = .ok (.goto (-21), 3) := by decide +kernel
theorem dX12_put_317 : decode cX12_put 317 = .ok (.iconst 0, 1) := by decide +kernel
theorem dX12_put_318 : decode cX12_put 318 = .ok (.istore 6, 2) := by decide +kernel
theorem dX12_put_320 : decode cX12_put 320 = .ok (.iload 6, 2) := by decide +kernel
theorem dX12_put_322 : decode cX12_put 322 = .ok (.aload_n 0, 1) := by decide +kernel
theorem dX12_put_323 : decode cX12_put 323 = .ok (.getfield 19, 3) := by decide +kernel
theorem dX12_put_326 : decode cX12_put 326 = .ok (.iload_n 3, 1) := by decide +kernel
theorem dX12_put_327 : decode cX12_put 327 = .ok (.iaload, 1) := by decide +kernel
theorem dX12_put_328 : decode cX12_put 328 = .ok (.if_icmp .ge 30, 3) := by decide +kernel
theorem dX12_put_331 : decode cX12_put 331 = .ok (.aload_n 0, 1) := by decide +kernel
theorem dX12_put_332 : decode cX12_put 332 = .ok (.getfield 209, 3) := by decide +kernel
theorem dX12_put_335 : decode cX12_put 335 = .ok (.iload 5, 2) := by decide +kernel
theorem dX12_put_337 : decode cX12_put 337 = .ok (.aload_n 0, 1) := by decide +kernel
theorem dX12_put_338 : decode cX12_put 338 = .ok (.getfield 22, 3) := by decide +kernel
theorem dX12_put_341 : decode cX12_put 341 = .ok (.bipush 12, 2) := by decide +kernel
theorem dX12_put_343 : decode cX12_put 343 = .ok (.iload_n 3, 1) := by decide +kernel
theorem dX12_put_344 : decode cX12_put 344 = .ok (.imul, 1) := by decide +kernel
theorem dX12_put_345 : decode cX12_put 345 = .ok (.iload 6, 2) := by decide +kernel
theorem dX12_put_347 : decode cX12_put 347 = .ok (.iadd, 1) := by decide +kernel
theorem dX12_put_348 : decode cX12_put 348 = .ok (.iaload, 1) := by decide +kernel
theorem dX12_put_349 : decode cX12_put 349 = .ok (.iadd, 1) := by decide +kernel
theorem dX12_put_350 : decode cX12_put 350 = .ok (.iconst 1, 1) := by decide +kernel
theorem dX12_put_351 : decode cX12_put 351 = .ok (.iastore, 1) := by decide +kernel
theorem dX12_put_352 : decode cX12_put 352 = .ok (.iinc 6 1, 3) := by decide +kernel
theorem dX12_put_355 : decode cX12_put 355 = .ok (.goto (-35), 3) := by decide +kernel
theorem dX12_put_358 : decode cX12_put 358 = .ok (.goto 3, 3) := by decide +kernel
theorem dX12_put_361 : decode cX12_put 361 = .ok (.aload_n 0, 1) := by decide +kernel
theorem dX12_put_362 : decode cX12_put 362 = .ok (.iconst 1, 1) := by decide +kernel
theorem dX12_put_363 : decode cX12_put 363 = .ok (.invokevirtual 405, 3) := by decide +kernel
theorem dX12_put_366 : decode cX12_put 366 = .ok (.ireturn, 1) := by decide +kernel
theorem j_Md_put_361  {h : xH} {r0 : Int} {h0 : xH}  (hf : f_Md_put_361 h = some (r0, h0))  : J mX12_put true 0 0 361 xKn [(0, xR 81)] [] h (xEq (some r0) h0) := by
  unfold f_Md_put_361 at hf
  refine J_aload_n 0 dX12_put_361 rfl rfl ?_
  refine J_iconst dX12_put_362 (by decide) ?_
  obtain ⟨r1, h2, hq, hf⟩ := xc2_e hf
  refine J_cVi (Mc := mX12_done) [xI 1] dX12_put_363 (fc_Md_done.fit ⟨xbl rfl, xbl rfl⟩) rfl ⟨Or.inl xq1518, xq1520, xq123⟩ kO81 (ci := 12) rfl rfl (xbl rfl) (xbl rfl) (jm_Md_done  hq) ?_
  exact J_ireti dX12_put_366 rfl (xq_i hf)
theorem j_Md_put_358  {h : xH} {r0 : Int} {h0 : xH}  (hf : f_Md_put_358 h = some (r0, h0))  : J mX12_put true 0 0 358 xKn [(0, xR 81)] [] h (xEq (some r0) h0) := by
  unfold f_Md_put_358 at hf
  refine J_goto (tgt := 361) dX12_put_358 (by decide) ?_
  exact j_Md_put_361  hf
theorem j_Md_put_s320 {l3 : Int} {l5 : Int} {l6 : Int} {h : xH} {x : ((Int × xH) ⊕ xH)} {Q : xQ}  (hf : f_Md_put_s320 l3 l5 l6 h = some x) (kb : ∀ (l6' : Int) (h' : xH), x = Sum.inl (l6', h') → J mX12_put true 0 0 320 xKn [(0, xR 81), (3, xI l3), (5, xI l5), (6, xI l6')] [] h' Q) (ke : ∀  (h' : xH), x = (Sum.inr h') → J mX12_put true 0 0 358 xKn [(0, xR 81)] [] h' Q) : J mX12_put true 0 0 320 xKn [(0, xR 81), (3, xI l3), (5, xI l5), (6, xI l6)] [] h Q := by
  unfold f_Md_put_s320 at hf
  refine J_iload 3 dX12_put_320 rfl ?_
  refine J_aload_n 0 dX12_put_322 rfl rfl ?_
  refine J_getRl (j := 6) xcf12 dX12_put_323 kO81 (Or.inl xq1026) (by decide) (by decide) rf_81_6 ?_
  refine J_iload_n 1 dX12_put_326 rfl rfl ?_
  obtain ⟨hg, hf⟩ := xgd_e hf
  refine J_iald dX12_put_327 (xK_r1 kO85) kO85 hg nA85 ?_
  refine J_ic_ge (tgt := 358) dX12_put_328 (by decide) (fun hc => ?_) (fun hc => ?_)
  · have hf := xip hc hf
    refine J_aload_n 0 dX12_put_331 rfl rfl ?_
    refine J_getRl (j := 81) xcf12 dX12_put_332 kO81 (Or.inl xq1101) (by decide) (by decide) rf_81_81 ?_
    refine J_iload 2 dX12_put_335 rfl ?_
    refine J_aload_n 0 dX12_put_337 rfl rfl ?_
    refine J_getRl (j := 7) xcf12 dX12_put_338 kO81 (Or.inl xq1027) (by decide) (by decide) rf_81_7 ?_
    refine J_bip dX12_put_341 (by decide) ?_
    refine J_iload_n 1 dX12_put_343 rfl rfl ?_
    refine J_imul dX12_put_344 ?_
    refine J_iload 3 dX12_put_345 rfl ?_
    refine J_iadd dX12_put_347 ?_
    obtain ⟨hg, hf⟩ := xgd_e hf
    refine J_iald dX12_put_348 (xK_r1 kO86) kO86 hg nA86 ?_
    refine J_iadd dX12_put_349 ?_
    refine J_iconst dX12_put_350 (by decide) ?_
    obtain ⟨hg, hf⟩ := xgd_e hf
    obtain ⟨h1, eh1, hf⟩ := xlet_e hf
    refine J_iast dX12_put_351 (xK_r1 kO144) kO144 hg nA144 eh1 ?_
    obtain ⟨x2, ex2, hf⟩ := xlet_e hf
    refine J_iinc (ls' := [(6, xI x2), (0, xR 81), (3, xI l3), (5, xI l5)]) 3 dX12_put_352 rfl (by decide) ex2 rfl ?_
    refine J_goto (tgt := 320) dX12_put_355 (by decide) ?_
    refine J_sub [1, 2, 3, 0] rfl ?_
    exact kb _ _ (xinl hf)
  · have hf := xin' hc hf
    refine J_sub [0] rfl ?_
    exact ke _ (xinl hf)
theorem j_Md_put_320 {l3 : Int} {l5 : Int} {l6 : Int} {h : xH} {r0 : Int} {h0 : xH}  (hf : f_Md_put_320 l3 l5 l6 h = some (r0, h0))  : J mX12_put true 0 0 320 xKn [(0, xR 81), (3, xI l3), (5, xI l5), (6, xI l6)] [] h (xEq (some r0) h0) := by
  unfold f_Md_put_320 at hf
  obtain ⟨b0, hb0, hf⟩ := xc1_e hf
  refine xloop_ind (P := fun s : (Int × xH) => J mX12_put true 0 0 320 xKn [(0, xR 81), (3, xI l3), (5, xI l5), (6, xI s.1)] [] s.2 (xEq (some r0) h0)) hb0 (fun s x1 hs ib ie => ?_)
  exact j_Md_put_s320  hs (fun _ _ e => ib _ e) (fun _ e => by have := ie _ e; subst this; exact j_Md_put_358  hf)
theorem j_Md_put_317 {l3 : Int} {l5 : Int} {h : xH} {r0 : Int} {h0 : xH}  (hf : f_Md_put_317 l3 l5 h = some (r0, h0))  : J mX12_put true 0 0 317 xKn [(0, xR 81), (3, xI l3), (5, xI l5)] [] h (xEq (some r0) h0) := by
  unfold f_Md_put_317 at hf
  refine J_iconst dX12_put_317 (by decide) ?_
  refine J_istore (ls' := [(6, xI 0), (0, xR 81), (3, xI l3), (5, xI l5)]) dX12_put_318 (by decide) rfl rfl ?_
  refine J_sub [1, 2, 3, 0] rfl ?_
  exact j_Md_put_320  hf
theorem j_Md_put_s293 {l3 : Int} {l5 : Int} {l6 : Int} {h : xH} {x : ((Int × xH) ⊕ xH)} {Q : xQ}  (hf : f_Md_put_s293 l3 l5 l6 h = some x) (kb : ∀ (l6' : Int) (h' : xH), x = Sum.inl (l6', h') → J mX12_put true 0 0 293 xKn [(0, xR 81), (3, xI l3), (5, xI l5), (6, xI l6')] [] h' Q) (ke : ∀  (h' : xH), x = (Sum.inr h') → J mX12_put true 0 0 317 xKn [(0, xR 81), (3, xI l3), (5, xI l5)] [] h' Q) : J mX12_put true 0 0 293 xKn [(0, xR 81), (3, xI l3), (5, xI l5), (6, xI l6)] [] h Q := by
  unfold f_Md_put_s293 at hf
  refine J_iload 3 dX12_put_293 rfl ?_
  refine J_bip dX12_put_295 (by decide) ?_
  refine J_ic_ge (tgt := 317) dX12_put_297 (by decide) (fun hc => ?_) (fun hc => ?_)
  · have hf := xip hc hf
    refine J_aload_n 0 dX12_put_300 rfl rfl ?_
    refine J_getRl (j := 81) xcf12 dX12_put_301 kO81 (Or.inl xq1101) (by decide) (by decide) rf_81_81 ?_
    refine J_iload 2 dX12_put_304 rfl ?_
    refine J_iload 3 dX12_put_306 rfl ?_
    refine J_iadd dX12_put_308 ?_
    refine J_iconst dX12_put_309 (by decide) ?_
    obtain ⟨hg, hf⟩ := xgd_e hf
    obtain ⟨h1, eh1, hf⟩ := xlet_e hf
    refine J_iast dX12_put_310 (xK_r1 kO144) kO144 hg nA144 eh1 ?_
    obtain ⟨x2, ex2, hf⟩ := xlet_e hf
    refine J_iinc (ls' := [(6, xI x2), (0, xR 81), (3, xI l3), (5, xI l5)]) 3 dX12_put_311 rfl (by decide) ex2 rfl ?_
    refine J_goto (tgt := 293) dX12_put_314 (by decide) ?_
    refine J_sub [1, 2, 3, 0] rfl ?_
    exact kb _ _ (xinl hf)
  · have hf := xin' hc hf
    refine J_sub [0, 1, 2] rfl ?_
    exact ke _ (xinl hf)
theorem j_Md_put_293 {l3 : Int} {l5 : Int} {l6 : Int} {h : xH} {r0 : Int} {h0 : xH}  (hf : f_Md_put_293 l3 l5 l6 h = some (r0, h0))  : J mX12_put true 0 0 293 xKn [(0, xR 81), (3, xI l3), (5, xI l5), (6, xI l6)] [] h (xEq (some r0) h0) := by
  unfold f_Md_put_293 at hf
  obtain ⟨b0, hb0, hf⟩ := xc1_e hf
  refine xloop_ind (P := fun s : (Int × xH) => J mX12_put true 0 0 293 xKn [(0, xR 81), (3, xI l3), (5, xI l5), (6, xI s.1)] [] s.2 (xEq (some r0) h0)) hb0 (fun s x1 hs ib ie => ?_)
  exact j_Md_put_s293  hs (fun _ _ e => ib _ e) (fun _ e => by have := ie _ e; subst this; exact j_Md_put_317  hf)
theorem j_Md_put_279  {h : xH} {r0 : Int} {h0 : xH}  (hf : f_Md_put_279 h = some (r0, h0))  : J mX12_put true 0 0 279 xKn [(0, xR 81)] [] h (xEq (some r0) h0) := by
  unfold f_Md_put_279 at hf
  refine J_goto (tgt := 361) dX12_put_279 (by decide) ?_
  exact j_Md_put_361  hf
theorem j_Md_put_s247 {l5 : Int} {l6 : Int} {h : xH} {x : ((Int × xH) ⊕ xH)} {Q : xQ}  (hf : f_Md_put_s247 l5 l6 h = some x) (kb : ∀ (l6' : Int) (h' : xH), x = Sum.inl (l6', h') → J mX12_put true 0 0 247 xKn [(0, xR 81), (5, xI l5), (6, xI l6')] [] h' Q) (ke : ∀  (h' : xH), x = (Sum.inr h') → J mX12_put true 0 0 279 xKn [(0, xR 81)] [] h' Q) : J mX12_put true 0 0 247 xKn [(0, xR 81), (5, xI l5), (6, xI l6)] [] h Q := by
  unfold f_Md_put_s247 at hf
  refine J_iload 2 dX12_put_247 rfl ?_
  refine J_bip dX12_put_249 (by decide) ?_
  refine J_ic_ge (tgt := 279) dX12_put_251 (by decide) (fun hc => ?_) (fun hc => ?_)
  · have hf := xip hc hf
    refine J_aload_n 0 dX12_put_254 rfl rfl ?_
    refine J_getRl (j := 81) xcf12 dX12_put_255 kO81 (Or.inl xq1101) (by decide) (by decide) rf_81_81 ?_
    refine J_iload 1 dX12_put_258 rfl ?_
    refine J_iload 2 dX12_put_260 rfl ?_
    refine J_iadd dX12_put_262 ?_
    refine J_aload_n 0 dX12_put_263 rfl rfl ?_
    refine J_getRl (j := 9) xcf12 dX12_put_264 kO81 (Or.inl xq1029) (by decide) (by decide) rf_81_9 ?_
    refine J_iload 2 dX12_put_267 rfl ?_
    refine J_iconst dX12_put_269 (by decide) ?_
    refine J_iadd dX12_put_270 ?_
    obtain ⟨hg, hf⟩ := xgd_e hf
    refine J_iald dX12_put_271 (xK_r1 kO88) kO88 hg nA88 ?_
    obtain ⟨hg, hf⟩ := xgd_e hf
    obtain ⟨h1, eh1, hf⟩ := xlet_e hf
    refine J_iast dX12_put_272 (xK_r1 kO144) kO144 hg nA144 eh1 ?_
    obtain ⟨x2, ex2, hf⟩ := xlet_e hf
    refine J_iinc (ls' := [(6, xI x2), (0, xR 81), (5, xI l5)]) 2 dX12_put_273 rfl (by decide) ex2 rfl ?_
    refine J_goto (tgt := 247) dX12_put_276 (by decide) ?_
    refine J_sub [1, 2, 0] rfl ?_
    exact kb _ _ (xinl hf)
  · have hf := xin' hc hf
    refine J_sub [0] rfl ?_
    exact ke _ (xinl hf)
theorem j_Md_put_247 {l5 : Int} {l6 : Int} {h : xH} {r0 : Int} {h0 : xH}  (hf : f_Md_put_247 l5 l6 h = some (r0, h0))  : J mX12_put true 0 0 247 xKn [(0, xR 81), (5, xI l5), (6, xI l6)] [] h (xEq (some r0) h0) := by
  unfold f_Md_put_247 at hf
  obtain ⟨b0, hb0, hf⟩ := xc1_e hf
  refine xloop_ind (P := fun s : (Int × xH) => J mX12_put true 0 0 247 xKn [(0, xR 81), (5, xI l5), (6, xI s.1)] [] s.2 (xEq (some r0) h0)) hb0 (fun s x1 hs ib ie => ?_)
  exact j_Md_put_s247  hs (fun _ _ e => ib _ e) (fun _ e => by have := ie _ e; subst this; exact j_Md_put_279  hf)
theorem j_Md_put_233  {h : xH} {r0 : Int} {h0 : xH}  (hf : f_Md_put_233 h = some (r0, h0))  : J mX12_put true 0 0 233 xKn [(0, xR 81)] [] h (xEq (some r0) h0) := by
  unfold f_Md_put_233 at hf
  refine J_goto (tgt := 361) dX12_put_233 (by decide) ?_
  exact j_Md_put_361  hf
theorem j_Md_put_s196 {l3 : Int} {l5 : Int} {l6 : Int} {h : xH} {x : ((Int × xH) ⊕ xH)} {Q : xQ}  (hf : f_Md_put_s196 l3 l5 l6 h = some x) (kb : ∀ (l6' : Int) (h' : xH), x = Sum.inl (l6', h') → J mX12_put true 0 0 196 xKn [(0, xR 81), (3, xI l3), (5, xI l5), (6, xI l6')] [] h' Q) (ke : ∀  (h' : xH), x = (Sum.inr h') → J mX12_put true 0 0 233 xKn [(0, xR 81)] [] h' Q) : J mX12_put true 0 0 196 xKn [(0, xR 81), (3, xI l3), (5, xI l5), (6, xI l6)] [] h Q := by
  unfold f_Md_put_s196 at hf
  refine J_iload 3 dX12_put_196 rfl ?_
  refine J_aload_n 0 dX12_put_198 rfl rfl ?_
  refine J_getI (j := 47) xcf12 dX12_put_199 (xK_rg kO81) kO81 (Or.inl xq1067) (by decide) (by decide) ?_
  refine J_ic_gt (tgt := 233) dX12_put_202 (by decide) (fun hc => ?_) (fun hc => ?_)
  · have hf := xip hc hf
    refine J_sub [0] rfl ?_
    exact ke _ (xinl hf)
  · have hf := xin' hc hf
    refine J_aload_n 0 dX12_put_205 rfl rfl ?_
    refine J_getRl (j := 81) xcf12 dX12_put_206 kO81 (Or.inl xq1101) (by decide) (by decide) rf_81_81 ?_
    refine J_iload 2 dX12_put_209 rfl ?_
    refine J_iload 3 dX12_put_211 rfl ?_
    refine J_iadd dX12_put_213 ?_
    refine J_aload_n 0 dX12_put_214 rfl rfl ?_
    refine J_getRl (j := 46) xcf12 dX12_put_215 kO81 (Or.inl xq1066) (by decide) (by decide) rf_81_46 ?_
    refine J_bip dX12_put_218 (by decide) ?_
    refine J_iload_n 1 dX12_put_220 rfl rfl ?_
    refine J_imul dX12_put_221 ?_
    refine J_iload 3 dX12_put_222 rfl ?_
    refine J_iadd dX12_put_224 ?_
    obtain ⟨hg, hf⟩ := xgd_e hf
    refine J_iald dX12_put_225 (xK_r1 kO115) kO115 hg nA115 ?_
    obtain ⟨hg, hf⟩ := xgd_e hf
    obtain ⟨h1, eh1, hf⟩ := xlet_e hf
    refine J_iast dX12_put_226 (xK_r1 kO144) kO144 hg nA144 eh1 ?_
    obtain ⟨x2, ex2, hf⟩ := xlet_e hf
    refine J_iinc (ls' := [(6, xI x2), (0, xR 81), (3, xI l3), (5, xI l5)]) 3 dX12_put_227 rfl (by decide) ex2 rfl ?_
    refine J_goto (tgt := 196) dX12_put_230 (by decide) ?_
    refine J_sub [1, 2, 3, 0] rfl ?_
    exact kb _ _ (xinl hf)
theorem j_Md_put_196 {l3 : Int} {l5 : Int} {l6 : Int} {h : xH} {r0 : Int} {h0 : xH}  (hf : f_Md_put_196 l3 l5 l6 h = some (r0, h0))  : J mX12_put true 0 0 196 xKn [(0, xR 81), (3, xI l3), (5, xI l5), (6, xI l6)] [] h (xEq (some r0) h0) := by
  unfold f_Md_put_196 at hf
  obtain ⟨b0, hb0, hf⟩ := xc1_e hf
  refine xloop_ind (P := fun s : (Int × xH) => J mX12_put true 0 0 196 xKn [(0, xR 81), (3, xI l3), (5, xI l5), (6, xI s.1)] [] s.2 (xEq (some r0) h0)) hb0 (fun s x1 hs ib ie => ?_)
  exact j_Md_put_s196  hs (fun _ _ e => ib _ e) (fun _ e => by have := ie _ e; subst this; exact j_Md_put_233  hf)
theorem j_Md_put_178  {h : xH} {r0 : Int} {h0 : xH}  (hf : f_Md_put_178 h = some (r0, h0))  : J mX12_put true 0 0 178 xKn [(0, xR 81)] [] h (xEq (some r0) h0) := by
  unfold f_Md_put_178 at hf
  refine J_goto (tgt := 361) dX12_put_178 (by decide) ?_
  exact j_Md_put_361  hf
theorem j_Md_put_s139 {l3 : Int} {l5 : Int} {l6 : Int} {h : xH} {x : ((Int × xH) ⊕ xH)} {Q : xQ}  (hf : f_Md_put_s139 l3 l5 l6 h = some x) (kb : ∀ (l6' : Int) (h' : xH), x = Sum.inl (l6', h') → J mX12_put true 0 0 139 xKn [(0, xR 81), (3, xI l3), (5, xI l5), (6, xI l6')] [] h' Q) (ke : ∀  (h' : xH), x = (Sum.inr h') → J mX12_put true 0 0 178 xKn [(0, xR 81)] [] h' Q) : J mX12_put true 0 0 139 xKn [(0, xR 81), (3, xI l3), (5, xI l5), (6, xI l6)] [] h Q := by
  unfold f_Md_put_s139 at hf
  refine J_iload 3 dX12_put_139 rfl ?_
  refine J_aload_n 0 dX12_put_141 rfl rfl ?_
  refine J_getRl (j := 6) xcf12 dX12_put_142 kO81 (Or.inl xq1026) (by decide) (by decide) rf_81_6 ?_
  refine J_iload_n 1 dX12_put_145 rfl rfl ?_
  obtain ⟨hg, hf⟩ := xgd_e hf
  refine J_iald dX12_put_146 (xK_r1 kO85) kO85 hg nA85 ?_
  refine J_ic_ge (tgt := 178) dX12_put_147 (by decide) (fun hc => ?_) (fun hc => ?_)
  · have hf := xip hc hf
    refine J_aload_n 0 dX12_put_150 rfl rfl ?_
    refine J_getRl (j := 81) xcf12 dX12_put_151 kO81 (Or.inl xq1101) (by decide) (by decide) rf_81_81 ?_
    refine J_iload 2 dX12_put_154 rfl ?_
    refine J_iload 3 dX12_put_156 rfl ?_
    refine J_iadd dX12_put_158 ?_
    refine J_aload_n 0 dX12_put_159 rfl rfl ?_
    refine J_getRl (j := 7) xcf12 dX12_put_160 kO81 (Or.inl xq1027) (by decide) (by decide) rf_81_7 ?_
    refine J_bip dX12_put_163 (by decide) ?_
    refine J_iload_n 1 dX12_put_165 rfl rfl ?_
    refine J_imul dX12_put_166 ?_
    refine J_iload 3 dX12_put_167 rfl ?_
    refine J_iadd dX12_put_169 ?_
    obtain ⟨hg, hf⟩ := xgd_e hf
    refine J_iald dX12_put_170 (xK_r1 kO86) kO86 hg nA86 ?_
    obtain ⟨hg, hf⟩ := xgd_e hf
    obtain ⟨h1, eh1, hf⟩ := xlet_e hf
    refine J_iast dX12_put_171 (xK_r1 kO144) kO144 hg nA144 eh1 ?_
    obtain ⟨x2, ex2, hf⟩ := xlet_e hf
    refine J_iinc (ls' := [(6, xI x2), (0, xR 81), (3, xI l3), (5, xI l5)]) 3 dX12_put_172 rfl (by decide) ex2 rfl ?_
    refine J_goto (tgt := 139) dX12_put_175 (by decide) ?_
    refine J_sub [1, 2, 3, 0] rfl ?_
    exact kb _ _ (xinl hf)
  · have hf := xin' hc hf
    refine J_sub [0] rfl ?_
    exact ke _ (xinl hf)
theorem j_Md_put_139 {l3 : Int} {l5 : Int} {l6 : Int} {h : xH} {r0 : Int} {h0 : xH}  (hf : f_Md_put_139 l3 l5 l6 h = some (r0, h0))  : J mX12_put true 0 0 139 xKn [(0, xR 81), (3, xI l3), (5, xI l5), (6, xI l6)] [] h (xEq (some r0) h0) := by
  unfold f_Md_put_139 at hf
  obtain ⟨b0, hb0, hf⟩ := xc1_e hf
  refine xloop_ind (P := fun s : (Int × xH) => J mX12_put true 0 0 139 xKn [(0, xR 81), (3, xI l3), (5, xI l5), (6, xI s.1)] [] s.2 (xEq (some r0) h0)) hb0 (fun s x1 hs ib ie => ?_)
  exact j_Md_put_s139  hs (fun _ _ e => ib _ e) (fun _ e => by have := ie _ e; subst this; exact j_Md_put_178  hf)
theorem j_Md_put_74  {h : xH} {r0 : Int} {h0 : xH}  (hf : f_Md_put_74 h = some (r0, h0))  : J mX12_put true 0 0 74 xKn [(0, xR 81)] [] h (xEq (some r0) h0) := by
  unfold f_Md_put_74 at hf
  refine J_aload_n 0 dX12_put_74 rfl rfl ?_
  refine J_iconst dX12_put_75 (by decide) ?_
  obtain ⟨r1, h2, hq, hf⟩ := xc2_e hf
  refine J_cVi (Mc := mX12_refused) [xI 1] dX12_put_76 (fc_Md_refused.fit ⟨xbl rfl, xbl rfl⟩) rfl ⟨Or.inl xq1514, xq1516, xq122⟩ kO81 (ci := 12) rfl rfl (xbl rfl) (xbl rfl) (jm_Md_refused  hq) ?_
  exact J_ireti dX12_put_79 rfl (xq_i hf)
theorem j_Md_put_57 {l1 : Int} {l2 : Int} {l3 : Int} {s0 : Int} {h : xH} {r0 : Int} {h0 : xH}  (hf : f_Md_put_57 l1 l2 l3 s0 h = some (r0, h0))  : J mX12_put true 0 0 57 xKn [(0, xR 81), (1, xI l1), (2, xI l2), (3, xI l3)] [xI s0] h (xEq (some r0) h0) := by
  unfold f_Md_put_57 at hf
  refine J_istore (ls' := [(4, xI s0), (0, xR 81), (1, xI l1), (2, xI l2), (3, xI l3)]) dX12_put_57 (by decide) rfl rfl ?_
  refine J_iload_n 2 dX12_put_59 rfl rfl ?_
  refine J_iconst dX12_put_60 (by decide) ?_
  refine J_bip dX12_put_61 (by decide) ?_
  obtain ⟨r1, hq, hf⟩ := xc1_e hf
  refine J_cSi (Mc := mX12_in) [xI l1, xI 0, xI 7] dX12_put_63 (fc_Md_in.fit ⟨xbl rfl, xbl rfl⟩) rfl ⟨Or.inl xq1283, xq1284⟩ rfl (xbl rfl) (xbl rfl) (jm_Md_in  hq) ?_
  refine J_if_eq (tgt := 74) dX12_put_66 (by decide) (fun hc => ?_) (fun hc => ?_)
  · have hf := xip hc hf
    refine J_sub [1] rfl ?_
    exact j_Md_put_74  hf
  · have hf := xin' hc hf
    refine J_iload 0 dX12_put_69 rfl ?_
    refine J_if_ne (tgt := 80) dX12_put_71 (by decide) (fun hc => ?_) (fun hc => ?_)
    · have hf := xip hc hf
      refine J_sub [1] rfl ?_
      exact j_Md_put_74  hf
    · have hf := xin' hc hf
      refine J_aload_n 1 dX12_put_80 rfl rfl ?_
      refine J_getRl (j := 79) xcf12 dX12_put_81 kO81 (Or.inl xq1099) (by decide) (by decide) rf_81_79 ?_
      refine J_iload_n 2 dX12_put_84 rfl rfl ?_
      refine J_iload_n 3 dX12_put_85 rfl rfl ?_
      obtain ⟨hg, hf⟩ := xgd_e hf
      obtain ⟨h2, eh2, hf⟩ := xlet_e hf
      refine J_iast dX12_put_86 (xK_r1 kO142) kO142 hg nA142 eh2 ?_
      refine J_bip dX12_put_87 (by decide) ?_
      refine J_iload_n 2 dX12_put_89 rfl rfl ?_
      refine J_imul dX12_put_90 ?_
      obtain ⟨x3, ex3, hf⟩ := xlet_e hf
      refine J_istore (ls' := [(5, xI x3), (4, xI s0), (0, xR 81), (1, xI l1), (2, xI l2), (3, xI l3)]) dX12_put_91 (by decide) ex3 rfl ?_
      refine J_iload_n 4 dX12_put_93 rfl rfl ?_
      refine J_by (c := l2 = 1) (fun hc1 => ?_) (fun hc1 => ?_)
      · have hf := xip hc1 hf
        refine J_tswIn (tgt := 124) dX12_put_94 1 hc1 (by decide) (by decide) rfl (by decide) ?_
        refine J_aload_n 2 dX12_put_124 rfl rfl ?_
        refine J_getRl (j := 80) xcf12 dX12_put_125 kO81 (Or.inl xq1100) (by decide) (by decide) rf_81_80 ?_
        refine J_iload_n 3 dX12_put_128 rfl rfl ?_
        refine J_aload_n 2 dX12_put_129 rfl rfl ?_
        refine J_getRl (j := 6) xcf12 dX12_put_130 kO81 (Or.inl xq1026) (by decide) (by decide) rf_81_6 ?_
        refine J_iload_n 5 dX12_put_133 rfl rfl ?_
        obtain ⟨hg, hf⟩ := xgd_e hf
        refine J_iald dX12_put_134 (xK_r1 kO85) kO85 hg nA85 ?_
        obtain ⟨hg, hf⟩ := xgd_e hf
        obtain ⟨h4, eh4, hf⟩ := xlet_e hf
        refine J_iast dX12_put_135 (xK_r1 kO143) kO143 hg nA143 eh4 ?_
        refine J_iconst dX12_put_136 (by decide) ?_
        refine J_istore (ls' := [(6, xI 0), (5, xI x3), (4, xI s0), (0, xR 81), (1, xI l1), (2, xI l2), (3, xI l3)]) dX12_put_137 (by decide) rfl rfl ?_
        refine J_sub [3, 6, 1, 0] rfl ?_
        exact j_Md_put_139  hf
      · have hf := xin' hc1 hf
        refine J_by (c := l2 = 2) (fun hc2 => ?_) (fun hc2 => ?_)
        · have hf := xip hc2 hf
          refine J_tswIn (tgt := 181) dX12_put_94 2 hc2 (by decide) (by decide) rfl (by decide) ?_
          refine J_aload_n 2 dX12_put_181 rfl rfl ?_
          refine J_getRl (j := 80) xcf12 dX12_put_182 kO81 (Or.inl xq1100) (by decide) (by decide) rf_81_80 ?_
          refine J_iload_n 3 dX12_put_185 rfl rfl ?_
          refine J_aload_n 2 dX12_put_186 rfl rfl ?_
          refine J_getI (j := 47) xcf12 dX12_put_187 (xK_rg kO81) kO81 (Or.inl xq1067) (by decide) (by decide) ?_
          refine J_iconst dX12_put_190 (by decide) ?_
          refine J_iadd dX12_put_191 ?_
          obtain ⟨hg, hf⟩ := xgd_e hf
          obtain ⟨h5, eh5, hf⟩ := xlet_e hf
          refine J_iast dX12_put_192 (xK_r1 kO143) kO143 hg nA143 eh5 ?_
          refine J_iconst dX12_put_193 (by decide) ?_
          refine J_istore (ls' := [(6, xI 0), (5, xI x3), (4, xI s0), (0, xR 81), (1, xI l1), (2, xI l2), (3, xI l3)]) dX12_put_194 (by decide) rfl rfl ?_
          refine J_sub [3, 6, 1, 0] rfl ?_
          exact j_Md_put_196  hf
        · have hf := xin' hc2 hf
          refine J_by (c := l2 = 3) (fun hc3 => ?_) (fun hc3 => ?_)
          · have hf := xip hc3 hf
            refine J_tswIn (tgt := 236) dX12_put_94 3 hc3 (by decide) (by decide) rfl (by decide) ?_
            refine J_aload_n 2 dX12_put_236 rfl rfl ?_
            refine J_getRl (j := 80) xcf12 dX12_put_237 kO81 (Or.inl xq1100) (by decide) (by decide) rf_81_80 ?_
            refine J_iload_n 3 dX12_put_240 rfl rfl ?_
            refine J_bip dX12_put_241 (by decide) ?_
            obtain ⟨hg, hf⟩ := xgd_e hf
            obtain ⟨h6, eh6, hf⟩ := xlet_e hf
            refine J_iast dX12_put_243 (xK_r1 kO143) kO143 hg nA143 eh6 ?_
            refine J_iconst dX12_put_244 (by decide) ?_
            refine J_istore (ls' := [(6, xI 0), (5, xI x3), (4, xI s0), (0, xR 81), (1, xI l1), (2, xI l2), (3, xI l3)]) dX12_put_245 (by decide) rfl rfl ?_
            refine J_sub [3, 1, 0] rfl ?_
            exact j_Md_put_247  hf
          · have hf := xin' hc3 hf
            refine J_by (c := l2 = 4) (fun hc4 => ?_) (fun hc4 => ?_)
            · have hf := xip hc4 hf
              refine J_tswIn (tgt := 282) dX12_put_94 4 hc4 (by decide) (by decide) rfl (by decide) ?_
              refine J_aload_n 2 dX12_put_282 rfl rfl ?_
              refine J_getRl (j := 80) xcf12 dX12_put_283 kO81 (Or.inl xq1100) (by decide) (by decide) rf_81_80 ?_
              refine J_iload_n 3 dX12_put_286 rfl rfl ?_
              refine J_bip dX12_put_287 (by decide) ?_
              obtain ⟨hg, hf⟩ := xgd_e hf
              obtain ⟨h7, eh7, hf⟩ := xlet_e hf
              refine J_iast dX12_put_289 (xK_r1 kO143) kO143 hg nA143 eh7 ?_
              refine J_iconst dX12_put_290 (by decide) ?_
              refine J_istore (ls' := [(6, xI 0), (5, xI x3), (4, xI s0), (0, xR 81), (1, xI l1), (2, xI l2), (3, xI l3)]) dX12_put_291 (by decide) rfl rfl ?_
              refine J_sub [3, 6, 1, 0] rfl ?_
              exact j_Md_put_293  hf
            · have hf := xin' hc4 hf
              refine J_tswOut (tgt := 361) dX12_put_94 (by omega) (by decide) ?_
              refine J_sub [2] rfl ?_
              exact j_Md_put_361  hf
theorem j_Md_put_56 {l1 : Int} {l2 : Int} {l3 : Int} {h : xH} {r0 : Int} {h0 : xH}  (hf : f_Md_put_56 l1 l2 l3 h = some (r0, h0))  : J mX12_put true 0 0 56 xKn [(0, xR 81), (1, xI l1), (2, xI l2), (3, xI l3)] [] h (xEq (some r0) h0) := by
  unfold f_Md_put_56 at hf
  refine J_iconst dX12_put_56 (by decide) ?_
  exact j_Md_put_57  hf
theorem j_Md_put_52 {l1 : Int} {l2 : Int} {l3 : Int} {h : xH} {r0 : Int} {h0 : xH}  (hf : f_Md_put_52 l1 l2 l3 h = some (r0, h0))  : J mX12_put true 0 0 52 xKn [(0, xR 81), (1, xI l1), (2, xI l2), (3, xI l3)] [] h (xEq (some r0) h0) := by
  unfold f_Md_put_52 at hf
  refine J_iconst dX12_put_52 (by decide) ?_
  refine J_goto (tgt := 57) dX12_put_53 (by decide) ?_
  exact j_Md_put_57  hf
theorem j_Md_put_33 {l1 : Int} {l2 : Int} {l3 : Int} {h : xH} {r0 : Int} {h0 : xH}  (hf : f_Md_put_33 l1 l2 l3 h = some (r0, h0))  : J mX12_put true 0 0 33 xKn [(0, xR 81), (1, xI l1), (2, xI l2), (3, xI l3)] [] h (xEq (some r0) h0) := by
  unfold f_Md_put_33 at hf
  refine J_iload_n 2 dX12_put_33 rfl rfl ?_
  refine J_iconst dX12_put_34 (by decide) ?_
  refine J_ic_ne (tgt := 56) dX12_put_35 (by decide) (fun hc => ?_) (fun hc => ?_)
  · have hf := xip hc hf
    refine J_iload_n 3 dX12_put_38 rfl rfl ?_
    refine J_iconst dX12_put_39 (by decide) ?_
    refine J_aload_n 0 dX12_put_40 rfl rfl ?_
    refine J_getI (j := 39) xcf12 dX12_put_41 (xK_rg kO81) kO81 (Or.inl xq1059) (by decide) (by decide) ?_
    refine J_iconst dX12_put_44 (by decide) ?_
    refine J_isub dX12_put_45 ?_
    obtain ⟨r1, hq, hf⟩ := xc1_e hf
    refine J_cSi (Mc := mX12_in) [xI l3, xI 0, xI (w32 ((h 81 39) - 1))] dX12_put_46 (fc_Md_in.fit ⟨xbl rfl, xbl rfl⟩) rfl ⟨Or.inl xq1283, xq1284⟩ rfl (xbl rfl) (xbl rfl) (jm_Md_in  hq) ?_
    refine J_if_eq (tgt := 56) dX12_put_49 (by decide) (fun hc => ?_) (fun hc => ?_)
    · have hf := xip hc hf
      exact j_Md_put_56  hf
    · have hf := xin' hc hf
      exact j_Md_put_52  hf
  · have hf := xin' hc hf
    exact j_Md_put_56  hf
theorem j_Md_put_19 {l1 : Int} {l2 : Int} {l3 : Int} {h : xH} {r0 : Int} {h0 : xH}  (hf : f_Md_put_19 l1 l2 l3 h = some (r0, h0))  : J mX12_put true 0 0 19 xKn [(0, xR 81), (1, xI l1), (2, xI l2), (3, xI l3)] [] h (xEq (some r0) h0) := by
  unfold f_Md_put_19 at hf
  refine J_iload_n 3 dX12_put_19 rfl rfl ?_
  refine J_iconst dX12_put_20 (by decide) ?_
  refine J_aload_n 0 dX12_put_21 rfl rfl ?_
  refine J_getI (j := 5) xcf12 dX12_put_22 (xK_rg kO81) kO81 (Or.inl xq1025) (by decide) (by decide) ?_
  refine J_iconst dX12_put_25 (by decide) ?_
  refine J_isub dX12_put_26 ?_
  obtain ⟨r1, hq, hf⟩ := xc1_e hf
  refine J_cSi (Mc := mX12_in) [xI l3, xI 0, xI (w32 ((h 81 5) - 1))] dX12_put_27 (fc_Md_in.fit ⟨xbl rfl, xbl rfl⟩) rfl ⟨Or.inl xq1283, xq1284⟩ rfl (xbl rfl) (xbl rfl) (jm_Md_in  hq) ?_
  refine J_if_ne (tgt := 52) dX12_put_30 (by decide) (fun hc => ?_) (fun hc => ?_)
  · have hf := xip hc hf
    exact j_Md_put_33  hf
  · have hf := xin' hc hf
    exact j_Md_put_52  hf
theorem jm_Md_put {l1 : Int} {l2 : Int} {l3 : Int} {h : xH} {r0 : Int} {h0 : xH}  (hf : f_Md_put l1 l2 l3 h = some (r0, h0)) : J mX12_put true 0 0 0 xKn (xen 0 [xR 81, xI l1, xI l2, xI l3]) [] h (xEq (some r0) h0) := by
  unfold f_Md_put at hf
  refine J_cong (ls2 := [(0, xR 81), (1, xI l1), (2, xI l2), (3, xI l3)]) (st2 := []) rfl rfl ?_
  refine J_iload_n 2 dX12_put_0 rfl rfl ?_
  refine J_if_eq (tgt := 52) dX12_put_1 (by decide) (fun hc => ?_) (fun hc => ?_)
  · have hf := xip hc hf
    exact j_Md_put_52  hf
  · have hf := xin' hc hf
    refine J_iload_n 2 dX12_put_4 rfl rfl ?_
    refine J_iconst dX12_put_5 (by decide) ?_
    refine J_ic_eq (tgt := 52) dX12_put_6 (by decide) (fun hc => ?_) (fun hc => ?_)
    · have hf := xip hc hf
      exact j_Md_put_52  hf
    · have hf := xin' hc hf
      refine J_iload_n 2 dX12_put_9 rfl rfl ?_
      refine J_iconst dX12_put_10 (by decide) ?_
      refine J_ic_eq (tgt := 19) dX12_put_11 (by decide) (fun hc => ?_) (fun hc => ?_)
      · have hf := xip hc hf
        exact j_Md_put_19  hf
      · have hf := xin' hc hf
        refine J_iload_n 2 dX12_put_14 rfl rfl ?_
        refine J_iconst dX12_put_15 (by decide) ?_
        refine J_ic_ne (tgt := 33) dX12_put_16 (by decide) (fun hc => ?_) (fun hc => ?_)
        · have hf := xip hc hf
          exact j_Md_put_19  hf
        · have hf := xin' hc hf
          exact j_Md_put_33  hf
