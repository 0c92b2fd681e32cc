/-! the machine follows the functions -/
theorem dX8_work_0 : decode cX8_work 0 = .ok (.iload_n 1, 1) := by decide +kernel
theorem dX8_work_1 : decode cX8_work 1 = .ok (.ifCond .lt 21, 3) := by decide +kernel
theorem dX8_work_4 : decode cX8_work 4 = .ok (.iload_n 1, 1) := by decide +kernel
theorem dX8_work_5 : decode cX8_work 5 = .ok (.bipush 8, 2) := by decide +kernel
theorem dX8_work_7 : decode cX8_work 7 = .ok (.if_icmp .ge 15, 3) := by decide +kernel
theorem dX8_work_10 : decode cX8_work 10 = .ok (.iload_n 3, 1) := by decide +kernel
theorem dX8_work_11 : decode cX8_work 11 = .ok (.bipush (-100), 2) := by decide +kernel
theorem dX8_work_13 : decode cX8_work 13 = .ok (.if_icmp .lt 9, 3) := by decide +kernel
theorem dX8_work_16 : decode cX8_work 16 = .ok (.iload_n 3, 1) := by decide +kernel
theorem dX8_work_17 : decode cX8_work 17 = .ok (.bipush 100, 2) := by decide +kernel
theorem dX8_work_19 : decode cX8_work 19 = .ok (.if_icmp .le 9, 3) := by decide +kernel
theorem dX8_work_22 : decode cX8_work 22 = .ok (.aload_n 0, 1) := by decide +kernel
theorem dX8_work_23 : decode cX8_work 23 = .ok (.iconst 1, 1) := by decide +kernel
theorem dX8_work_24 : decode cX8_work 24 = .ok (.invokevirtual 25, 3) := by decide +kernel
theorem dX8_work_27 : decode cX8_work 27 = .ok (.ireturn, 1) := by decide +kernel
theorem dX8_work_28 : decode cX8_work 28 = .ok (.iload_n 2, 1) := by decide +kernel
theorem dX8_work_29 : decode cX8_work 29 = .ok (.tableswitch 145 0 8 #[51, 59, 67, 75, 83, 102, 109, 115, 138], 51) := by decide +kernel
theorem dX8_work_80 : decode cX8_work 80 = .ok (.aload_n 0, 1) := by decide +kernel
theorem dX8_work_81 : decode cX8_work 81 = .ok (.iload_n 1, 1) := by decide +kernel
theorem dX8_work_82 : decode cX8_work 82 = .ok (.iconst 1, 1) := by decide +kernel
theorem dX8_work_83 : decode cX8_work 83 = .ok (.iload_n 3, 1) := by decide +kernel
theorem dX8_work_84 : decode cX8_work 84 = .ok (.invokevirtual 29, 3) := by decide +kernel
theorem dX8_work_87 : decode cX8_work 87 = .ok (.ireturn, 1) := by decide +kernel
theorem dX8_work_88 : decode cX8_work 88 = .ok (.aload_n 0, 1) := by decide +kernel
theorem dX8_work_89 : decode cX8_work 89 = .ok (.iload_n 1, 1) := by decide +kernel
theorem dX8_work_90 : decode cX8_work 90 = .ok (.iconst 2, 1) := by decide +kernel
theorem dX8_work_91 : decode cX8_work 91 = .ok (.iload_n 3, 1) := by decide +kernel
theorem dX8_work_92 : decode cX8_work 92 = .ok (.invokevirtual 29, 3) := by decide +kernel
theorem dX8_work_95 : decode cX8_work 95 = .ok (.ireturn, 1) := by decide +kernel
theorem dX8_work_96 : decode cX8_work 96 = .ok (.aload_n 0, 1) := by decide +kernel
theorem dX8_work_97 : decode cX8_work 97 = .ok (.iload_n 1, 1) := by decide +kernel
theorem dX8_work_98 : decode cX8_work 98 = .ok (.iconst 3, 1) := by decide +kernel
theorem dX8_work_99 : decode cX8_work 99 = .ok (.iload_n 3, 1) := by decide +kernel
theorem dX8_work_100 : decode cX8_work 100 = .ok (.invokevirtual 29, 3) := by decide +kernel
theorem dX8_work_103 : decode cX8_work 103 = .ok (.ireturn, 1) := by decide +kernel
theorem dX8_work_104 : decode cX8_work 104 = .ok (.aload_n 0, 1) := by decide +kernel
theorem dX8_work_105 : decode cX8_work 105 = .ok (.iload_n 1, 1) := by decide +kernel
theorem dX8_work_106 : decode cX8_work 106 = .ok (.iconst 4, 1) := by decide +kernel
theorem dX8_work_107 : decode cX8_work 107 = .ok (.iload_n 3, 1) := by decide +kernel
theorem dX8_work_108 : decode cX8_work 108 = .ok (.invokevirtual 29, 3) := by decide +kernel
theorem dX8_work_111 : decode cX8_work 111 = .ok (.ireturn, 1) := by decide +kernel
theorem dX8_work_112 : decode cX8_work 112 = .ok (.iload_n 3, 1) := by decide +kernel
theorem dX8_work_113 : decode cX8_work 113 = .ok (.ifCond .ge 12, 3) := by decide +kernel
theorem dX8_work_116 : decode cX8_work 116 = .ok (.aload_n 0, 1) := by decide +kernel
theorem dX8_work_117 : decode cX8_work 117 = .ok (.bipush 13, 2) := by decide +kernel
theorem dX8_work_119 : decode cX8_work 119 = .ok (.invokevirtual 25, 3) := by decide +kernel
theorem dX8_work_122 : decode cX8_work 122 = .ok (.goto 8, 3) := by decide +kernel
theorem dX8_work_125 : decode cX8_work 125 = .ok (.aload_n 0, 1) := by decide +kernel
theorem dX8_work_126 : decode cX8_work 126 = .ok (.iload_n 3, 1) := by decide +kernel
theorem dX8_work_127 : decode cX8_work 127 = .ok (.invokevirtual 33, 3) := by decide +kernel
theorem dX8_work_130 : decode cX8_work 130 = .ok (.ireturn, 1) := by decide +kernel
theorem dX8_work_131 : decode cX8_work 131 = .ok (.aload_n 0, 1) := by decide +kernel
theorem dX8_work_132 : decode cX8_work 132 = .ok (.iload_n 1, 1) := by decide +kernel
theorem dX8_work_133 : decode cX8_work 133 = .ok (.iload_n 3, 1) := by decide +kernel
theorem dX8_work_134 : decode cX8_work 134 = .ok (.invokevirtual 36, 3) := by decide +kernel
theorem dX8_work_137 : decode cX8_work 137 = .ok (.ireturn, 1) := by decide +kernel
theorem dX8_work_138 : decode cX8_work 138 = .ok (.aload_n 0, 1) := by decide +kernel
theorem dX8_work_139 : decode cX8_work 139 = .ok (.iload_n 1, 1) := by decide +kernel
theorem dX8_work_140 : decode cX8_work 140 = .ok (.invokevirtual 40, 3) := by decide +kernel
theorem dX8_work_143 : decode cX8_work 143 = .ok (.ireturn, 1) := by decide +kernel
theorem dX8_work_144 : decode cX8_work 144 = .ok (.iload_n 3, 1) := by decide +kernel
theorem dX8_work_145 : decode cX8_work 145 = .ok (.ifCond .ne 12, 3) := by decide +kernel
theorem dX8_work_148 : decode cX8_work 148 = .ok (.aload_n 0, 1) := by decide +kernel
theorem dX8_work_149 : decode cX8_work 149 = .ok (.bipush 15, 2) := by decide +kernel
theorem dX8_work_151 : decode cX8_work 151 = .ok (.invokevirtual 25, 3) := by decide +kernel
theorem dX8_work_154 : decode cX8_work 154 = .ok (.goto 12, 3) := by decide +kernel
theorem dX8_work_157 : decode cX8_work 157 = .ok (.aload_n 0, 1) := by decide +kernel
theorem dX8_work_158 : decode cX8_work 158 = .ok (.sipush 1000, 3) := by decide +kernel
theorem dX8_work_161 : decode cX8_work 161 = .ok (.iload_n 3, 1) := by decide +kernel
theorem dX8_work_162 : decode cX8_work 162 = .ok (.idiv, 1) := by decide +kernel
theorem dX8_work_163 : decode cX8_work 163 = .ok (.invokevirtual 33, 3) := by decide +kernel
theorem dX8_work_166 : decode cX8_work 166 = .ok (.ireturn, 1) := by decide +kernel
theorem dX8_work_167 : decode cX8_work 167 = .ok (.aload_n 0, 1) := by decide +kernel
theorem dX8_work_168 : decode cX8_work 168 = .ok (.bipush 10, 2) := by decide +kernel
theorem dX8_work_170 : decode cX8_work 170 = .ok (.invokevirtual 25, 3) := by decide +kernel
theorem dX8_work_173 : decode cX8_work 173 = .ok (.ireturn, 1) := by decide +kernel
theorem dX8_work_174 : decode cX8_work 174 = .ok (.aload_n 0, 1) := by decide +kernel
theorem dX8_work_175 : decode cX8_work 175 = .ok (.iconst 1, 1) := by decide +kernel
theorem dX8_work_176 : decode cX8_work 176 = .ok (.invokevirtual 25, 3) := by decide +kernel
theorem dX8_work_179 : decode cX8_work 179 = .ok (.ireturn, 1) := by decide +kernel
theorem j_Trays_work_22  {h : xH} {r0 : Int} {h0 : xH}  (hf : f_Trays_work_22 h = some (r0, h0))  : J mX8_work true 0 0 22 xKn [(0, xR 77)] [] h (xEq (some r0) h0) := by
  unfold f_Trays_work_22 at hf
  refine J_aload_n 0 dX8_work_22 rfl rfl ?_
  refine J_iconst dX8_work_23 (by decide) ?_
  obtain ⟨r1, h2, hq, hf⟩ := xc2_e hf
  refine J_cVi (Mc := mX8_refuse) [xI 1] dX8_work_24 (fc_Trays_refuse.fit ⟨xbl rfl, xbl rfl⟩) rfl ⟨Or.inl xq991, xq952, xq76⟩ kO77 (ci := 8) rfl rfl (xbl rfl) (xbl rfl) (jm_Trays_refuse  hq) ?_
  exact J_ireti dX8_work_27 rfl (xq_i hf)
theorem jm_Trays_work {l1 : Int} {l2 : Int} {l3 : Int} {h : xH} {r0 : Int} {h0 : xH}  (hf : f_Trays_work l1 l2 l3 h = some (r0, h0)) : J mX8_work true 0 0 0 xKn (xen 0 [xR 77, xI l1, xI l2, xI l3]) [] h (xEq (some r0) h0) := by
  unfold f_Trays_work at hf
  refine J_cong (ls2 := [(0, xR 77), (1, xI l1), (2, xI l2), (3, xI l3)]) (st2 := []) rfl rfl ?_
  refine J_iload_n 1 dX8_work_0 rfl rfl ?_
  refine J_if_lt (tgt := 22) dX8_work_1 (by decide) (fun hc => ?_) (fun hc => ?_)
  · have hf := xip hc hf
    refine J_sub [0] rfl ?_
    exact j_Trays_work_22  hf
  · have hf := xin' hc hf
    refine J_iload_n 1 dX8_work_4 rfl rfl ?_
    refine J_bip dX8_work_5 (by decide) ?_
    refine J_ic_ge (tgt := 22) dX8_work_7 (by decide) (fun hc => ?_) (fun hc => ?_)
    · have hf := xip hc hf
      refine J_iload_n 3 dX8_work_10 rfl rfl ?_
      refine J_bip dX8_work_11 (by decide) ?_
      refine J_ic_lt (tgt := 22) dX8_work_13 (by decide) (fun hc => ?_) (fun hc => ?_)
      · have hf := xip hc hf
        refine J_sub [0] rfl ?_
        exact j_Trays_work_22  hf
      · have hf := xin' hc hf
        refine J_iload_n 3 dX8_work_16 rfl rfl ?_
        refine J_bip dX8_work_17 (by decide) ?_
        refine J_ic_le (tgt := 28) dX8_work_19 (by decide) (fun hc => ?_) (fun hc => ?_)
        · have hf := xip hc hf
          refine J_sub [0] rfl ?_
          exact j_Trays_work_22  hf
        · have hf := xin' hc hf
          refine J_iload_n 2 dX8_work_28 rfl rfl ?_
          refine J_by (c := l2 = 0) (fun hc0 => ?_) (fun hc0 => ?_)
          · have hf := xip hc0 hf
            refine J_tswIn (tgt := 80) dX8_work_29 0 hc0 (by decide) (by decide) rfl (by decide) ?_
            refine J_aload_n 0 dX8_work_80 rfl rfl ?_
            refine J_iload_n 1 dX8_work_81 rfl rfl ?_
            refine J_iconst dX8_work_82 (by decide) ?_
            refine J_iload_n 3 dX8_work_83 rfl rfl ?_
            obtain ⟨r1, h2, hq, hf⟩ := xc2_e hf
            refine J_cVi (Mc := mX8_read) [xI l1, xI 1, xI l3] dX8_work_84 (fc_Trays_read.fit ⟨xbl rfl, xbl rfl⟩) rfl ⟨Or.inl xq992, xq994, xq85⟩ kO77 (ci := 8) rfl rfl (xbl rfl) (xbl rfl) (jm_Trays_read  hq) ?_
            exact J_ireti dX8_work_87 rfl (xq_i hf)
          · have hf := xin' hc0 hf
            refine J_by (c := l2 = 1) (fun hc1 => ?_) (fun hc1 => ?_)
            · have hf := xip hc1 hf
              refine J_tswIn (tgt := 88) dX8_work_29 1 hc1 (by decide) (by decide) rfl (by decide) ?_
              refine J_aload_n 0 dX8_work_88 rfl rfl ?_
              refine J_iload_n 1 dX8_work_89 rfl rfl ?_
              refine J_iconst dX8_work_90 (by decide) ?_
              refine J_iload_n 3 dX8_work_91 rfl rfl ?_
              obtain ⟨r3, h4, hq, hf⟩ := xc2_e hf
              refine J_cVi (Mc := mX8_read) [xI l1, xI 2, xI l3] dX8_work_92 (fc_Trays_read.fit ⟨xbl rfl, xbl rfl⟩) rfl ⟨Or.inl xq992, xq994, xq85⟩ kO77 (ci := 8) rfl rfl (xbl rfl) (xbl rfl) (jm_Trays_read  hq) ?_
              exact J_ireti dX8_work_95 rfl (xq_i hf)
            · have hf := xin' hc1 hf
              refine J_by (c := l2 = 2) (fun hc2 => ?_) (fun hc2 => ?_)
              · have hf := xip hc2 hf
                refine J_tswIn (tgt := 96) dX8_work_29 2 hc2 (by decide) (by decide) rfl (by decide) ?_
                refine J_aload_n 0 dX8_work_96 rfl rfl ?_
                refine J_iload_n 1 dX8_work_97 rfl rfl ?_
                refine J_iconst dX8_work_98 (by decide) ?_
                refine J_iload_n 3 dX8_work_99 rfl rfl ?_
                obtain ⟨r5, h6, hq, hf⟩ := xc2_e hf
                refine J_cVi (Mc := mX8_read) [xI l1, xI 3, xI l3] dX8_work_100 (fc_Trays_read.fit ⟨xbl rfl, xbl rfl⟩) rfl ⟨Or.inl xq992, xq994, xq85⟩ kO77 (ci := 8) rfl rfl (xbl rfl) (xbl rfl) (jm_Trays_read  hq) ?_
                exact J_ireti dX8_work_103 rfl (xq_i hf)
              · have hf := xin' hc2 hf
                refine J_by (c := l2 = 3) (fun hc3 => ?_) (fun hc3 => ?_)
                · have hf := xip hc3 hf
                  refine J_tswIn (tgt := 104) dX8_work_29 3 hc3 (by decide) (by decide) rfl (by decide) ?_
                  refine J_aload_n 0 dX8_work_104 rfl rfl ?_
                  refine J_iload_n 1 dX8_work_105 rfl rfl ?_
                  refine J_iconst dX8_work_106 (by decide) ?_
                  refine J_iload_n 3 dX8_work_107 rfl rfl ?_
                  obtain ⟨r7, h8, hq, hf⟩ := xc2_e hf
                  refine J_cVi (Mc := mX8_read) [xI l1, xI 4, xI l3] dX8_work_108 (fc_Trays_read.fit ⟨xbl rfl, xbl rfl⟩) rfl ⟨Or.inl xq992, xq994, xq85⟩ kO77 (ci := 8) rfl rfl (xbl rfl) (xbl rfl) (jm_Trays_read  hq) ?_
                  exact J_ireti dX8_work_111 rfl (xq_i hf)
                · have hf := xin' hc3 hf
                  refine J_by (c := l2 = 4) (fun hc4 => ?_) (fun hc4 => ?_)
                  · have hf := xip hc4 hf
                    refine J_tswIn (tgt := 112) dX8_work_29 4 hc4 (by decide) (by decide) rfl (by decide) ?_
                    refine J_iload_n 3 dX8_work_112 rfl rfl ?_
                    refine J_if_ge (tgt := 125) dX8_work_113 (by decide) (fun hc => ?_) (fun hc => ?_)
                    · have hf := xip hc hf
                      refine J_aload_n 0 dX8_work_116 rfl rfl ?_
                      refine J_bip dX8_work_117 (by decide) ?_
                      obtain ⟨r9, h10, hq, hf⟩ := xc2_e hf
                      refine J_cVi (Mc := mX8_refuse) [xI 13] dX8_work_119 (fc_Trays_refuse.fit ⟨xbl rfl, xbl rfl⟩) rfl ⟨Or.inl xq991, xq952, xq76⟩ kO77 (ci := 8) rfl rfl (xbl rfl) (xbl rfl) (jm_Trays_refuse  hq) ?_
                      refine J_goto (tgt := 130) dX8_work_122 (by decide) ?_
                      exact J_ireti dX8_work_130 rfl (xq_i hf)
                    · have hf := xin' hc hf
                      refine J_aload_n 0 dX8_work_125 rfl rfl ?_
                      refine J_iload_n 3 dX8_work_126 rfl rfl ?_
                      obtain ⟨r11, h12, hq, hf⟩ := xc2_e hf
                      refine J_cVi (Mc := mX8_done) [xI l3] dX8_work_127 (fc_Trays_done.fit ⟨xbl rfl, xbl rfl⟩) rfl ⟨Or.inl xq1001, xq981, xq83⟩ kO77 (ci := 8) rfl rfl (xbl rfl) (xbl rfl) (jm_Trays_done  hq) ?_
                      exact J_ireti dX8_work_130 rfl (xq_i hf)
                  · have hf := xin' hc4 hf
                    refine J_by (c := l2 = 5) (fun hc5 => ?_) (fun hc5 => ?_)
                    · have hf := xip hc5 hf
                      refine J_tswIn (tgt := 131) dX8_work_29 5 hc5 (by decide) (by decide) rfl (by decide) ?_
                      refine J_aload_n 0 dX8_work_131 rfl rfl ?_
                      refine J_iload_n 1 dX8_work_132 rfl rfl ?_
                      refine J_iload_n 3 dX8_work_133 rfl rfl ?_
                      obtain ⟨r13, h14, hq, hf⟩ := xc2_e hf
                      refine J_cVi (Mc := mX8_copy) [xI l1, xI l3] dX8_work_134 (fc_Trays_copy.fit ⟨xbl rfl, xbl rfl⟩) rfl ⟨Or.inl xq1002, xq1004, xq87⟩ kO77 (ci := 8) rfl rfl (xbl rfl) (xbl rfl) (jm_Trays_copy  hq) ?_
                      exact J_ireti dX8_work_137 rfl (xq_i hf)
                    · have hf := xin' hc5 hf
                      refine J_by (c := l2 = 6) (fun hc6 => ?_) (fun hc6 => ?_)
                      · have hf := xip hc6 hf
                        refine J_tswIn (tgt := 138) dX8_work_29 6 hc6 (by decide) (by decide) rfl (by decide) ?_
                        refine J_aload_n 0 dX8_work_138 rfl rfl ?_
                        refine J_iload_n 1 dX8_work_139 rfl rfl ?_
                        obtain ⟨r15, h16, hq, hf⟩ := xc2_e hf
                        refine J_cVi (Mc := mX8_layAmongStates) [xI l1] dX8_work_140 (fc_Trays_layAmongStates.fit ⟨xbl rfl, xbl rfl⟩) rfl ⟨Or.inl xq1006, xq1008, xq88⟩ kO77 (ci := 8) rfl rfl (xbl rfl) (xbl rfl) (jm_Trays_layAmongStates  hq) ?_
                        exact J_ireti dX8_work_143 rfl (xq_i hf)
                      · have hf := xin' hc6 hf
                        refine J_by (c := l2 = 7) (fun hc7 => ?_) (fun hc7 => ?_)
                        · have hf := xip hc7 hf
                          refine J_tswIn (tgt := 144) dX8_work_29 7 hc7 (by decide) (by decide) rfl (by decide) ?_
                          refine J_iload_n 3 dX8_work_144 rfl rfl ?_
                          refine J_if_ne (tgt := 157) dX8_work_145 (by decide) (fun hc => ?_) (fun hc => ?_)
                          · have hf := xip hc hf
                            refine J_aload_n 0 dX8_work_148 rfl rfl ?_
                            refine J_bip dX8_work_149 (by decide) ?_
                            obtain ⟨r17, h18, hq, hf⟩ := xc2_e hf
                            refine J_cVi (Mc := mX8_refuse) [xI 15] dX8_work_151 (fc_Trays_refuse.fit ⟨xbl rfl, xbl rfl⟩) rfl ⟨Or.inl xq991, xq952, xq76⟩ kO77 (ci := 8) rfl rfl (xbl rfl) (xbl rfl) (jm_Trays_refuse  hq) ?_
                            refine J_goto (tgt := 166) dX8_work_154 (by decide) ?_
                            exact J_ireti dX8_work_166 rfl (xq_i hf)
                          · have hf := xin' hc hf
                            refine J_aload_n 0 dX8_work_157 rfl rfl ?_
                            refine J_sip dX8_work_158 (by decide) ?_
                            refine J_iload_n 3 dX8_work_161 rfl rfl ?_
                            obtain ⟨hy, hf⟩ := xgp_e hf
                            refine J_idiv dX8_work_162 hy ?_
                            obtain ⟨r19, h20, hq, hf⟩ := xc2_e hf
                            refine J_cVi (Mc := mX8_done) [xI (xdiv 1000 l3)] dX8_work_163 (fc_Trays_done.fit ⟨xbl rfl, xbl rfl⟩) rfl ⟨Or.inl xq1001, xq981, xq83⟩ kO77 (ci := 8) rfl rfl (xbl rfl) (xbl rfl) (jm_Trays_done  hq) ?_
                            exact J_ireti dX8_work_166 rfl (xq_i hf)
                        · have hf := xin' hc7 hf
                          refine J_by (c := l2 = 8) (fun hc8 => ?_) (fun hc8 => ?_)
                          · have hf := xip hc8 hf
                            refine J_tswIn (tgt := 167) dX8_work_29 8 hc8 (by decide) (by decide) rfl (by decide) ?_
                            refine J_aload_n 0 dX8_work_167 rfl rfl ?_
                            refine J_bip dX8_work_168 (by decide) ?_
                            obtain ⟨r21, h22, hq, hf⟩ := xc2_e hf
                            refine J_cVi (Mc := mX8_refuse) [xI 10] dX8_work_170 (fc_Trays_refuse.fit ⟨xbl rfl, xbl rfl⟩) rfl ⟨Or.inl xq991, xq952, xq76⟩ kO77 (ci := 8) rfl rfl (xbl rfl) (xbl rfl) (jm_Trays_refuse  hq) ?_
                            exact J_ireti dX8_work_173 rfl (xq_i hf)
                          · have hf := xin' hc8 hf
                            refine J_tswOut (tgt := 174) dX8_work_29 (by omega) (by decide) ?_
                            refine J_aload_n 0 dX8_work_174 rfl rfl ?_
                            refine J_iconst dX8_work_175 (by decide) ?_
                            obtain ⟨r23, h24, hq, hf⟩ := xc2_e hf
                            refine J_cVi (Mc := mX8_refuse) [xI 1] dX8_work_176 (fc_Trays_refuse.fit ⟨xbl rfl, xbl rfl⟩) rfl ⟨Or.inl xq991, xq952, xq76⟩ kO77 (ci := 8) rfl rfl (xbl rfl) (xbl rfl) (jm_Trays_refuse  hq) ?_
                            exact J_ireti dX8_work_179 rfl (xq_i hf)
    · have hf := xin' hc hf
      refine J_sub [0] rfl ?_
      exact j_Trays_work_22  hf
theorem dX11_forge_0 : decode cX11_forge 0 = .ok (.aload_n 0, 1) := by decide +kernel
theorem dX11_forge_1 : decode cX11_forge 1 = .ok (.getfield 105, 3) := by decide +kernel
theorem dX11_forge_4 : decode cX11_forge 4 = .ok (.iload_n 1, 1) := by decide +kernel
theorem dX11_forge_5 : decode cX11_forge 5 = .ok (.iload_n 2, 1) := by decide +kernel
theorem dX11_forge_6 : decode cX11_forge 6 = .ok (.iload_n 3, 1) := by decide +kernel
theorem dX11_forge_7 : decode cX11_forge 7 = .ok (.invokevirtual 296, 3) := by decide +kernel
theorem dX11_forge_10 : decode cX11_forge 10 = .ok (.ireturn, 1) := by decide +kernel
theorem jm_WM_forge {l1 : Int} {l2 : Int} {l3 : Int} {h : xH} {r0 : Int} {h0 : xH}  (hf : f_WM_forge l1 l2 l3 h = some (r0, h0)) : J mX11_forge true 0 0 0 xKn (xen 0 [xR 1, xI l1, xI l2, xI l3]) [] h (xEq (some r0) h0) := by
  unfold f_WM_forge at hf
  refine J_cong (ls2 := [(0, xR 1), (1, xI l1), (2, xI l2), (3, xI l3)]) (st2 := []) rfl rfl ?_
  refine J_aload_n 0 dX11_forge_0 rfl rfl ?_
  refine J_getRl (j := 16) xcf11 dX11_forge_1 kO1 (Or.inl xq451) (by decide) (by decide) rf_1_16 ?_
  refine J_iload_n 1 dX11_forge_4 rfl rfl ?_
  refine J_iload_n 2 dX11_forge_5 rfl rfl ?_
  refine J_iload_n 3 dX11_forge_6 rfl rfl ?_
  obtain ⟨r1, h2, hq, hf⟩ := xc2_e hf
  refine J_cVi (Mc := mX8_work) [xI l1, xI l2, xI l3] dX11_forge_7 (fc_Trays_work.fit ⟨xbl rfl, xbl rfl⟩) rfl ⟨Or.inr ⟨_, xq987⟩, xq989, xq84⟩ kO77 (ci := 8) rfl rfl (xbl rfl) (xbl rfl) (jm_Trays_work  hq) ?_
  exact J_ireti dX11_forge_10 rfl (xq_i hf)
theorem dX11_status_0 : decode cX11_status 0 = .ok (.aload_n 0, 1) := by decide +kernel
theorem dX11_status_1 : decode cX11_status 1 = .ok (.getfield 105, 3) := by decide +kernel
theorem dX11_status_4 : decode cX11_status 4 = .ok (.getfield 300, 3) := by decide +kernel
theorem dX11_status_7 : decode cX11_status 7 = .ok (.ireturn, 1) := by decide +kernel
theorem jm_WM_status  {h : xH} {r0 : Int}  (hf : f_WM_status h = some r0) : J mX11_status true 0 0 0 xKn (xen 0 [xR 1]) [] h (xEq (some r0) h) := by
  unfold f_WM_status at hf
  refine J_cong (ls2 := [(0, xR 1)]) (st2 := []) rfl rfl ?_
  refine J_aload_n 0 dX11_status_0 rfl rfl ?_
  refine J_getRl (j := 16) xcf11 dX11_status_1 kO1 (Or.inl xq451) (by decide) (by decide) rf_1_16 ?_
  refine J_getI (j := 3) xcf8 dX11_status_4 (xK_rg kO77) kO77 (Or.inr ⟨_, xq425⟩) (by decide) (by decide) ?_
  exact J_ireti dX11_status_7 rfl (xq_p hf)
theorem dX12_in_0 : decode cX12_in 0 = .ok (.iload_n 0, 1) := by decide +kernel
theorem dX12_in_1 : decode cX12_in 1 = .ok (.iload_n 1, 1) := by decide +kernel
theorem dX12_in_2 : decode cX12_in 2 = .ok (.if_icmp .lt 12, 3) := by decide +kernel
theorem dX12_in_5 : decode cX12_in 5 = .ok (.iload_n 0, 1) := by decide +kernel
theorem dX12_in_6 : decode cX12_in 6 = .ok (.iload_n 2, 1) := by decide +kernel
theorem dX12_in_7 : decode cX12_in 7 = .ok (.if_icmp .gt 7, 3) := by decide +kernel
theorem dX12_in_10 : decode cX12_in 10 = .ok (.iconst 1, 1) := by decide +kernel
theorem dX12_in_11 : decode cX12_in 11 = .ok (.goto 4, 3) := by decide +kernel
theorem dX12_in_14 : decode cX12_in 14 = .ok (.iconst 0, 1) := by decide +kernel
theorem dX12_in_15 : decode cX12_in 15 = .ok (.ireturn, 1) := by decide +kernel
theorem jm_Md_in {l0 : Int} {l1 : Int} {l2 : Int} {h : xH} {r0 : Int}  (hf : f_Md_in l0 l1 l2 h = some r0) : J mX12_in true 0 0 0 xKn (xen 0 [xI l0, xI l1, xI l2]) [] h (xEq (some r0) h) := by
  unfold f_Md_in at hf
  refine J_cong (ls2 := [(0, xI l0), (1, xI l1), (2, xI l2)]) (st2 := []) rfl rfl ?_
  refine J_iload_n 0 dX12_in_0 rfl rfl ?_
  refine J_iload_n 1 dX12_in_1 rfl rfl ?_
  refine J_ic_lt (tgt := 14) dX12_in_2 (by decide) (fun hc => ?_) (fun hc => ?_)
  · have hf := xip hc hf
    refine J_iconst dX12_in_14 (by decide) ?_
    exact J_iretz dX12_in_15 rfl (by decide) (xq_p hf)
  · have hf := xin' hc hf
    refine J_iload_n 0 dX12_in_5 rfl rfl ?_
    refine J_iload_n 2 dX12_in_6 rfl rfl ?_
    refine J_ic_gt (tgt := 14) dX12_in_7 (by decide) (fun hc => ?_) (fun hc => ?_)
    · have hf := xip hc hf
      refine J_iconst dX12_in_14 (by decide) ?_
      exact J_iretz dX12_in_15 rfl (by decide) (xq_p hf)
    · have hf := xin' hc hf
      refine J_iconst dX12_in_10 (by decide) ?_
      refine J_goto (tgt := 15) dX12_in_11 (by decide) ?_
      exact J_iretz dX12_in_15 rfl (by decide) (xq_p hf)
theorem dX12_min_0 : decode cX12_min 0 = .ok (.iload_n 0, 1) := by decide +kernel
theorem dX12_min_1 : decode cX12_min 1 = .ok (.iload_n 1, 1) := by decide +kernel
theorem dX12_min_2 : decode cX12_min 2 = .ok (.if_icmp .ge 7, 3) := by decide +kernel
theorem dX12_min_5 : decode cX12_min 5 = .ok (.iload_n 0, 1) := by decide +kernel
theorem dX12_min_6 : decode cX12_min 6 = .ok (.goto 4, 3) := by decide +kernel
theorem dX12_min_9 : decode cX12_min 9 = .ok (.iload_n 1, 1) := by decide +kernel
theorem dX12_min_10 : decode cX12_min 10 = .ok (.ireturn, 1) := by decide +kernel
theorem jm_Md_min {l0 : Int} {l1 : Int} {h : xH} {r0 : Int}  (hf : f_Md_min l0 l1 h = some r0) : J mX12_min true 0 0 0 xKn (xen 0 [xI l0, xI l1]) [] h (xEq (some r0) h) := by
  unfold f_Md_min at hf
  refine J_cong (ls2 := [(0, xI l0), (1, xI l1)]) (st2 := []) rfl rfl ?_
  refine J_iload_n 0 dX12_min_0 rfl rfl ?_
  refine J_iload_n 1 dX12_min_1 rfl rfl ?_
  refine J_ic_ge (tgt := 9) dX12_min_2 (by decide) (fun hc => ?_) (fun hc => ?_)
  · have hf := xip hc hf
    refine J_iload_n 0 dX12_min_5 rfl rfl ?_
    refine J_goto (tgt := 10) dX12_min_6 (by decide) ?_
    exact J_ireti dX12_min_10 rfl (xq_p hf)
  · have hf := xin' hc hf
    refine J_iload_n 1 dX12_min_9 rfl rfl ?_
    exact J_ireti dX12_min_10 rfl (xq_p hf)
theorem dX12_feed_0 : decode cX12_feed 0 = .ok (.iload_n 1, 1) := by decide +kernel
theorem dX12_feed_1 : decode cX12_feed 1 = .ok (.iconst 1, 1) := by decide +kernel
theorem dX12_feed_2 : decode cX12_feed 2 = .ok (.bipush 8, 2) := by decide +kernel
theorem dX12_feed_4 : decode cX12_feed 4 = .ok (.invokestatic 215, 3) := by decide +kernel
theorem dX12_feed_7 : decode cX12_feed 7 = .ok (.ifCond .ne 6, 3) := by decide +kernel
theorem dX12_feed_10 : decode cX12_feed 10 = .ok (.bipush (-2), 2) := by decide +kernel
theorem dX12_feed_12 : decode cX12_feed 12 = .ok (.ireturn, 1) := by decide +kernel
theorem dX12_feed_13 : decode cX12_feed 13 = .ok (.aload_n 0, 1) := by decide +kernel
theorem dX12_feed_14 : decode cX12_feed 14 = .ok (.getfield 219, 3) := by decide +kernel
theorem dX12_feed_17 : decode cX12_feed 17 = .ok (.iload_n 1, 1) := by decide +kernel
theorem dX12_feed_18 : decode cX12_feed 18 = .ok (.iadd, 1) := by decide +kernel
theorem dX12_feed_19 : decode cX12_feed 19 = .ok (.sipush 240, 3) := by decide +kernel
theorem dX12_feed_22 : decode cX12_feed 22 = .ok (.if_icmp .le 6, 3) := by decide +kernel
theorem dX12_feed_25 : decode cX12_feed 25 = .ok (.bipush (-4), 2) := by decide +kernel
theorem dX12_feed_27 : decode cX12_feed 27 = .ok (.ireturn, 1) := by decide +kernel
theorem dX12_feed_28 : decode cX12_feed 28 = .ok (.iconst 0, 1) := by decide +kernel
theorem dX12_feed_29 : decode cX12_feed 29 = .ok (.istore 4, 2) := by decide +kernel
theorem dX12_feed_31 : decode cX12_feed 31 = .ok (.iload 4, 2) := by decide +kernel
theorem dX12_feed_33 : decode cX12_feed 33 = .ok (.iload_n 1, 1) := by decide +kernel
theorem dX12_feed_34 : decode cX12_feed 34 = .ok (.if_icmp .ge 37, 3) := by decide +kernel
theorem dX12_feed_37 : decode cX12_feed 37 = .ok (.aload_n 0, 1) := by decide +kernel
theorem dX12_feed_38 : decode cX12_feed 38 = .ok (.getfield 7, 3) := by decide +kernel
theorem dX12_feed_41 : decode cX12_feed 41 = .ok (.aload_n 0, 1) := by decide +kernel
theorem dX12_feed_42 : decode cX12_feed 42 = .ok (.dup, 1) := by decide +kernel
theorem dX12_feed_43 : decode cX12_feed 43 = .ok (.getfield 219, 3) := by decide +kernel
theorem dX12_feed_46 : decode cX12_feed 46 = .ok (.dup_x1, 1) := by decide +kernel
theorem dX12_feed_47 : decode cX12_feed 47 = .ok (.iconst 1, 1) := by decide +kernel
theorem dX12_feed_48 : decode cX12_feed 48 = .ok (.iadd, 1) := by decide +kernel
theorem dX12_feed_49 : decode cX12_feed 49 = .ok (.putfield 219, 3) := by decide +kernel
theorem dX12_feed_52 : decode cX12_feed 52 = .ok (.lload_n 2, 1) := by decide +kernel
theorem dX12_feed_53 : decode cX12_feed 53 = .ok (.bipush 8, 2) := by decide +kernel
theorem dX12_feed_55 : decode cX12_feed 55 = .ok (.iload 4, 2) := by decide +kernel
theorem dX12_feed_57 : decode cX12_feed 57 = .ok (.imul, 1) := by decide +kernel
theorem dX12_feed_58 : decode cX12_feed 58 = .ok (.lshr, 1) := by decide +kernel
theorem dX12_feed_59 : decode cX12_feed 59 = .ok (.l2i, 1) := by decide +kernel
theorem dX12_feed_60 : decode cX12_feed 60 = .ok (.sipush 255, 3) := by decide +kernel
theorem dX12_feed_63 : decode cX12_feed 63 = .ok (.iand, 1) := by decide +kernel
theorem dX12_feed_64 : decode cX12_feed 64 = .ok (.iastore, 1) := by decide +kernel
theorem dX12_feed_65 : decode cX12_feed 65 = .ok (.iinc 4 1, 3) := by decide +kernel
theorem dX12_feed_68 : decode cX12_feed 68 = .ok (.goto (-37), 3) := by decide +kernel
theorem dX12_feed_71 : decode cX12_feed 71 = .ok (.aload_n 0, 1) := by decide +kernel
theorem dX12_feed_72 : decode cX12_feed 72 = .ok (.getfield 219, 3) := by decide +kernel
theorem dX12_feed_75 : decode cX12_feed 75 = .ok (.ireturn, 1) := by decide +kernel
theorem j_Md_feed_71  {h : xH} {r0 : Int} {h0 : xH}  (hf : f_Md_feed_71 h = some (r0, h0))  : J mX12_feed true 0 0 71 xKn [(0, xR 81)] [] h (xEq (some r0) h0) := by
  unfold f_Md_feed_71 at hf
  refine J_aload_n 0 dX12_feed_71 rfl rfl ?_
  refine J_getI (j := 1) xcf12 dX12_feed_72 (xK_rg kO81) kO81 (Or.inl xq1021) (by decide) (by decide) ?_
  exact J_ireti dX12_feed_75 rfl (xq_i hf)
theorem j_Md_feed_s31 {l1 : Int} {l2 : Int64} {l4 : Int} {h : xH} {x : ((Int × xH) ⊕ xH)} {Q : xQ}  (hf : f_Md_feed_s31 l1 l2 l4 h = some x) (kb : ∀ (l4' : Int) (h' : xH), x = Sum.inl (l4', h') → J mX12_feed true 0 0 31 xKn [(0, xR 81), (1, xI l1), (2, xL l2), (4, xI l4')] [] h' Q) (ke : ∀  (h' : xH), x = (Sum.inr h') → J mX12_feed true 0 0 71 xKn [(0, xR 81)] [] h' Q) : J mX12_feed true 0 0 31 xKn [(0, xR 81), (1, xI l1), (2, xL l2), (4, xI l4)] [] h Q := by
  unfold f_Md_feed_s31 at hf
  refine J_iload 3 dX12_feed_31 rfl ?_
  refine J_iload_n 1 dX12_feed_33 rfl rfl ?_
  refine J_ic_ge (tgt := 71) dX12_feed_34 (by decide) (fun hc => ?_) (fun hc => ?_)
  · have hf := xip hc hf
    refine J_aload_n 0 dX12_feed_37 rfl rfl ?_
    refine J_getRl (j := 0) xcf12 dX12_feed_38 kO81 (Or.inl xq1020) (by decide) (by decide) rf_81_0 ?_
    refine J_aload_n 0 dX12_feed_41 rfl rfl ?_
    refine J_dup dX12_feed_42 rfl ?_
    refine J_getI (j := 1) xcf12 dX12_feed_43 (xK_rg kO81) kO81 (Or.inl xq1021) (by decide) (by decide) ?_
    refine J_dupx1 dX12_feed_46 rfl rfl ?_
    refine J_iconst dX12_feed_47 (by decide) ?_
    refine J_iadd dX12_feed_48 ?_
    obtain ⟨h1, eh1, hf⟩ := xlet_e hf
    refine J_putI (j := 1) xcf12 dX12_feed_49 (xK_rg kO81) kO81 (Or.inl xq1021) (by decide) (by decide) eh1 ?_
    refine J_lload_n 2 dX12_feed_52 rfl rfl ?_
    refine J_bip dX12_feed_53 (by decide) ?_
    refine J_iload 3 dX12_feed_55 rfl ?_
    refine J_imul dX12_feed_57 ?_
    refine J_lshr dX12_feed_58 ?_
    refine J_l2i dX12_feed_59 ?_
    refine J_sip dX12_feed_60 (by decide) ?_
    refine J_iand dX12_feed_63 ?_
    obtain ⟨hg, hf⟩ := xgd_e hf
    obtain ⟨h2, eh2, hf⟩ := xlet_e hf
    refine J_iast dX12_feed_64 (xK_r1 kO82) kO82 hg nA82 eh2 ?_
    obtain ⟨x3, ex3, hf⟩ := xlet_e hf
    refine J_iinc (ls' := [(4, xI x3), (0, xR 81), (1, xI l1), (2, xL l2)]) 3 dX12_feed_65 rfl (by decide) ex3 rfl ?_
    refine J_goto (tgt := 31) dX12_feed_68 (by decide) ?_
    refine J_sub [1, 2, 3, 0] rfl ?_
    exact kb _ _ (xinl hf)
  · have hf := xin' hc hf
    refine J_sub [0] rfl ?_
    exact ke _ (xinl hf)
theorem j_Md_feed_31 {l1 : Int} {l2 : Int64} {l4 : Int} {h : xH} {r0 : Int} {h0 : xH}  (hf : f_Md_feed_31 l1 l2 l4 h = some (r0, h0))  : J mX12_feed true 0 0 31 xKn [(0, xR 81), (1, xI l1), (2, xL l2), (4, xI l4)] [] h (xEq (some r0) h0) := by
  unfold f_Md_feed_31 at hf
  obtain ⟨b0, hb0, hf⟩ := xc1_e hf
  refine xloop_ind (P := fun s : (Int × xH) => J mX12_feed true 0 0 31 xKn [(0, xR 81), (1, xI l1), (2, xL l2), (4, xI s.1)] [] s.2 (xEq (some r0) h0)) hb0 (fun s x1 hs ib ie => ?_)
  exact j_Md_feed_s31  hs (fun _ _ e => ib _ e) (fun _ e => by have := ie _ e; subst this; exact j_Md_feed_71  hf)
theorem jm_Md_feed {l1 : Int} {l2 : Int64} {h : xH} {r0 : Int} {h0 : xH}  (hf : f_Md_feed l1 l2 h = some (r0, h0)) : J mX12_feed true 0 0 0 xKn (xen 0 [xR 81, xI l1, xL l2]) [] h (xEq (some r0) h0) := by
  unfold f_Md_feed at hf
  refine J_cong (ls2 := [(0, xR 81), (1, xI l1), (2, xL l2)]) (st2 := []) rfl rfl ?_
  refine J_iload_n 1 dX12_feed_0 rfl rfl ?_
  refine J_iconst dX12_feed_1 (by decide) ?_
  refine J_bip dX12_feed_2 (by decide) ?_
  obtain ⟨r1, hq, hf⟩ := xc1_e hf
  refine J_cSi (Mc := mX12_in) [xI l1, xI 1, xI 8] dX12_feed_4 (fc_Md_in.fit ⟨xbl rfl, xbl rfl⟩) rfl ⟨Or.inl xq1283, xq1284⟩ rfl (xbl rfl) (xbl rfl) (jm_Md_in  hq) ?_
  refine J_if_ne (tgt := 13) dX12_feed_7 (by decide) (fun hc => ?_) (fun hc => ?_)
  · have hf := xip hc hf
    refine J_bip dX12_feed_10 (by decide) ?_
    exact J_ireti dX12_feed_12 rfl (xq_i hf)
  · have hf := xin' hc hf
    refine J_aload_n 0 dX12_feed_13 rfl rfl ?_
    refine J_getI (j := 1) xcf12 dX12_feed_14 (xK_rg kO81) kO81 (Or.inl xq1021) (by decide) (by decide) ?_
    refine J_iload_n 1 dX12_feed_17 rfl rfl ?_
    refine J_iadd dX12_feed_18 ?_
    refine J_sip dX12_feed_19 (by decide) ?_
    refine J_ic_le (tgt := 28) dX12_feed_22 (by decide) (fun hc => ?_) (fun hc => ?_)
    · have hf := xip hc hf
      refine J_bip dX12_feed_25 (by decide) ?_
      exact J_ireti dX12_feed_27 rfl (xq_i hf)
    · have hf := xin' hc hf
      refine J_iconst dX12_feed_28 (by decide) ?_
      refine J_istore (ls' := [(4, xI 0), (0, xR 81), (1, xI l1), (2, xL l2)]) dX12_feed_29 (by decide) rfl rfl ?_
      refine J_sub [1, 2, 3, 0] rfl ?_
      exact j_Md_feed_31  hf
theorem dX12_reads_0 : decode cX12_reads 0 = .ok (.aload_n 0, 1) := by decide +kernel
theorem dX12_reads_1 : decode cX12_reads 1 = .ok (.iconst 0, 1) := by decide +kernel
theorem dX12_reads_2 : decode cX12_reads 2 = .ok (.putfield 222, 3) := by decide +kernel
theorem dX12_reads_5 : decode cX12_reads 5 = .ok (.aload_n 0, 1) := by decide +kernel
theorem dX12_reads_6 : decode cX12_reads 6 = .ok (.getfield 219, 3) := by decide +kernel
theorem dX12_reads_9 : decode cX12_reads 9 = .ok (.istore 4, 2) := by decide +kernel
theorem dX12_reads_11 : decode cX12_reads 11 = .ok (.aload_n 0, 1) := by decide +kernel
theorem dX12_reads_12 : decode cX12_reads 12 = .ok (.iconst 0, 1) := by decide +kernel
theorem dX12_reads_13 : decode cX12_reads 13 = .ok (.putfield 219, 3) := by decide +kernel
theorem dX12_reads_16 : decode cX12_reads 16 = .ok (.iconst 0, 1) := by decide +kernel
theorem dX12_reads_17 : decode cX12_reads 17 = .ok (.istore 5, 2) := by decide +kernel
theorem dX12_reads_19 : decode cX12_reads 19 = .ok (.iconst 0, 1) := by decide +kernel
theorem dX12_reads_20 : decode cX12_reads 20 = .ok (.istore 6, 2) := by decide +kernel
theorem dX12_reads_22 : decode cX12_reads 22 = .ok (.iload 6, 2) := by decide +kernel
theorem dX12_reads_24 : decode cX12_reads 24 = .ok (.iload 4, 2) := by decide +kernel
theorem dX12_reads_26 : decode cX12_reads 26 = .ok (.if_icmp .gt 125, 3) := by decide +kernel
theorem dX12_reads_29 : decode cX12_reads 29 = .ok (.iload 6, 2) := by decide +kernel
theorem dX12_reads_31 : decode cX12_reads 31 = .ok (.iload 4, 2) := by decide +kernel
theorem dX12_reads_33 : decode cX12_reads 33 = .ok (.if_icmp .eq 14, 3) := by decide +kernel
theorem dX12_reads_36 : decode cX12_reads 36 = .ok (.aload_n 0, 1) := by decide +kernel
theorem dX12_reads_37 : decode cX12_reads 37 = .ok (.getfield 7, 3) := by decide +kernel
theorem dX12_reads_40 : decode cX12_reads 40 = .ok (.iload 6, 2) := by decide +kernel
theorem dX12_reads_42 : decode cX12_reads 42 = .ok (.iaload, 1) := by decide +kernel
theorem dX12_reads_43 : decode cX12_reads 43 = .ok (.iload_n 1, 1) := by decide +kernel
theorem dX12_reads_44 : decode cX12_reads 44 = .ok (.if_icmp .ne 48, 3) := by decide +kernel
theorem dX12_reads_47 : decode cX12_reads 47 = .ok (.iload 5, 2) := by decide +kernel
theorem dX12_reads_49 : decode cX12_reads 49 = .ok (.ifCond .ne 5, 3) := by decide +kernel
theorem dX12_reads_52 : decode cX12_reads 52 = .ok (.iconst 0, 1) := by decide +kernel
theorem dX12_reads_53 : decode cX12_reads 53 = .ok (.ireturn, 1) := by decide +kernel
theorem dX12_reads_54 : decode cX12_reads 54 = .ok (.aload_n 0, 1) := by decide +kernel
theorem dX12_reads_55 : decode cX12_reads 55 = .ok (.getfield 13, 3) := by decide +kernel
theorem dX12_reads_58 : decode cX12_reads 58 = .ok (.aload_n 0, 1) := by decide +kernel
theorem dX12_reads_59 : decode cX12_reads 59 = .ok (.dup, 1) := by decide +kernel
theorem dX12_reads_60 : decode cX12_reads 60 = .ok (.getfield 222, 3) := by decide +kernel
theorem dX12_reads_63 : decode cX12_reads 63 = .ok (.dup_x1, 1) := by decide +kernel
theorem dX12_reads_64 : decode cX12_reads 64 = .ok (.iconst 1, 1) := by decide +kernel
theorem dX12_reads_65 : decode cX12_reads 65 = .ok (.iadd, 1) := by decide +kernel
theorem dX12_reads_66 : decode cX12_reads 66 = .ok (.putfield 222, 3) := by decide +kernel
theorem dX12_reads_69 : decode cX12_reads 69 = .ok (.iload 5, 2) := by decide +kernel
theorem dX12_reads_71 : decode cX12_reads 71 = .ok (.iastore, 1) := by decide +kernel
theorem dX12_reads_72 : decode cX12_reads 72 = .ok (.iconst 0, 1) := by decide +kernel
theorem dX12_reads_73 : decode cX12_reads 73 = .ok (.istore 5, 2) := by decide +kernel
theorem dX12_reads_75 : decode cX12_reads 75 = .ok (.iload 6, 2) := by decide +kernel
theorem dX12_reads_77 : decode cX12_reads 77 = .ok (.iload 4, 2) := by decide +kernel
theorem dX12_reads_79 : decode cX12_reads 79 = .ok (.if_icmp .ge 66, 3) := by decide +kernel
theorem dX12_reads_82 : decode cX12_reads 82 = .ok (.aload_n 0, 1) := by decide +kernel
theorem dX12_reads_83 : decode cX12_reads 83 = .ok (.getfield 222, 3) := by decide +kernel
theorem dX12_reads_86 : decode cX12_reads 86 = .ok (.iload_n 2, 1) := by decide +kernel
theorem dX12_reads_87 : decode cX12_reads 87 = .ok (.if_icmp .ne 58, 3) := by decide +kernel
theorem dX12_reads_90 : decode cX12_reads 90 = .ok (.iconst 0, 1) := by decide +kernel
theorem dX12_reads_91 : decode cX12_reads 91 = .ok (.ireturn, 1) := by decide +kernel
theorem dX12_reads_92 : decode cX12_reads 92 = .ok (.aload_n 0, 1) := by decide +kernel
theorem dX12_reads_93 : decode cX12_reads 93 = .ok (.getfield 7, 3) := by decide +kernel
theorem dX12_reads_96 : decode cX12_reads 96 = .ok (.iload 6, 2) := by decide +kernel
theorem dX12_reads_98 : decode cX12_reads 98 = .ok (.iaload, 1) := by decide +kernel
theorem dX12_reads_99 : decode cX12_reads 99 = .ok (.bipush 97, 2) := by decide +kernel
theorem dX12_reads_101 : decode cX12_reads 101 = .ok (.bipush 122, 2) := by decide +kernel
theorem dX12_reads_103 : decode cX12_reads 103 = .ok (.invokestatic 215, 3) := by decide +kernel
theorem dX12_reads_106 : decode cX12_reads 106 = .ok (.ifCond .eq 9, 3) := by decide +kernel
theorem dX12_reads_109 : decode cX12_reads 109 = .ok (.iload 5, 2) := by decide +kernel
theorem dX12_reads_111 : decode cX12_reads 111 = .ok (.iload_n 3, 1) := by decide +kernel
theorem dX12_reads_112 : decode cX12_reads 112 = .ok (.if_icmp .ne 5, 3) := by decide +kernel
theorem dX12_reads_115 : decode cX12_reads 115 = .ok (.iconst 0, 1) := by decide +kernel
theorem dX12_reads_116 : decode cX12_reads 116 = .ok (.ireturn, 1) := by decide +kernel
theorem dX12_reads_117 : decode cX12_reads 117 = .ok (.aload_n 0, 1) := by decide +kernel
theorem dX12_reads_118 : decode cX12_reads 118 = .ok (.getfield 16, 3) := by decide +kernel
theorem dX12_reads_121 : decode cX12_reads 121 = .ok (.bipush 12, 2) := by decide +kernel
theorem dX12_reads_123 : decode cX12_reads 123 = .ok (.aload_n 0, 1) := by decide +kernel
theorem dX12_reads_124 : decode cX12_reads 124 = .ok (.getfield 222, 3) := by decide +kernel
theorem dX12_reads_127 : decode cX12_reads 127 = .ok (.imul, 1) := by decide +kernel
theorem dX12_reads_128 : decode cX12_reads 128 = .ok (.iload 5, 2) := by decide +kernel
theorem dX12_reads_130 : decode cX12_reads 130 = .ok (.iinc 5 1, 3) := by decide +kernel
theorem dX12_reads_133 : decode cX12_reads 133 = .ok (.iadd, 1) := by decide +kernel
theorem dX12_reads_134 : decode cX12_reads 134 = .ok (.aload_n 0, 1) := by decide +kernel
theorem dX12_reads_135 : decode cX12_reads 135 = .ok (.getfield 7, 3) := by decide +kernel
theorem dX12_reads_138 : decode cX12_reads 138 = .ok (.iload 6, 2) := by decide +kernel
theorem dX12_reads_140 : decode cX12_reads 140 = .ok (.iaload, 1) := by decide +kernel
theorem dX12_reads_141 : decode cX12_reads 141 = .ok (.bipush 97, 2) := by decide +kernel
theorem dX12_reads_143 : decode cX12_reads 143 = .ok (.isub, 1) := by decide +kernel
theorem dX12_reads_144 : decode cX12_reads 144 = .ok (.iastore, 1) := by decide +kernel
theorem dX12_reads_145 : decode cX12_reads 145 = .ok (.iinc 6 1, 3) := by decide +kernel
theorem dX12_reads_148 : decode cX12_reads 148 = .ok (.goto (-126), 3) := by decide +kernel
theorem dX12_reads_151 : decode cX12_reads 151 = .ok (.iconst 1, 1) := by decide +kernel
theorem dX12_reads_152 : decode cX12_reads 152 = .ok (.ireturn, 1) := by decide +kernel
theorem j_Md_reads_151  {h : xH} {r0 : Int} {h0 : xH}  (hf : f_Md_reads_151 h = some (r0, h0))  : J mX12_reads true 0 0 151 xKn [] [] h (xEq (some r0) h0) := by
  unfold f_Md_reads_151 at hf
  refine J_iconst dX12_reads_151 (by decide) ?_
  exact J_iretz dX12_reads_152 rfl (by decide) (xq_i hf)
theorem j_Md_reads_145 {l1 : Int} {l2 : Int} {l3 : Int} {l4 : Int} {l5 : Int} {l6 : Int} {h : xH} {x : ((Int × Int × xH) ⊕ (xH ⊕ (Int × xH)))} {Q : xQ}  (hf : f_Md_reads_145 l1 l2 l3 l4 l5 l6 h = some x) (kb : ∀ (l5' : Int) (l6' : Int) (h' : xH), x = Sum.inl (l5', l6', h') → J mX12_reads true 0 0 22 xKn [(0, xR 81), (1, xI l1), (2, xI l2), (3, xI l3), (4, xI l4), (5, xI l5'), (6, xI l6')] [] h' Q) (ke : ∀  (h' : xH), x = (Sum.inr (Sum.inl h')) → J mX12_reads true 0 0 151 xKn [] [] h' Q) (kr : ∀ (v : Int) (h' : xH), x = (Sum.inr (Sum.inr (v, h'))) → Q (some v) xKn h') : J mX12_reads true 0 0 145 xKn [(0, xR 81), (1, xI l1), (2, xI l2), (3, xI l3), (4, xI l4), (5, xI l5), (6, xI l6)] [] h Q := by
  unfold f_Md_reads_145 at hf
  obtain ⟨x1, ex1, hf⟩ := xlet_e hf
  refine J_iinc (ls' := [(6, xI x1), (0, xR 81), (1, xI l1), (2, xI l2), (3, xI l3), (4, xI l4), (5, xI l5)]) 6 dX12_reads_145 rfl (by decide) ex1 rfl ?_
  refine J_goto (tgt := 22) dX12_reads_148 (by decide) ?_
  refine J_sub [1, 2, 3, 4, 5, 6, 0] rfl ?_
  exact kb _ _ _ (xinl hf)
theorem j_Md_reads_47 {l1 : Int} {l2 : Int} {l3 : Int} {l4 : Int} {l5 : Int} {l6 : Int} {h : xH} {x : ((Int × Int × xH) ⊕ (xH ⊕ (Int × xH)))} {Q : xQ}  (hf : f_Md_reads_47 l1 l2 l3 l4 l5 l6 h = some x) (kb : ∀ (l5' : Int) (l6' : Int) (h' : xH), x = Sum.inl (l5', l6', h') → J mX12_reads true 0 0 22 xKn [(0, xR 81), (1, xI l1), (2, xI l2), (3, xI l3), (4, xI l4), (5, xI l5'), (6, xI l6')] [] h' Q) (ke : ∀  (h' : xH), x = (Sum.inr (Sum.inl h')) → J mX12_reads true 0 0 151 xKn [] [] h' Q) (kr : ∀ (v : Int) (h' : xH), x = (Sum.inr (Sum.inr (v, h'))) → Q (some v) xKn h') : J mX12_reads true 0 0 47 xKn [(0, xR 81), (1, xI l1), (2, xI l2), (3, xI l3), (4, xI l4), (5, xI l5), (6, xI l6)] [] h Q := by
  unfold f_Md_reads_47 at hf
  refine J_iload 5 dX12_reads_47 rfl ?_
  refine J_if_ne (tgt := 54) dX12_reads_49 (by decide) (fun hc => ?_) (fun hc => ?_)
  · have hf := xip hc hf
    refine J_iconst dX12_reads_52 (by decide) ?_
    exact J_iretz dX12_reads_53 rfl (by decide) (kr _ _ (xinl hf))
  · have hf := xin' hc hf
    refine J_aload_n 0 dX12_reads_54 rfl rfl ?_
    refine J_getRl (j := 3) xcf12 dX12_reads_55 kO81 (Or.inl xq1023) (by decide) (by decide) rf_81_3 ?_
    refine J_aload_n 0 dX12_reads_58 rfl rfl ?_
    refine J_dup dX12_reads_59 rfl ?_
    refine J_getI (j := 2) xcf12 dX12_reads_60 (xK_rg kO81) kO81 (Or.inl xq1022) (by decide) (by decide) ?_
    refine J_dupx1 dX12_reads_63 rfl rfl ?_
    refine J_iconst dX12_reads_64 (by decide) ?_
    refine J_iadd dX12_reads_65 ?_
    obtain ⟨h1, eh1, hf⟩ := xlet_e hf
    refine J_putI (j := 2) xcf12 dX12_reads_66 (xK_rg kO81) kO81 (Or.inl xq1022) (by decide) (by decide) eh1 ?_
    refine J_iload 5 dX12_reads_69 rfl ?_
    obtain ⟨hg, hf⟩ := xgd_e hf
    obtain ⟨h2, eh2, hf⟩ := xlet_e hf
    refine J_iast dX12_reads_71 (xK_r1 kO83) kO83 hg nA83 eh2 ?_
    refine J_iconst dX12_reads_72 (by decide) ?_
    refine J_istore (ls' := [(5, xI 0), (0, xR 81), (1, xI l1), (2, xI l2), (3, xI l3), (4, xI l4), (6, xI l6)]) dX12_reads_73 (by decide) rfl rfl ?_
    refine J_iload 6 dX12_reads_75 rfl ?_
    refine J_iload 5 dX12_reads_77 rfl ?_
    refine J_ic_ge (tgt := 145) dX12_reads_79 (by decide) (fun hc => ?_) (fun hc => ?_)
    · have hf := xip hc hf
      refine J_aload_n 1 dX12_reads_82 rfl rfl ?_
      refine J_getI (j := 2) xcf12 dX12_reads_83 (xK_rg kO81) kO81 (Or.inl xq1022) (by decide) (by decide) ?_
      refine J_iload_n 3 dX12_reads_86 rfl rfl ?_
      refine J_ic_ne (tgt := 145) dX12_reads_87 (by decide) (fun hc => ?_) (fun hc => ?_)
      · have hf := xip hc hf
        refine J_iconst dX12_reads_90 (by decide) ?_
        exact J_iretz dX12_reads_91 rfl (by decide) (kr _ _ (xinl hf))
      · have hf := xin' hc hf
        refine J_sub [1, 2, 3, 4, 5, 0, 6] rfl ?_
        exact j_Md_reads_145  hf kb ke kr
    · have hf := xin' hc hf
      refine J_sub [1, 2, 3, 4, 5, 0, 6] rfl ?_
      exact j_Md_reads_145  hf kb ke kr
theorem j_Md_reads_s22 {l1 : Int} {l2 : Int} {l3 : Int} {l4 : Int} {l5 : Int} {l6 : Int} {h : xH} {x : ((Int × Int × xH) ⊕ (xH ⊕ (Int × xH)))} {Q : xQ}  (hf : f_Md_reads_s22 l1 l2 l3 l4 l5 l6 h = some x) (kb : ∀ (l5' : Int) (l6' : Int) (h' : xH), x = Sum.inl (l5', l6', h') → J mX12_reads true 0 0 22 xKn [(0, xR 81), (1, xI l1), (2, xI l2), (3, xI l3), (4, xI l4), (5, xI l5'), (6, xI l6')] [] h' Q) (ke : ∀  (h' : xH), x = (Sum.inr (Sum.inl h')) → J mX12_reads true 0 0 151 xKn [] [] h' Q) (kr : ∀ (v : Int) (h' : xH), x = (Sum.inr (Sum.inr (v, h'))) → Q (some v) xKn h') : J mX12_reads true 0 0 22 xKn [(0, xR 81), (1, xI l1), (2, xI l2), (3, xI l3), (4, xI l4), (5, xI l5), (6, xI l6)] [] h Q := by
  unfold f_Md_reads_s22 at hf
  refine J_iload 6 dX12_reads_22 rfl ?_
  refine J_iload 4 dX12_reads_24 rfl ?_
  refine J_ic_gt (tgt := 151) dX12_reads_26 (by decide) (fun hc => ?_) (fun hc => ?_)
  · have hf := xip hc hf
    refine J_sub [] rfl ?_
    exact ke _ (xinl hf)
  · have hf := xin' hc hf
    refine J_iload 6 dX12_reads_29 rfl ?_
    refine J_iload 4 dX12_reads_31 rfl ?_
    refine J_ic_eq (tgt := 47) dX12_reads_33 (by decide) (fun hc => ?_) (fun hc => ?_)
    · have hf := xip hc hf
      exact j_Md_reads_47  hf kb ke kr
    · have hf := xin' hc hf
      refine J_aload_n 0 dX12_reads_36 rfl rfl ?_
      refine J_getRl (j := 0) xcf12 dX12_reads_37 kO81 (Or.inl xq1020) (by decide) (by decide) rf_81_0 ?_
      refine J_iload 6 dX12_reads_40 rfl ?_
      obtain ⟨hg, hf⟩ := xgd_e hf
      refine J_iald dX12_reads_42 (xK_r1 kO82) kO82 hg nA82 ?_
      refine J_iload_n 1 dX12_reads_43 rfl rfl ?_
      refine J_ic_ne (tgt := 92) dX12_reads_44 (by decide) (fun hc => ?_) (fun hc => ?_)
      · have hf := xip hc hf
        exact j_Md_reads_47  hf kb ke kr
      · have hf := xin' hc hf
        refine J_aload_n 0 dX12_reads_92 rfl rfl ?_
        refine J_getRl (j := 0) xcf12 dX12_reads_93 kO81 (Or.inl xq1020) (by decide) (by decide) rf_81_0 ?_
        refine J_iload 6 dX12_reads_96 rfl ?_
        obtain ⟨hg, hf⟩ := xgd_e hf
        refine J_iald dX12_reads_98 (xK_r1 kO82) kO82 hg nA82 ?_
        refine J_bip dX12_reads_99 (by decide) ?_
        refine J_bip dX12_reads_101 (by decide) ?_
        obtain ⟨r1, hq, hf⟩ := xc1_e hf
        refine J_cSi (Mc := mX12_in) [xI (h 82 l6), xI 97, xI 122] dX12_reads_103 (fc_Md_in.fit ⟨xbl rfl, xbl rfl⟩) rfl ⟨Or.inl xq1283, xq1284⟩ rfl (xbl rfl) (xbl rfl) (jm_Md_in  hq) ?_
        refine J_if_eq (tgt := 115) dX12_reads_106 (by decide) (fun hc => ?_) (fun hc => ?_)
        · have hf := xip hc hf
          refine J_iconst dX12_reads_115 (by decide) ?_
          exact J_iretz dX12_reads_116 rfl (by decide) (kr _ _ (xinl hf))
        · have hf := xin' hc hf
          refine J_iload 5 dX12_reads_109 rfl ?_
          refine J_iload_n 3 dX12_reads_111 rfl rfl ?_
          refine J_ic_ne (tgt := 117) dX12_reads_112 (by decide) (fun hc => ?_) (fun hc => ?_)
          · have hf := xip hc hf
            refine J_iconst dX12_reads_115 (by decide) ?_
            exact J_iretz dX12_reads_116 rfl (by decide) (kr _ _ (xinl hf))
          · have hf := xin' hc hf
            refine J_aload_n 0 dX12_reads_117 rfl rfl ?_
            refine J_getRl (j := 4) xcf12 dX12_reads_118 kO81 (Or.inl xq1024) (by decide) (by decide) rf_81_4 ?_
            refine J_bip dX12_reads_121 (by decide) ?_
            refine J_aload_n 0 dX12_reads_123 rfl rfl ?_
            refine J_getI (j := 2) xcf12 dX12_reads_124 (xK_rg kO81) kO81 (Or.inl xq1022) (by decide) (by decide) ?_
            refine J_imul dX12_reads_127 ?_
            refine J_iload 5 dX12_reads_128 rfl ?_
            obtain ⟨x2, ex2, hf⟩ := xlet_e hf
            refine J_iinc (ls' := [(5, xI x2), (0, xR 81), (1, xI l1), (2, xI l2), (3, xI l3), (4, xI l4), (6, xI l6)]) 5 dX12_reads_130 rfl (by decide) ex2 rfl ?_
            refine J_iadd dX12_reads_133 ?_
            refine J_aload_n 1 dX12_reads_134 rfl rfl ?_
            refine J_getRl (j := 0) xcf12 dX12_reads_135 kO81 (Or.inl xq1020) (by decide) (by decide) rf_81_0 ?_
            refine J_iload 6 dX12_reads_138 rfl ?_
            obtain ⟨hg, hf⟩ := xgd_e hf
            refine J_iald dX12_reads_140 (xK_r1 kO82) kO82 hg nA82 ?_
            refine J_bip dX12_reads_141 (by decide) ?_
            refine J_isub dX12_reads_143 ?_
            obtain ⟨hg, hf⟩ := xgd_e hf
            obtain ⟨h3, eh3, hf⟩ := xlet_e hf
            refine J_iast dX12_reads_144 (xK_r1 kO84) kO84 hg nA84 eh3 ?_
            refine J_sub [1, 2, 3, 4, 5, 0, 6] rfl ?_
            exact j_Md_reads_145  hf kb ke kr
theorem j_Md_reads_22 {l1 : Int} {l2 : Int} {l3 : Int} {l4 : Int} {l5 : Int} {l6 : Int} {h : xH} {r0 : Int} {h0 : xH}  (hf : f_Md_reads_22 l1 l2 l3 l4 l5 l6 h = some (r0, h0))  : J mX12_reads true 0 0 22 xKn [(0, xR 81), (1, xI l1), (2, xI l2), (3, xI l3), (4, xI l4), (5, xI l5), (6, xI l6)] [] h (xEq (some r0) h0) := by
  unfold f_Md_reads_22 at hf
  obtain ⟨b0, hb0, hf⟩ := xc1_e hf
  refine xloop_ind (P := fun s : (Int × Int × xH) => J mX12_reads true 0 0 22 xKn [(0, xR 81), (1, xI l1), (2, xI l2), (3, xI l3), (4, xI l4), (5, xI s.1), (6, xI s.2.1)] [] s.2.2 (xEq (some r0) h0)) hb0 (fun s x1 hs ib ie => ?_)
  exact j_Md_reads_s22  hs (fun _ _ _ e => ib _ e) (fun _ e => by have := ie _ e; subst this; exact j_Md_reads_151  hf) (fun _ _ e => by have := ie _ e; subst this; exact xq_i hf)
theorem jm_Md_reads {l1 : Int} {l2 : Int} {l3 : Int} {h : xH} {r0 : Int} {h0 : xH}  (hf : f_Md_reads l1 l2 l3 h = some (r0, h0)) : J mX12_reads true 0 0 0 xKn (xen 0 [xR 81, xI l1, xI l2, xI l3]) [] h (xEq (some r0) h0) := by
  unfold f_Md_reads at hf
  refine J_cong (ls2 := [(0, xR 81), (1, xI l1), (2, xI l2), (3, xI l3)]) (st2 := []) rfl rfl ?_
  refine J_aload_n 0 dX12_reads_0 rfl rfl ?_
  refine J_iconst dX12_reads_1 (by decide) ?_
  obtain ⟨h1, eh1, hf⟩ := xlet_e hf
  refine J_putI (j := 2) xcf12 dX12_reads_2 (xK_rg kO81) kO81 (Or.inl xq1022) (by decide) (by decide) eh1 ?_
  refine J_aload_n 0 dX12_reads_5 rfl rfl ?_
  refine J_getI (j := 1) xcf12 dX12_reads_6 (xK_rg kO81) kO81 (Or.inl xq1021) (by decide) (by decide) ?_
  obtain ⟨x2, ex2, hf⟩ := xlet_e hf
  refine J_istore (ls' := [(4, xI x2), (0, xR 81), (1, xI l1), (2, xI l2), (3, xI l3)]) dX12_reads_9 (by decide) ex2 rfl ?_
  refine J_aload_n 1 dX12_reads_11 rfl rfl ?_
  refine J_iconst dX12_reads_12 (by decide) ?_
  obtain ⟨h3, eh3, hf⟩ := xlet_e hf
  refine J_putI (j := 1) xcf12 dX12_reads_13 (xK_rg kO81) kO81 (Or.inl xq1021) (by decide) (by decide) eh3 ?_
  refine J_iconst dX12_reads_16 (by decide) ?_
  refine J_istore (ls' := [(5, xI 0), (4, xI x2), (0, xR 81), (1, xI l1), (2, xI l2), (3, xI l3)]) dX12_reads_17 (by decide) rfl rfl ?_
  refine J_iconst dX12_reads_19 (by decide) ?_
  refine J_istore (ls' := [(6, xI 0), (5, xI 0), (4, xI x2), (0, xR 81), (1, xI l1), (2, xI l2), (3, xI l3)]) dX12_reads_20 (by decide) rfl rfl ?_
  refine J_sub [3, 4, 5, 6, 2, 1, 0] rfl ?_
  exact j_Md_reads_22  hf
theorem dX12_readsOne_0 : decode cX12_readsOne 0 = .ok (.aload_n 0, 1) := by decide +kernel
theorem dX12_readsOne_1 : decode cX12_readsOne 1 = .ok (.iconst 0, 1) := by decide +kernel
theorem dX12_readsOne_2 : decode cX12_readsOne 2 = .ok (.iconst 1, 1) := by decide +kernel
theorem dX12_readsOne_3 : decode cX12_readsOne 3 = .ok (.bipush 12, 2) := by decide +kernel
theorem dX12_readsOne_5 : decode cX12_readsOne 5 = .ok (.invokevirtual 225, 3) := by decide +kernel
theorem dX12_readsOne_8 : decode cX12_readsOne 8 = .ok (.ireturn, 1) := by decide +kernel
theorem jm_Md_readsOne  {h : xH} {r0 : Int} {h0 : xH}  (hf : f_Md_readsOne h = some (r0, h0)) : J mX12_readsOne true 0 0 0 xKn (xen 0 [xR 81]) [] h (xEq (some r0) h0) := by
  unfold f_Md_readsOne at hf
  refine J_cong (ls2 := [(0, xR 81)]) (st2 := []) rfl rfl ?_
  refine J_aload_n 0 dX12_readsOne_0 rfl rfl ?_
  refine J_iconst dX12_readsOne_1 (by decide) ?_
  refine J_iconst dX12_readsOne_2 (by decide) ?_
  refine J_bip dX12_readsOne_3 (by decide) ?_
  obtain ⟨r1, h2, hq, hf⟩ := xc2_e hf
  refine J_cVi (Mc := mX12_reads) [xI 0, xI 1, xI 12] dX12_readsOne_5 (fc_Md_reads.fit ⟨xbl rfl, xbl rfl⟩) rfl ⟨Or.inl xq1294, xq1296, xq90⟩ kO81 (ci := 12) rfl rfl (xbl rfl) (xbl rfl) (jm_Md_reads  hq) ?_
  obtain ⟨hz, hf⟩ := xgb_e hf
  exact J_iretz dX12_readsOne_8 rfl hz (xq_i hf)
theorem dX12_readsTwo_0 : decode cX12_readsTwo 0 = .ok (.aload_n 0, 1) := by decide +kernel
theorem dX12_readsTwo_1 : decode cX12_readsTwo 1 = .ok (.bipush 61, 2) := by decide +kernel
theorem dX12_readsTwo_3 : decode cX12_readsTwo 3 = .ok (.iconst 2, 1) := by decide +kernel
theorem dX12_readsTwo_4 : decode cX12_readsTwo 4 = .ok (.iload_n 1, 1) := by decide +kernel
theorem dX12_readsTwo_5 : decode cX12_readsTwo 5 = .ok (.invokevirtual 225, 3) := by decide +kernel
theorem dX12_readsTwo_8 : decode cX12_readsTwo 8 = .ok (.ifCond .eq 15, 3) := by decide +kernel
theorem dX12_readsTwo_11 : decode cX12_readsTwo 11 = .ok (.aload_n 0, 1) := by decide +kernel
theorem dX12_readsTwo_12 : decode cX12_readsTwo 12 = .ok (.getfield 222, 3) := by decide +kernel
theorem dX12_readsTwo_15 : decode cX12_readsTwo 15 = .ok (.iconst 2, 1) := by decide +kernel
theorem dX12_readsTwo_16 : decode cX12_readsTwo 16 = .ok (.if_icmp .ne 7, 3) := by decide +kernel
theorem dX12_readsTwo_19 : decode cX12_readsTwo 19 = .ok (.iconst 1, 1) := by decide +kernel
theorem dX12_readsTwo_20 : decode cX12_readsTwo 20 = .ok (.goto 4, 3) := by decide +kernel
theorem dX12_readsTwo_23 : decode cX12_readsTwo 23 = .ok (.iconst 0, 1) := by decide +kernel
theorem dX12_readsTwo_24 : decode cX12_readsTwo 24 = .ok (.ireturn, 1) := by decide +kernel
theorem jm_Md_readsTwo {l1 : Int} {h : xH} {r0 : Int} {h0 : xH}  (hf : f_Md_readsTwo l1 h = some (r0, h0)) : J mX12_readsTwo true 0 0 0 xKn (xen 0 [xR 81, xI l1]) [] h (xEq (some r0) h0) := by
  unfold f_Md_readsTwo at hf
  refine J_cong (ls2 := [(0, xR 81), (1, xI l1)]) (st2 := []) rfl rfl ?_
  refine J_aload_n 0 dX12_readsTwo_0 rfl rfl ?_
  refine J_bip dX12_readsTwo_1 (by decide) ?_
  refine J_iconst dX12_readsTwo_3 (by decide) ?_
  refine J_iload_n 1 dX12_readsTwo_4 rfl rfl ?_
  obtain ⟨r1, h2, hq, hf⟩ := xc2_e hf
  refine J_cVi (Mc := mX12_reads) [xI 61, xI 2, xI l1] dX12_readsTwo_5 (fc_Md_reads.fit ⟨xbl rfl, xbl rfl⟩) rfl ⟨Or.inl xq1294, xq1296, xq90⟩ kO81 (ci := 12) rfl rfl (xbl rfl) (xbl rfl) (jm_Md_reads  hq) ?_
  refine J_if_eq (tgt := 23) dX12_readsTwo_8 (by decide) (fun hc => ?_) (fun hc => ?_)
  · have hf := xip hc hf
    refine J_iconst dX12_readsTwo_23 (by decide) ?_
    exact J_iretz dX12_readsTwo_24 rfl (by decide) (xq_i hf)
  · have hf := xin' hc hf
    refine J_aload_n 0 dX12_readsTwo_11 rfl rfl ?_
    refine J_getI (j := 2) xcf12 dX12_readsTwo_12 (xK_rg kO81) kO81 (Or.inl xq1022) (by decide) (by decide) ?_
    refine J_iconst dX12_readsTwo_15 (by decide) ?_
    refine J_ic_ne (tgt := 23) dX12_readsTwo_16 (by decide) (fun hc => ?_) (fun hc => ?_)
    · have hf := xip hc hf
      refine J_iconst dX12_readsTwo_19 (by decide) ?_
      refine J_goto (tgt := 24) dX12_readsTwo_20 (by decide) ?_
      exact J_iretz dX12_readsTwo_24 rfl (by decide) (xq_i hf)
    · have hf := xin' hc hf
      refine J_iconst dX12_readsTwo_23 (by decide) ?_
      exact J_iretz dX12_readsTwo_24 rfl (by decide) (xq_i hf)
theorem dX12_takeA_0 : decode cX12_takeA 0 = .ok (.aload_n 0, 1) := by decide +kernel
theorem dX12_takeA_1 : decode cX12_takeA 1 = .ok (.aload_n 0, 1) := by decide +kernel
theorem dX12_takeA_2 : decode cX12_takeA 2 = .ok (.getfield 13, 3) := by decide +kernel
theorem dX12_takeA_5 : decode cX12_takeA 5 = .ok (.iload_n 1, 1) := by decide +kernel
theorem dX12_takeA_6 : decode cX12_takeA 6 = .ok (.iaload, 1) := by decide +kernel
theorem dX12_takeA_7 : decode cX12_takeA 7 = .ok (.putfield 228, 3) := by decide +kernel
theorem dX12_takeA_10 : decode cX12_takeA 10 = .ok (.iconst 0, 1) := by decide +kernel
theorem dX12_takeA_11 : decode cX12_takeA 11 = .ok (.istore_n 2, 1) := by decide +kernel
theorem dX12_takeA_12 : decode cX12_takeA 12 = .ok (.iload_n 2, 1) := by decide +kernel
theorem dX12_takeA_13 : decode cX12_takeA 13 = .ok (.aload_n 0, 1) := by decide +kernel
theorem dX12_takeA_14 : decode cX12_takeA 14 = .ok (.getfield 228, 3) := by decide +kernel
theorem dX12_takeA_17 : decode cX12_takeA 17 = .ok (.if_icmp .ge 26, 3) := by decide +kernel
theorem dX12_takeA_20 : decode cX12_takeA 20 = .ok (.aload_n 0, 1) := by decide +kernel
theorem dX12_takeA_21 : decode cX12_takeA 21 = .ok (.getfield 62, 3) := by decide +kernel
theorem dX12_takeA_24 : decode cX12_takeA 24 = .ok (.iload_n 2, 1) := by decide +kernel
theorem dX12_takeA_25 : decode cX12_takeA 25 = .ok (.aload_n 0, 1) := by decide +kernel
theorem dX12_takeA_26 : decode cX12_takeA 26 = .ok (.getfield 16, 3) := by decide +kernel
theorem dX12_takeA_29 : decode cX12_takeA 29 = .ok (.bipush 12, 2) := by decide +kernel
theorem dX12_takeA_31 : decode cX12_takeA 31 = .ok (.iload_n 1, 1) := by decide +kernel
theorem dX12_takeA_32 : decode cX12_takeA 32 = .ok (.imul, 1) := by decide +kernel
theorem dX12_takeA_33 : decode cX12_takeA 33 = .ok (.iload_n 2, 1) := by decide +kernel
theorem dX12_takeA_34 : decode cX12_takeA 34 = .ok (.iadd, 1) := by decide +kernel
theorem dX12_takeA_35 : decode cX12_takeA 35 = .ok (.iaload, 1) := by decide +kernel
theorem dX12_takeA_36 : decode cX12_takeA 36 = .ok (.iastore, 1) := by decide +kernel
theorem dX12_takeA_37 : decode cX12_takeA 37 = .ok (.iinc 2 1, 3) := by decide +kernel
theorem dX12_takeA_40 : decode cX12_takeA 40 = .ok (.goto (-28), 3) := by decide +kernel
theorem dX12_takeA_43 : decode cX12_takeA 43 = .ok (.return_, 1) := by decide +kernel
theorem j_Md_takeA_43  {h : xH} {h0 : xH}  (hf : f_Md_takeA_43 h = some h0)  : J mX12_takeA true 0 0 43 xKn [] [] h (xEq none h0) := by
  unfold f_Md_takeA_43 at hf
  exact J_rt dX12_takeA_43 rfl (xq_v hf)
theorem j_Md_takeA_s12 {l1 : Int} {l2 : Int} {h : xH} {x : ((Int × xH) ⊕ xH)} {Q : xQ}  (hf : f_Md_takeA_s12 l1 l2 h = some x) (kb : ∀ (l2' : Int) (h' : xH), x = Sum.inl (l2', h') → J mX12_takeA true 0 0 12 xKn [(0, xR 81), (1, xI l1), (2, xI l2')] [] h' Q) (ke : ∀  (h' : xH), x = (Sum.inr h') → J mX12_takeA true 0 0 43 xKn [] [] h' Q) : J mX12_takeA true 0 0 12 xKn [(0, xR 81), (1, xI l1), (2, xI l2)] [] h Q := by
  unfold f_Md_takeA_s12 at hf
  refine J_iload_n 2 dX12_takeA_12 rfl rfl ?_
  refine J_aload_n 0 dX12_takeA_13 rfl rfl ?_
  refine J_getI (j := 22) xcf12 dX12_takeA_14 (xK_rg kO81) kO81 (Or.inl xq1042) (by decide) (by decide) ?_
  refine J_ic_ge (tgt := 43) dX12_takeA_17 (by decide) (fun hc => ?_) (fun hc => ?_)
  · have hf := xip hc hf
    refine J_aload_n 0 dX12_takeA_20 rfl rfl ?_
    refine J_getRl (j := 24) xcf12 dX12_takeA_21 kO81 (Or.inl xq1044) (by decide) (by decide) rf_81_24 ?_
    refine J_iload_n 2 dX12_takeA_24 rfl rfl ?_
    refine J_aload_n 0 dX12_takeA_25 rfl rfl ?_
    refine J_getRl (j := 4) xcf12 dX12_takeA_26 kO81 (Or.inl xq1024) (by decide) (by decide) rf_81_4 ?_
    refine J_bip dX12_takeA_29 (by decide) ?_
    refine J_iload_n 1 dX12_takeA_31 rfl rfl ?_
    refine J_imul dX12_takeA_32 ?_
    refine J_iload_n 2 dX12_takeA_33 rfl rfl ?_
    refine J_iadd dX12_takeA_34 ?_
    obtain ⟨hg, hf⟩ := xgd_e hf
    refine J_iald dX12_takeA_35 (xK_r1 kO84) kO84 hg nA84 ?_
    obtain ⟨hg, hf⟩ := xgd_e hf
    obtain ⟨h1, eh1, hf⟩ := xlet_e hf
    refine J_iast dX12_takeA_36 (xK_r1 kO97) kO97 hg nA97 eh1 ?_
    obtain ⟨x2, ex2, hf⟩ := xlet_e hf
    refine J_iinc (ls' := [(2, xI x2), (0, xR 81), (1, xI l1)]) 2 dX12_takeA_37 rfl (by decide) ex2 rfl ?_
    refine J_goto (tgt := 12) dX12_takeA_40 (by decide) ?_
    refine J_sub [1, 2, 0] rfl ?_
    exact kb _ _ (xinl hf)
  · have hf := xin' hc hf
    refine J_sub [] rfl ?_
    exact ke _ (xinl hf)
theorem j_Md_takeA_12 {l1 : Int} {l2 : Int} {h : xH} {h0 : xH}  (hf : f_Md_takeA_12 l1 l2 h = some h0)  : J mX12_takeA true 0 0 12 xKn [(0, xR 81), (1, xI l1), (2, xI l2)] [] h (xEq none h0) := by
  unfold f_Md_takeA_12 at hf
  obtain ⟨b0, hb0, hf⟩ := xc1_e hf
  refine xloop_ind (P := fun s : (Int × xH) => J mX12_takeA true 0 0 12 xKn [(0, xR 81), (1, xI l1), (2, xI s.1)] [] s.2 (xEq none h0)) hb0 (fun s x1 hs ib ie => ?_)
  exact j_Md_takeA_s12  hs (fun _ _ e => ib _ e) (fun _ e => by have := ie _ e; subst this; exact j_Md_takeA_43  hf)
theorem jm_Md_takeA {l1 : Int} {h : xH} {h0 : xH}  (hf : f_Md_takeA l1 h = some h0) : J mX12_takeA true 0 0 0 xKn (xen 0 [xR 81, xI l1]) [] h (xEq none h0) := by
  unfold f_Md_takeA at hf
  refine J_cong (ls2 := [(0, xR 81), (1, xI l1)]) (st2 := []) rfl rfl ?_
  refine J_aload_n 0 dX12_takeA_0 rfl rfl ?_
  refine J_aload_n 0 dX12_takeA_1 rfl rfl ?_
  refine J_getRl (j := 3) xcf12 dX12_takeA_2 kO81 (Or.inl xq1023) (by decide) (by decide) rf_81_3 ?_
  refine J_iload_n 1 dX12_takeA_5 rfl rfl ?_
  obtain ⟨hg, hf⟩ := xgd_e hf
  refine J_iald dX12_takeA_6 (xK_r1 kO83) kO83 hg nA83 ?_
  obtain ⟨h1, eh1, hf⟩ := xlet_e hf
  refine J_putI (j := 22) xcf12 dX12_takeA_7 (xK_rg kO81) kO81 (Or.inl xq1042) (by decide) (by decide) eh1 ?_
  refine J_iconst dX12_takeA_10 (by decide) ?_
  refine J_istore_n (ls' := [(2, xI 0), (0, xR 81), (1, xI l1)]) dX12_takeA_11 rfl (by decide) rfl rfl ?_
  refine J_sub [1, 2, 0] rfl ?_
  exact j_Md_takeA_12  hf
theorem dX12_takeB_0 : decode cX12_takeB 0 = .ok (.aload_n 0, 1) := by decide +kernel
theorem dX12_takeB_1 : decode cX12_takeB 1 = .ok (.aload_n 0, 1) := by decide +kernel
theorem dX12_takeB_2 : decode cX12_takeB 2 = .ok (.getfield 13, 3) := by decide +kernel
theorem dX12_takeB_5 : decode cX12_takeB 5 = .ok (.iload_n 1, 1) := by decide +kernel
theorem dX12_takeB_6 : decode cX12_takeB 6 = .ok (.iaload, 1) := by decide +kernel
theorem dX12_takeB_7 : decode cX12_takeB 7 = .ok (.putfield 231, 3) := by decide +kernel
theorem dX12_takeB_10 : decode cX12_takeB 10 = .ok (.iconst 0, 1) := by decide +kernel
theorem dX12_takeB_11 : decode cX12_takeB 11 = .ok (.istore_n 2, 1) := by decide +kernel
theorem dX12_takeB_12 : decode cX12_takeB 12 = .ok (.iload_n 2, 1) := by decide +kernel
theorem dX12_takeB_13 : decode cX12_takeB 13 = .ok (.aload_n 0, 1) := by decide +kernel
theorem dX12_takeB_14 : decode cX12_takeB 14 = .ok (.getfield 231, 3) := by decide +kernel
theorem dX12_takeB_17 : decode cX12_takeB 17 = .ok (.if_icmp .ge 26, 3) := by decide +kernel
theorem dX12_takeB_20 : decode cX12_takeB 20 = .ok (.aload_n 0, 1) := by decide +kernel
theorem dX12_takeB_21 : decode cX12_takeB 21 = .ok (.getfield 65, 3) := by decide +kernel
theorem dX12_takeB_24 : decode cX12_takeB 24 = .ok (.iload_n 2, 1) := by decide +kernel
theorem dX12_takeB_25 : decode cX12_takeB 25 = .ok (.aload_n 0, 1) := by decide +kernel
theorem dX12_takeB_26 : decode cX12_takeB 26 = .ok (.getfield 16, 3) := by decide +kernel
theorem dX12_takeB_29 : decode cX12_takeB 29 = .ok (.bipush 12, 2) := by decide +kernel
theorem dX12_takeB_31 : decode cX12_takeB 31 = .ok (.iload_n 1, 1) := by decide +kernel
theorem dX12_takeB_32 : decode cX12_takeB 32 = .ok (.imul, 1) := by decide +kernel
theorem dX12_takeB_33 : decode cX12_takeB 33 = .ok (.iload_n 2, 1) := by decide +kernel
theorem dX12_takeB_34 : decode cX12_takeB 34 = .ok (.iadd, 1) := by decide +kernel
theorem dX12_takeB_35 : decode cX12_takeB 35 = .ok (.iaload, 1) := by decide +kernel
theorem dX12_takeB_36 : decode cX12_takeB 36 = .ok (.iastore, 1) := by decide +kernel
theorem dX12_takeB_37 : decode cX12_takeB 37 = .ok (.iinc 2 1, 3) := by decide +kernel
theorem dX12_takeB_40 : decode cX12_takeB 40 = .ok (.goto (-28), 3) := by decide +kernel
theorem dX12_takeB_43 : decode cX12_takeB 43 = .ok (.return_, 1) := by decide +kernel
theorem j_Md_takeB_43  {h : xH} {h0 : xH}  (hf : f_Md_takeB_43 h = some h0)  : J mX12_takeB true 0 0 43 xKn [] [] h (xEq none h0) := by
  unfold f_Md_takeB_43 at hf
  exact J_rt dX12_takeB_43 rfl (xq_v hf)
theorem j_Md_takeB_s12 {l1 : Int} {l2 : Int} {h : xH} {x : ((Int × xH) ⊕ xH)} {Q : xQ}  (hf : f_Md_takeB_s12 l1 l2 h = some x) (kb : ∀ (l2' : Int) (h' : xH), x = Sum.inl (l2', h') → J mX12_takeB true 0 0 12 xKn [(0, xR 81), (1, xI l1), (2, xI l2')] [] h' Q) (ke : ∀  (h' : xH), x = (Sum.inr h') → J mX12_takeB true 0 0 43 xKn [] [] h' Q) : J mX12_takeB true 0 0 12 xKn [(0, xR 81), (1, xI l1), (2, xI l2)] [] h Q := by
  unfold f_Md_takeB_s12 at hf
  refine J_iload_n 2 dX12_takeB_12 rfl rfl ?_
  refine J_aload_n 0 dX12_takeB_13 rfl rfl ?_
  refine J_getI (j := 23) xcf12 dX12_takeB_14 (xK_rg kO81) kO81 (Or.inl xq1043) (by decide) (by decide) ?_
  refine J_ic_ge (tgt := 43) dX12_takeB_17 (by decide) (fun hc => ?_) (fun hc => ?_)
  · have hf := xip hc hf
    refine J_aload_n 0 dX12_takeB_20 rfl rfl ?_
    refine J_getRl (j := 25) xcf12 dX12_takeB_21 kO81 (Or.inl xq1045) (by decide) (by decide) rf_81_25 ?_
    refine J_iload_n 2 dX12_takeB_24 rfl rfl ?_
    refine J_aload_n 0 dX12_takeB_25 rfl rfl ?_
    refine J_getRl (j := 4) xcf12 dX12_takeB_26 kO81 (Or.inl xq1024) (by decide) (by decide) rf_81_4 ?_
    refine J_bip dX12_takeB_29 (by decide) ?_
    refine J_iload_n 1 dX12_takeB_31 rfl rfl ?_
    refine J_imul dX12_takeB_32 ?_
    refine J_iload_n 2 dX12_takeB_33 rfl rfl ?_
    refine J_iadd dX12_takeB_34 ?_
    obtain ⟨hg, hf⟩ := xgd_e hf
    refine J_iald dX12_takeB_35 (xK_r1 kO84) kO84 hg nA84 ?_
    obtain ⟨hg, hf⟩ := xgd_e hf
    obtain ⟨h1, eh1, hf⟩ := xlet_e hf
    refine J_iast dX12_takeB_36 (xK_r1 kO98) kO98 hg nA98 eh1 ?_
    obtain ⟨x2, ex2, hf⟩ := xlet_e hf
    refine J_iinc (ls' := [(2, xI x2), (0, xR 81), (1, xI l1)]) 2 dX12_takeB_37 rfl (by decide) ex2 rfl ?_
    refine J_goto (tgt := 12) dX12_takeB_40 (by decide) ?_
    refine J_sub [1, 2, 0] rfl ?_
    exact kb _ _ (xinl hf)
  · have hf := xin' hc hf
    refine J_sub [] rfl ?_
    exact ke _ (xinl hf)
theorem j_Md_takeB_12 {l1 : Int} {l2 : Int} {h : xH} {h0 : xH}  (hf : f_Md_takeB_12 l1 l2 h = some h0)  : J mX12_takeB true 0 0 12 xKn [(0, xR 81), (1, xI l1), (2, xI l2)] [] h (xEq none h0) := by
  unfold f_Md_takeB_12 at hf
  obtain ⟨b0, hb0, hf⟩ := xc1_e hf
  refine xloop_ind (P := fun s : (Int × xH) => J mX12_takeB true 0 0 12 xKn [(0, xR 81), (1, xI l1), (2, xI s.1)] [] s.2 (xEq none h0)) hb0 (fun s x1 hs ib ie => ?_)
  exact j_Md_takeB_s12  hs (fun _ _ e => ib _ e) (fun _ e => by have := ie _ e; subst this; exact j_Md_takeB_43  hf)
theorem jm_Md_takeB {l1 : Int} {h : xH} {h0 : xH}  (hf : f_Md_takeB l1 h = some h0) : J mX12_takeB true 0 0 0 xKn (xen 0 [xR 81, xI l1]) [] h (xEq none h0) := by
  unfold f_Md_takeB at hf
  refine J_cong (ls2 := [(0, xR 81), (1, xI l1)]) (st2 := []) rfl rfl ?_
  refine J_aload_n 0 dX12_takeB_0 rfl rfl ?_
  refine J_aload_n 0 dX12_takeB_1 rfl rfl ?_
  refine J_getRl (j := 3) xcf12 dX12_takeB_2 kO81 (Or.inl xq1023) (by decide) (by decide) rf_81_3 ?_
  refine J_iload_n 1 dX12_takeB_5 rfl rfl ?_
  obtain ⟨hg, hf⟩ := xgd_e hf
  refine J_iald dX12_takeB_6 (xK_r1 kO83) kO83 hg nA83 ?_
  obtain ⟨h1, eh1, hf⟩ := xlet_e hf
  refine J_putI (j := 23) xcf12 dX12_takeB_7 (xK_rg kO81) kO81 (Or.inl xq1043) (by decide) (by decide) eh1 ?_
  refine J_iconst dX12_takeB_10 (by decide) ?_
  refine J_istore_n (ls' := [(2, xI 0), (0, xR 81), (1, xI l1)]) dX12_takeB_11 rfl (by decide) rfl rfl ?_
  refine J_sub [1, 2, 0] rfl ?_
  exact j_Md_takeB_12  hf
theorem dX12_wordA_0 : decode cX12_wordA 0 = .ok (.aload_n 0, 1) := by decide +kernel
theorem dX12_wordA_1 : decode cX12_wordA 1 = .ok (.aload_n 0, 1) := by decide +kernel
theorem dX12_wordA_2 : decode cX12_wordA 2 = .ok (.getfield 19, 3) := by decide +kernel
theorem dX12_wordA_5 : decode cX12_wordA 5 = .ok (.iload_n 1, 1) := by decide +kernel
theorem dX12_wordA_6 : decode cX12_wordA 6 = .ok (.iaload, 1) := by decide +kernel
theorem dX12_wordA_7 : decode cX12_wordA 7 = .ok (.putfield 228, 3) := by decide +kernel
theorem dX12_wordA_10 : decode cX12_wordA 10 = .ok (.iconst 0, 1) := by decide +kernel
theorem dX12_wordA_11 : decode cX12_wordA 11 = .ok (.istore_n 2, 1) := by decide +kernel
theorem dX12_wordA_12 : decode cX12_wordA 12 = .ok (.iload_n 2, 1) := by decide +kernel
theorem dX12_wordA_13 : decode cX12_wordA 13 = .ok (.aload_n 0, 1) := by decide +kernel
theorem dX12_wordA_14 : decode cX12_wordA 14 = .ok (.getfield 228, 3) := by decide +kernel
theorem dX12_wordA_17 : decode cX12_wordA 17 = .ok (.if_icmp .ge 26, 3) := by decide +kernel
theorem dX12_wordA_20 : decode cX12_wordA 20 = .ok (.aload_n 0, 1) := by decide +kernel
theorem dX12_wordA_21 : decode cX12_wordA 21 = .ok (.getfield 62, 3) := by decide +kernel
theorem dX12_wordA_24 : decode cX12_wordA 24 = .ok (.iload_n 2, 1) := by decide +kernel
theorem dX12_wordA_25 : decode cX12_wordA 25 = .ok (.aload_n 0, 1) := by decide +kernel
theorem dX12_wordA_26 : decode cX12_wordA 26 = .ok (.getfield 22, 3) := by decide +kernel
theorem dX12_wordA_29 : decode cX12_wordA 29 = .ok (.bipush 12, 2) := by decide +kernel
theorem dX12_wordA_31 : decode cX12_wordA 31 = .ok (.iload_n 1, 1) := by decide +kernel
theorem dX12_wordA_32 : decode cX12_wordA 32 = .ok (.imul, 1) := by decide +kernel
theorem dX12_wordA_33 : decode cX12_wordA 33 = .ok (.iload_n 2, 1) := by decide +kernel
theorem dX12_wordA_34 : decode cX12_wordA 34 = .ok (.iadd, 1) := by decide +kernel
theorem dX12_wordA_35 : decode cX12_wordA 35 = .ok (.iaload, 1) := by decide +kernel
theorem dX12_wordA_36 : decode cX12_wordA 36 = .ok (.iastore, 1) := by decide +kernel
theorem dX12_wordA_37 : decode cX12_wordA 37 = .ok (.iinc 2 1, 3) := by decide +kernel
theorem dX12_wordA_40 : decode cX12_wordA 40 = .ok (.goto (-28), 3) := by decide +kernel
theorem dX12_wordA_43 : decode cX12_wordA 43 = .ok (.return_, 1) := by decide +kernel
theorem j_Md_wordA_43  {h : xH} {h0 : xH}  (hf : f_Md_wordA_43 h = some h0)  : J mX12_wordA true 0 0 43 xKn [] [] h (xEq none h0) := by
  unfold f_Md_wordA_43 at hf
  exact J_rt dX12_wordA_43 rfl (xq_v hf)
theorem j_Md_wordA_s12 {l1 : Int} {l2 : Int} {h : xH} {x : ((Int × xH) ⊕ xH)} {Q : xQ}  (hf : f_Md_wordA_s12 l1 l2 h = some x) (kb : ∀ (l2' : Int) (h' : xH), x = Sum.inl (l2', h') → J mX12_wordA true 0 0 12 xKn [(0, xR 81), (1, xI l1), (2, xI l2')] [] h' Q) (ke : ∀  (h' : xH), x = (Sum.inr h') → J mX12_wordA true 0 0 43 xKn [] [] h' Q) : J mX12_wordA true 0 0 12 xKn [(0, xR 81), (1, xI l1), (2, xI l2)] [] h Q := by
  unfold f_Md_wordA_s12 at hf
  refine J_iload_n 2 dX12_wordA_12 rfl rfl ?_
  refine J_aload_n 0 dX12_wordA_13 rfl rfl ?_
  refine J_getI (j := 22) xcf12 dX12_wordA_14 (xK_rg kO81) kO81 (Or.inl xq1042) (by decide) (by decide) ?_
  refine J_ic_ge (tgt := 43) dX12_wordA_17 (by decide) (fun hc => ?_) (fun hc => ?_)
  · have hf := xip hc hf
    refine J_aload_n 0 dX12_wordA_20 rfl rfl ?_
    refine J_getRl (j := 24) xcf12 dX12_wordA_21 kO81 (Or.inl xq1044) (by decide) (by decide) rf_81_24 ?_
    refine J_iload_n 2 dX12_wordA_24 rfl rfl ?_
    refine J_aload_n 0 dX12_wordA_25 rfl rfl ?_
    refine J_getRl (j := 7) xcf12 dX12_wordA_26 kO81 (Or.inl xq1027) (by decide) (by decide) rf_81_7 ?_
    refine J_bip dX12_wordA_29 (by decide) ?_
    refine J_iload_n 1 dX12_wordA_31 rfl rfl ?_
    refine J_imul dX12_wordA_32 ?_
    refine J_iload_n 2 dX12_wordA_33 rfl rfl ?_
    refine J_iadd dX12_wordA_34 ?_
    obtain ⟨hg, hf⟩ := xgd_e hf
    refine J_iald dX12_wordA_35 (xK_r1 kO86) kO86 hg nA86 ?_
    obtain ⟨hg, hf⟩ := xgd_e hf
    obtain ⟨h1, eh1, hf⟩ := xlet_e hf
    refine J_iast dX12_wordA_36 (xK_r1 kO97) kO97 hg nA97 eh1 ?_
    obtain ⟨x2, ex2, hf⟩ := xlet_e hf
    refine J_iinc (ls' := [(2, xI x2), (0, xR 81), (1, xI l1)]) 2 dX12_wordA_37 rfl (by decide) ex2 rfl ?_
    refine J_goto (tgt := 12) dX12_wordA_40 (by decide) ?_
    refine J_sub [1, 2, 0] rfl ?_
    exact kb _ _ (xinl hf)
  · have hf := xin' hc hf
    refine J_sub [] rfl ?_
    exact ke _ (xinl hf)
theorem j_Md_wordA_12 {l1 : Int} {l2 : Int} {h : xH} {h0 : xH}  (hf : f_Md_wordA_12 l1 l2 h = some h0)  : J mX12_wordA true 0 0 12 xKn [(0, xR 81), (1, xI l1), (2, xI l2)] [] h (xEq none h0) := by
  unfold f_Md_wordA_12 at hf
  obtain ⟨b0, hb0, hf⟩ := xc1_e hf
  refine xloop_ind (P := fun s : (Int × xH) => J mX12_wordA true 0 0 12 xKn [(0, xR 81), (1, xI l1), (2, xI s.1)] [] s.2 (xEq none h0)) hb0 (fun s x1 hs ib ie => ?_)
  exact j_Md_wordA_s12  hs (fun _ _ e => ib _ e) (fun _ e => by have := ie _ e; subst this; exact j_Md_wordA_43  hf)
theorem jm_Md_wordA {l1 : Int} {h : xH} {h0 : xH}  (hf : f_Md_wordA l1 h = some h0) : J mX12_wordA true 0 0 0 xKn (xen 0 [xR 81, xI l1]) [] h (xEq none h0) := by
  unfold f_Md_wordA at hf
  refine J_cong (ls2 := [(0, xR 81), (1, xI l1)]) (st2 := []) rfl rfl ?_
  refine J_aload_n 0 dX12_wordA_0 rfl rfl ?_
  refine J_aload_n 0 dX12_wordA_1 rfl rfl ?_
  refine J_getRl (j := 6) xcf12 dX12_wordA_2 kO81 (Or.inl xq1026) (by decide) (by decide) rf_81_6 ?_
  refine J_iload_n 1 dX12_wordA_5 rfl rfl ?_
  obtain ⟨hg, hf⟩ := xgd_e hf
  refine J_iald dX12_wordA_6 (xK_r1 kO85) kO85 hg nA85 ?_
  obtain ⟨h1, eh1, hf⟩ := xlet_e hf
  refine J_putI (j := 22) xcf12 dX12_wordA_7 (xK_rg kO81) kO81 (Or.inl xq1042) (by decide) (by decide) eh1 ?_
  refine J_iconst dX12_wordA_10 (by decide) ?_
  refine J_istore_n (ls' := [(2, xI 0), (0, xR 81), (1, xI l1)]) dX12_wordA_11 rfl (by decide) rfl rfl ?_
  refine J_sub [1, 2, 0] rfl ?_
  exact j_Md_wordA_12  hf
theorem dX12_compares_0 : decode cX12_compares 0 = .ok (.iconst 0, 1) := by decide +kernel
theorem dX12_compares_1 : decode cX12_compares 1 = .ok (.istore 5, 2) := by decide +kernel
theorem dX12_compares_3 : decode cX12_compares 3 = .ok (.iload 5, 2) := by decide +kernel
theorem dX12_compares_5 : decode cX12_compares 5 = .ok (.aload_n 0, 1) := by decide +kernel
theorem dX12_compares_6 : decode cX12_compares 6 = .ok (.getfield 19, 3) := by decide +kernel
theorem dX12_compares_9 : decode cX12_compares 9 = .ok (.iload_n 1, 1) := by decide +kernel
theorem dX12_compares_10 : decode cX12_compares 10 = .ok (.iaload, 1) := by decide +kernel
theorem dX12_compares_11 : decode cX12_compares 11 = .ok (.if_icmp .ge 53, 3) := by decide +kernel
theorem dX12_compares_14 : decode cX12_compares 14 = .ok (.iload 5, 2) := by decide +kernel
theorem dX12_compares_16 : decode cX12_compares 16 = .ok (.iload_n 2, 1) := by decide +kernel
theorem dX12_compares_17 : decode cX12_compares 17 = .ok (.if_icmp .ge 47, 3) := by decide +kernel
theorem dX12_compares_20 : decode cX12_compares 20 = .ok (.aload_n 0, 1) := by decide +kernel
theorem dX12_compares_21 : decode cX12_compares 21 = .ok (.getfield 22, 3) := by decide +kernel
theorem dX12_compares_24 : decode cX12_compares 24 = .ok (.bipush 12, 2) := by decide +kernel
theorem dX12_compares_26 : decode cX12_compares 26 = .ok (.iload_n 1, 1) := by decide +kernel
theorem dX12_compares_27 : decode cX12_compares 27 = .ok (.imul, 1) := by decide +kernel
theorem dX12_compares_28 : decode cX12_compares 28 = .ok (.iload 5, 2) := by decide +kernel
theorem dX12_compares_30 : decode cX12_compares 30 = .ok (.iadd, 1) := by decide +kernel
theorem dX12_compares_31 : decode cX12_compares 31 = .ok (.iaload, 1) := by decide +kernel
theorem dX12_compares_32 : decode cX12_compares 32 = .ok (.aload_n 3, 1) := by decide +kernel
theorem dX12_compares_33 : decode cX12_compares 33 = .ok (.iload 4, 2) := by decide +kernel
theorem dX12_compares_35 : decode cX12_compares 35 = .ok (.iload 5, 2) := by decide +kernel
theorem dX12_compares_37 : decode cX12_compares 37 = .ok (.iadd, 1) := by decide +kernel
theorem dX12_compares_38 : decode cX12_compares 38 = .ok (.iaload, 1) := by decide +kernel
theorem dX12_compares_39 : decode cX12_compares 39 = .ok (.isub, 1) := by decide +kernel
theorem dX12_compares_40 : decode cX12_compares 40 = .ok (.istore 6, 2) := by decide +kernel
theorem dX12_compares_42 : decode cX12_compares 42 = .ok (.iload 6, 2) := by decide +kernel
theorem dX12_compares_44 : decode cX12_compares 44 = .ok (.ifCond .eq 14, 3) := by decide +kernel
theorem dX12_compares_47 : decode cX12_compares 47 = .ok (.iload 6, 2) := by decide +kernel
theorem dX12_compares_49 : decode cX12_compares 49 = .ok (.ifCond .ge 7, 3) := by decide +kernel
theorem dX12_compares_52 : decode cX12_compares 52 = .ok (.iconst (-1), 1) := by decide +kernel
theorem dX12_compares_53 : decode cX12_compares 53 = .ok (.goto 4, 3) := by decide +kernel
theorem dX12_compares_56 : decode cX12_compares 56 = .ok (.iconst 1, 1) := by decide +kernel
theorem dX12_compares_57 : decode cX12_compares 57 = .ok (.ireturn, 1) := by decide +kernel
theorem dX12_compares_58 : decode cX12_compares 58 = .ok (.iinc 5 1, 3) := by decide +kernel
theorem dX12_compares_61 : decode cX12_compares 61 = .ok (.goto (-58), 3) := by decide +kernel
theorem dX12_compares_64 : decode cX12_compares 64 = .ok (.aload_n 0, 1) := by decide +kernel
theorem dX12_compares_65 : decode cX12_compares 65 = .ok (.getfield 19, 3) := by decide +kernel
theorem dX12_compares_68 : decode cX12_compares 68 = .ok (.iload_n 1, 1) := by decide +kernel
theorem dX12_compares_69 : decode cX12_compares 69 = .ok (.iaload, 1) := by decide +kernel
theorem dX12_compares_70 : decode cX12_compares 70 = .ok (.iload_n 2, 1) := by decide +kernel
theorem dX12_compares_71 : decode cX12_compares 71 = .ok (.if_icmp .ge 7, 3) := by decide +kernel
theorem dX12_compares_74 : decode cX12_compares 74 = .ok (.iconst (-1), 1) := by decide +kernel
theorem dX12_compares_75 : decode cX12_compares 75 = .ok (.goto 18, 3) := by decide +kernel
theorem dX12_compares_78 : decode cX12_compares 78 = .ok (.aload_n 0, 1) := by decide +kernel
theorem dX12_compares_79 : decode cX12_compares 79 = .ok (.getfield 19, 3) := by decide +kernel
theorem dX12_compares_82 : decode cX12_compares 82 = .ok (.iload_n 1, 1) := by decide +kernel
theorem dX12_compares_83 : decode cX12_compares 83 = .ok (.iaload, 1) := by decide +kernel
theorem dX12_compares_84 : decode cX12_compares 84 = .ok (.iload_n 2, 1) := by decide +kernel
theorem dX12_compares_85 : decode cX12_compares 85 = .ok (.if_icmp .le 7, 3) := by decide +kernel
theorem dX12_compares_88 : decode cX12_compares 88 = .ok (.iconst 1, 1) := by decide +kernel
theorem dX12_compares_89 : decode cX12_compares 89 = .ok (.goto 4, 3) := by decide +kernel
theorem dX12_compares_92 : decode cX12_compares 92 = .ok (.iconst 0, 1) := by decide +kernel
theorem dX12_compares_93 : decode cX12_compares 93 = .ok (.ireturn, 1) := by decide +kernel
theorem j_Md_compares_64 {l1 : Int} {l2 : Int} {h : xH} {r0 : Int}  (hf : f_Md_compares_64 l1 l2 h = some r0)  : J mX12_compares true 0 0 64 xKn [(0, xR 81), (1, xI l1), (2, xI l2)] [] h (xEq (some r0) h) := by
  unfold f_Md_compares_64 at hf
  refine J_aload_n 0 dX12_compares_64 rfl rfl ?_
  refine J_getRl (j := 6) xcf12 dX12_compares_65 kO81 (Or.inl xq1026) (by decide) (by decide) rf_81_6 ?_
  refine J_iload_n 1 dX12_compares_68 rfl rfl ?_
  obtain ⟨hg, hf⟩ := xgd_e hf
  refine J_iald dX12_compares_69 (xK_r1 kO85) kO85 hg nA85 ?_
  refine J_iload_n 2 dX12_compares_70 rfl rfl ?_
  refine J_ic_ge (tgt := 78) dX12_compares_71 (by decide) (fun hc => ?_) (fun hc => ?_)
  · have hf := xip hc hf
    refine J_iconst dX12_compares_74 (by decide) ?_
    refine J_goto (tgt := 93) dX12_compares_75 (by decide) ?_
    exact J_ireti dX12_compares_93 rfl (xq_p hf)
  · have hf := xin' hc hf
    refine J_aload_n 0 dX12_compares_78 rfl rfl ?_
    refine J_getRl (j := 6) xcf12 dX12_compares_79 kO81 (Or.inl xq1026) (by decide) (by decide) rf_81_6 ?_
    refine J_iload_n 1 dX12_compares_82 rfl rfl ?_
    obtain ⟨hg, hf⟩ := xgd_e hf
    refine J_iald dX12_compares_83 (xK_r1 kO85) kO85 hg nA85 ?_
    refine J_iload_n 2 dX12_compares_84 rfl rfl ?_
    refine J_ic_le (tgt := 92) dX12_compares_85 (by decide) (fun hc => ?_) (fun hc => ?_)
    · have hf := xip hc hf
      refine J_iconst dX12_compares_88 (by decide) ?_
      refine J_goto (tgt := 93) dX12_compares_89 (by decide) ?_
      exact J_ireti dX12_compares_93 rfl (xq_p hf)
    · have hf := xin' hc hf
      refine J_iconst dX12_compares_92 (by decide) ?_
      exact J_ireti dX12_compares_93 rfl (xq_p hf)
theorem j_Md_compares_s3 {l1 : Int} {l2 : Int} {l3 : Int} {l4 : Int} {l5 : Int} {h : xH} {x : (Int ⊕ (Unit ⊕ Int))} {Q : xQ} (kl3 : xK l3 = 1) (hf : f_Md_compares_s3 l1 l2 l3 l4 l5 h = some x) (kb : ∀ (l5' : Int), x = Sum.inl l5' → J mX12_compares true 0 0 3 xKn [(0, xR 81), (1, xI l1), (2, xI l2), (3, xR l3), (4, xI l4), (5, xI l5')] [] h Q) (ke : x = (Sum.inr (Sum.inl ())) → J mX12_compares true 0 0 64 xKn [(0, xR 81), (1, xI l1), (2, xI l2)] [] h Q) (kr : ∀ v : Int, x = (Sum.inr (Sum.inr v)) → Q (some v) xKn h) : J mX12_compares true 0 0 3 xKn [(0, xR 81), (1, xI l1), (2, xI l2), (3, xR l3), (4, xI l4), (5, xI l5)] [] h Q := by
  unfold f_Md_compares_s3 at hf
  refine J_iload 5 dX12_compares_3 rfl ?_
  refine J_aload_n 0 dX12_compares_5 rfl rfl ?_
  refine J_getRl (j := 6) xcf12 dX12_compares_6 kO81 (Or.inl xq1026) (by decide) (by decide) rf_81_6 ?_
  refine J_iload_n 1 dX12_compares_9 rfl rfl ?_
  obtain ⟨hg, hf⟩ := xgd_e hf
  refine J_iald dX12_compares_10 (xK_r1 kO85) kO85 hg nA85 ?_
  refine J_ic_ge (tgt := 64) dX12_compares_11 (by decide) (fun hc => ?_) (fun hc => ?_)
  · have hf := xip hc hf
    refine J_iload 5 dX12_compares_14 rfl ?_
    refine J_iload_n 2 dX12_compares_16 rfl rfl ?_
    refine J_ic_ge (tgt := 64) dX12_compares_17 (by decide) (fun hc => ?_) (fun hc => ?_)
    · have hf := xip hc hf
      refine J_aload_n 0 dX12_compares_20 rfl rfl ?_
      refine J_getRl (j := 7) xcf12 dX12_compares_21 kO81 (Or.inl xq1027) (by decide) (by decide) rf_81_7 ?_
      refine J_bip dX12_compares_24 (by decide) ?_
      refine J_iload_n 1 dX12_compares_26 rfl rfl ?_
      refine J_imul dX12_compares_27 ?_
      refine J_iload 5 dX12_compares_28 rfl ?_
      refine J_iadd dX12_compares_30 ?_
      obtain ⟨hg, hf⟩ := xgd_e hf
      refine J_iald dX12_compares_31 (xK_r1 kO86) kO86 hg nA86 ?_
      refine J_aload_n 3 dX12_compares_32 rfl rfl ?_
      refine J_iload 4 dX12_compares_33 rfl ?_
      refine J_iload 5 dX12_compares_35 rfl ?_
      refine J_iadd dX12_compares_37 ?_
      obtain ⟨hg, hf⟩ := xgd_e hf
      refine J_iald dX12_compares_38 (xK_r1 kl3) kl3 hg rfl ?_
      refine J_isub dX12_compares_39 ?_
      obtain ⟨x1, ex1, hf⟩ := xlet_e hf
      refine J_istore (ls' := [(6, xI x1), (0, xR 81), (1, xI l1), (2, xI l2), (3, xR l3), (4, xI l4), (5, xI l5)]) dX12_compares_40 (by decide) ex1 rfl ?_
      refine J_iload 0 dX12_compares_42 rfl ?_
      refine J_if_eq (tgt := 58) dX12_compares_44 (by decide) (fun hc => ?_) (fun hc => ?_)
      · have hf := xip hc hf
        obtain ⟨x2, ex2, hf⟩ := xlet_e hf
        refine J_iinc (ls' := [(5, xI x2), (6, xI x1), (0, xR 81), (1, xI l1), (2, xI l2), (3, xR l3), (4, xI l4)]) 6 dX12_compares_58 rfl (by decide) ex2 rfl ?_
        refine J_goto (tgt := 3) dX12_compares_61 (by decide) ?_
        refine J_sub [2, 3, 4, 5, 6, 0] rfl ?_
        exact kb _ (xinl hf)
      · have hf := xin' hc hf
        refine J_iload 0 dX12_compares_47 rfl ?_
        refine J_if_ge (tgt := 56) dX12_compares_49 (by decide) (fun hc => ?_) (fun hc => ?_)
        · have hf := xip hc hf
          refine J_iconst dX12_compares_52 (by decide) ?_
          refine J_goto (tgt := 57) dX12_compares_53 (by decide) ?_
          exact J_ireti dX12_compares_57 rfl (kr _ (xinl hf))
        · have hf := xin' hc hf
          refine J_iconst dX12_compares_56 (by decide) ?_
          exact J_ireti dX12_compares_57 rfl (kr _ (xinl hf))
    · have hf := xin' hc hf
      refine J_sub [0, 1, 2] rfl ?_
      exact ke  (xinl hf)
  · have hf := xin' hc hf
    refine J_sub [0, 1, 2] rfl ?_
    exact ke  (xinl hf)
theorem j_Md_compares_3 {l1 : Int} {l2 : Int} {l3 : Int} {l4 : Int} {l5 : Int} {h : xH} {r0 : Int} (kl3 : xK l3 = 1) (hf : f_Md_compares_3 l1 l2 l3 l4 l5 h = some r0)  : J mX12_compares true 0 0 3 xKn [(0, xR 81), (1, xI l1), (2, xI l2), (3, xR l3), (4, xI l4), (5, xI l5)] [] h (xEq (some r0) h) := by
  unfold f_Md_compares_3 at hf
  obtain ⟨b0, hb0, hf⟩ := xc1_e hf
  refine xloop_ind (P := fun s : Int => J mX12_compares true 0 0 3 xKn [(0, xR 81), (1, xI l1), (2, xI l2), (3, xR l3), (4, xI l4), (5, xI s)] [] h (xEq (some r0) h)) hb0 (fun s x1 hs ib ie => ?_)
  exact j_Md_compares_s3 kl3 hs (fun _ e => ib _ e) (fun  e => by have := ie _ e; subst this; exact j_Md_compares_64  hf) (fun _ e => by have := ie _ e; subst this; exact xq_p hf)
theorem jm_Md_compares {l1 : Int} {l2 : Int} {l3 : Int} {l4 : Int} {h : xH} {r0 : Int} (kl3 : xK l3 = 1) (hf : f_Md_compares l1 l2 l3 l4 h = some r0) : J mX12_compares true 0 0 0 xKn (xen 0 [xR 81, xI l1, xI l2, xR l3, xI l4]) [] h (xEq (some r0) h) := by
  unfold f_Md_compares at hf
  refine J_cong (ls2 := [(0, xR 81), (1, xI l1), (2, xI l2), (3, xR l3), (4, xI l4)]) (st2 := []) rfl rfl ?_
  refine J_iconst dX12_compares_0 (by decide) ?_
  refine J_istore (ls' := [(5, xI 0), (0, xR 81), (1, xI l1), (2, xI l2), (3, xR l3), (4, xI l4)]) dX12_compares_1 (by decide) rfl rfl ?_
  refine J_sub [1, 2, 3, 4, 5, 0] rfl ?_
  exact j_Md_compares_3 kl3 hf
theorem dX12_wordOf_0 : decode cX12_wordOf 0 = .ok (.iconst 0, 1) := by decide +kernel
theorem dX12_wordOf_1 : decode cX12_wordOf 1 = .ok (.istore 4, 2) := by decide +kernel
theorem dX12_wordOf_3 : decode cX12_wordOf 3 = .ok (.iload 4, 2) := by decide +kernel
theorem dX12_wordOf_5 : decode cX12_wordOf 5 = .ok (.aload_n 0, 1) := by decide +kernel
theorem dX12_wordOf_6 : decode cX12_wordOf 6 = .ok (.getfield 234, 3) := by decide +kernel
theorem dX12_wordOf_9 : decode cX12_wordOf 9 = .ok (.if_icmp .ge 24, 3) := by decide +kernel
theorem dX12_wordOf_12 : decode cX12_wordOf 12 = .ok (.aload_n 0, 1) := by decide +kernel
theorem dX12_wordOf_13 : decode cX12_wordOf 13 = .ok (.iload 4, 2) := by decide +kernel
theorem dX12_wordOf_15 : decode cX12_wordOf 15 = .ok (.iload_n 1, 1) := by decide +kernel
theorem dX12_wordOf_16 : decode cX12_wordOf 16 = .ok (.aload_n 2, 1) := by decide +kernel
theorem dX12_wordOf_17 : decode cX12_wordOf 17 = .ok (.iload_n 3, 1) := by decide +kernel
theorem dX12_wordOf_18 : decode cX12_wordOf 18 = .ok (.invokevirtual 237, 3) := by decide +kernel
theorem dX12_wordOf_21 : decode cX12_wordOf 21 = .ok (.ifCond .ne 6, 3) := by decide +kernel
theorem dX12_wordOf_24 : decode cX12_wordOf 24 = .ok (.iload 4, 2) := by decide +kernel
theorem dX12_wordOf_26 : decode cX12_wordOf 26 = .ok (.ireturn, 1) := by decide +kernel
theorem dX12_wordOf_27 : decode cX12_wordOf 27 = .ok (.iinc 4 1, 3) := by decide +kernel
theorem dX12_wordOf_30 : decode cX12_wordOf 30 = .ok (.goto (-27), 3) := by decide +kernel
theorem dX12_wordOf_33 : decode cX12_wordOf 33 = .ok (.iconst (-1), 1) := by decide +kernel
theorem dX12_wordOf_34 : decode cX12_wordOf 34 = .ok (.ireturn, 1) := by decide +kernel
theorem j_Md_wordOf_33  {h : xH} {r0 : Int}  (hf : f_Md_wordOf_33 h = some r0)  : J mX12_wordOf true 0 0 33 xKn [] [] h (xEq (some r0) h) := by
  unfold f_Md_wordOf_33 at hf
  refine J_iconst dX12_wordOf_33 (by decide) ?_
  exact J_ireti dX12_wordOf_34 rfl (xq_p hf)
theorem j_Md_wordOf_s3 {l1 : Int} {l2 : Int} {l3 : Int} {l4 : Int} {h : xH} {x : (Int ⊕ (Unit ⊕ Int))} {Q : xQ} (kl2 : xK l2 = 1) (hf : f_Md_wordOf_s3 l1 l2 l3 l4 h = some x) (kb : ∀ (l4' : Int), x = Sum.inl l4' → J mX12_wordOf true 0 0 3 xKn [(0, xR 81), (1, xI l1), (2, xR l2), (3, xI l3), (4, xI l4')] [] h Q) (ke : x = (Sum.inr (Sum.inl ())) → J mX12_wordOf true 0 0 33 xKn [] [] h Q) (kr : ∀ v : Int, x = (Sum.inr (Sum.inr v)) → Q (some v) xKn h) : J mX12_wordOf true 0 0 3 xKn [(0, xR 81), (1, xI l1), (2, xR l2), (3, xI l3), (4, xI l4)] [] h Q := by
  unfold f_Md_wordOf_s3 at hf
  refine J_iload 4 dX12_wordOf_3 rfl ?_
  refine J_aload_n 0 dX12_wordOf_5 rfl rfl ?_
  refine J_getI (j := 5) xcf12 dX12_wordOf_6 (xK_rg kO81) kO81 (Or.inl xq1025) (by decide) (by decide) ?_
  refine J_ic_ge (tgt := 33) dX12_wordOf_9 (by decide) (fun hc => ?_) (fun hc => ?_)
  · have hf := xip hc hf
    refine J_aload_n 0 dX12_wordOf_12 rfl rfl ?_
    refine J_iload 4 dX12_wordOf_13 rfl ?_
    refine J_iload_n 1 dX12_wordOf_15 rfl rfl ?_
    refine J_aload_n 2 dX12_wordOf_16 rfl rfl ?_
    refine J_iload_n 3 dX12_wordOf_17 rfl rfl ?_
    obtain ⟨r1, hq, hf⟩ := xc1_e hf
    refine J_cVi (Mc := mX12_compares) [xI l4, xI l1, xR l2, xI l3] dX12_wordOf_18 (fc_Md_compares.fit ⟨xbl rfl, xbl rfl⟩) rfl ⟨Or.inl xq1303, xq1305, xq92⟩ kO81 (ci := 12) rfl rfl (xbl rfl) (xbl rfl) (jm_Md_compares kl2 hq) ?_
    refine J_if_ne (tgt := 27) dX12_wordOf_21 (by decide) (fun hc => ?_) (fun hc => ?_)
    · have hf := xip hc hf
      refine J_iload 4 dX12_wordOf_24 rfl ?_
      exact J_ireti dX12_wordOf_26 rfl (kr _ (xinl hf))
    · have hf := xin' hc hf
      obtain ⟨x2, ex2, hf⟩ := xlet_e hf
      refine J_iinc (ls' := [(4, xI x2), (0, xR 81), (1, xI l1), (2, xR l2), (3, xI l3)]) 4 dX12_wordOf_27 rfl (by decide) ex2 rfl ?_
      refine J_goto (tgt := 3) dX12_wordOf_30 (by decide) ?_
      refine J_sub [1, 2, 3, 4, 0] rfl ?_
      exact kb _ (xinl hf)
  · have hf := xin' hc hf
    refine J_sub [] rfl ?_
    exact ke  (xinl hf)
theorem j_Md_wordOf_3 {l1 : Int} {l2 : Int} {l3 : Int} {l4 : Int} {h : xH} {r0 : Int} (kl2 : xK l2 = 1) (hf : f_Md_wordOf_3 l1 l2 l3 l4 h = some r0)  : J mX12_wordOf true 0 0 3 xKn [(0, xR 81), (1, xI l1), (2, xR l2), (3, xI l3), (4, xI l4)] [] h (xEq (some r0) h) := by
  unfold f_Md_wordOf_3 at hf
  obtain ⟨b0, hb0, hf⟩ := xc1_e hf
  refine xloop_ind (P := fun s : Int => J mX12_wordOf true 0 0 3 xKn [(0, xR 81), (1, xI l1), (2, xR l2), (3, xI l3), (4, xI s)] [] h (xEq (some r0) h)) hb0 (fun s x1 hs ib ie => ?_)
  exact j_Md_wordOf_s3 kl2 hs (fun _ e => ib _ e) (fun  e => by have := ie _ e; subst this; exact j_Md_wordOf_33  hf) (fun _ e => by have := ie _ e; subst this; exact xq_p hf)
theorem jm_Md_wordOf {l1 : Int} {l2 : Int} {l3 : Int} {h : xH} {r0 : Int} (kl2 : xK l2 = 1) (hf : f_Md_wordOf l1 l2 l3 h = some r0) : J mX12_wordOf true 0 0 0 xKn (xen 0 [xR 81, xI l1, xR l2, xI l3]) [] h (xEq (some r0) h) := by
  unfold f_Md_wordOf at hf
  refine J_cong (ls2 := [(0, xR 81), (1, xI l1), (2, xR l2), (3, xI l3)]) (st2 := []) rfl rfl ?_
  refine J_iconst dX12_wordOf_0 (by decide) ?_
  refine J_istore (ls' := [(4, xI 0), (0, xR 81), (1, xI l1), (2, xR l2), (3, xI l3)]) dX12_wordOf_1 (by decide) rfl rfl ?_
  refine J_sub [1, 2, 3, 4, 0] rfl ?_
  exact j_Md_wordOf_3 kl2 hf
theorem dX12_moveWord_0 : decode cX12_moveWord 0 = .ok (.aload_n 0, 1) := by decide +kernel
theorem dX12_moveWord_1 : decode cX12_moveWord 1 = .ok (.getfield 19, 3) := by decide +kernel
theorem dX12_moveWord_4 : decode cX12_moveWord 4 = .ok (.iload_n 2, 1) := by decide +kernel
theorem dX12_moveWord_5 : decode cX12_moveWord 5 = .ok (.aload_n 0, 1) := by decide +kernel
theorem dX12_moveWord_6 : decode cX12_moveWord 6 = .ok (.getfield 19, 3) := by decide +kernel
theorem dX12_moveWord_9 : decode cX12_moveWord 9 = .ok (.iload_n 1, 1) := by decide +kernel
theorem dX12_moveWord_10 : decode cX12_moveWord 10 = .ok (.iaload, 1) := by decide +kernel
theorem dX12_moveWord_11 : decode cX12_moveWord 11 = .ok (.iastore, 1) := by decide +kernel
theorem dX12_moveWord_12 : decode cX12_moveWord 12 = .ok (.aload_n 0, 1) := by decide +kernel
theorem dX12_moveWord_13 : decode cX12_moveWord 13 = .ok (.getfield 25, 3) := by decide +kernel
theorem dX12_moveWord_16 : decode cX12_moveWord 16 = .ok (.iload_n 2, 1) := by decide +kernel
theorem dX12_moveWord_17 : decode cX12_moveWord 17 = .ok (.aload_n 0, 1) := by decide +kernel
theorem dX12_moveWord_18 : decode cX12_moveWord 18 = .ok (.getfield 25, 3) := by decide +kernel
theorem dX12_moveWord_21 : decode cX12_moveWord 21 = .ok (.iload_n 1, 1) := by decide +kernel
theorem dX12_moveWord_22 : decode cX12_moveWord 22 = .ok (.iaload, 1) := by decide +kernel
theorem dX12_moveWord_23 : decode cX12_moveWord 23 = .ok (.iastore, 1) := by decide +kernel
theorem dX12_moveWord_24 : decode cX12_moveWord 24 = .ok (.iconst 0, 1) := by decide +kernel
theorem dX12_moveWord_25 : decode cX12_moveWord 25 = .ok (.istore_n 3, 1) := by decide +kernel
theorem dX12_moveWord_26 : decode cX12_moveWord 26 = .ok (.iload_n 3, 1) := by decide +kernel
theorem dX12_moveWord_27 : decode cX12_moveWord 27 = .ok (.bipush 12, 2) := by decide +kernel
theorem dX12_moveWord_29 : decode cX12_moveWord 29 = .ok (.if_icmp .ge 31, 3) := by decide +kernel
theorem dX12_moveWord_32 : decode cX12_moveWord 32 = .ok (.aload_n 0, 1) := by decide +kernel
theorem dX12_moveWord_33 : decode cX12_moveWord 33 = .ok (.getfield 22, 3) := by decide +kernel
theorem dX12_moveWord_36 : decode cX12_moveWord 36 = .ok (.bipush 12, 2) := by decide +kernel
theorem dX12_moveWord_38 : decode cX12_moveWord 38 = .ok (.iload_n 2, 1) := by decide +kernel
theorem dX12_moveWord_39 : decode cX12_moveWord 39 = .ok (.imul, 1) := by decide +kernel
theorem dX12_moveWord_40 : decode cX12_moveWord 40 = .ok (.iload_n 3, 1) := by decide +kernel
theorem dX12_moveWord_41 : decode cX12_moveWord 41 = .ok (.iadd, 1) := by decide +kernel
theorem dX12_moveWord_42 : decode cX12_moveWord 42 = .ok (.aload_n 0, 1) := by decide +kernel
theorem dX12_moveWord_43 : decode cX12_moveWord 43 = .ok (.getfield 22, 3) := by decide +kernel
theorem dX12_moveWord_46 : decode cX12_moveWord 46 = .ok (.bipush 12, 2) := by decide +kernel
theorem dX12_moveWord_48 : decode cX12_moveWord 48 = .ok (.iload_n 1, 1) := by decide +kernel
theorem dX12_moveWord_49 : decode cX12_moveWord 49 = .ok (.imul, 1) := by decide +kernel
theorem dX12_moveWord_50 : decode cX12_moveWord 50 = .ok (.iload_n 3, 1) := by decide +kernel
theorem dX12_moveWord_51 : decode cX12_moveWord 51 = .ok (.iadd, 1) := by decide +kernel
theorem dX12_moveWord_52 : decode cX12_moveWord 52 = .ok (.iaload, 1) := by decide +kernel
theorem dX12_moveWord_53 : decode cX12_moveWord 53 = .ok (.iastore, 1) := by decide +kernel
theorem dX12_moveWord_54 : decode cX12_moveWord 54 = .ok (.iinc 3 1, 3) := by decide +kernel
theorem dX12_moveWord_57 : decode cX12_moveWord 57 = .ok (.goto (-31), 3) := by decide +kernel
theorem dX12_moveWord_60 : decode cX12_moveWord 60 = .ok (.return_, 1) := by decide +kernel
theorem j_Md_moveWord_60  {h : xH} {h0 : xH}  (hf : f_Md_moveWord_60 h = some h0)  : J mX12_moveWord true 0 0 60 xKn [] [] h (xEq none h0) := by
  unfold f_Md_moveWord_60 at hf
  exact J_rt dX12_moveWord_60 rfl (xq_v hf)
theorem j_Md_moveWord_s26 {l1 : Int} {l2 : Int} {l3 : Int} {h : xH} {x : ((Int × xH) ⊕ xH)} {Q : xQ}  (hf : f_Md_moveWord_s26 l1 l2 l3 h = some x) (kb : ∀ (l3' : Int) (h' : xH), x = Sum.inl (l3', h') → J mX12_moveWord true 0 0 26 xKn [(0, xR 81), (1, xI l1), (2, xI l2), (3, xI l3')] [] h' Q) (ke : ∀  (h' : xH), x = (Sum.inr h') → J mX12_moveWord true 0 0 60 xKn [] [] h' Q) : J mX12_moveWord true 0 0 26 xKn [(0, xR 81), (1, xI l1), (2, xI l2), (3, xI l3)] [] h Q := by
  unfold f_Md_moveWord_s26 at hf
  refine J_iload_n 3 dX12_moveWord_26 rfl rfl ?_
  refine J_bip dX12_moveWord_27 (by decide) ?_
  refine J_ic_ge (tgt := 60) dX12_moveWord_29 (by decide) (fun hc => ?_) (fun hc => ?_)
  · have hf := xip hc hf
    refine J_aload_n 0 dX12_moveWord_32 rfl rfl ?_
    refine J_getRl (j := 7) xcf12 dX12_moveWord_33 kO81 (Or.inl xq1027) (by decide) (by decide) rf_81_7 ?_
    refine J_bip dX12_moveWord_36 (by decide) ?_
    refine J_iload_n 2 dX12_moveWord_38 rfl rfl ?_
    refine J_imul dX12_moveWord_39 ?_
    refine J_iload_n 3 dX12_moveWord_40 rfl rfl ?_
    refine J_iadd dX12_moveWord_41 ?_
    refine J_aload_n 0 dX12_moveWord_42 rfl rfl ?_
    refine J_getRl (j := 7) xcf12 dX12_moveWord_43 kO81 (Or.inl xq1027) (by decide) (by decide) rf_81_7 ?_
    refine J_bip dX12_moveWord_46 (by decide) ?_
    refine J_iload_n 1 dX12_moveWord_48 rfl rfl ?_
    refine J_imul dX12_moveWord_49 ?_
    refine J_iload_n 3 dX12_moveWord_50 rfl rfl ?_
    refine J_iadd dX12_moveWord_51 ?_
    obtain ⟨hg, hf⟩ := xgd_e hf
    refine J_iald dX12_moveWord_52 (xK_r1 kO86) kO86 hg nA86 ?_
    obtain ⟨hg, hf⟩ := xgd_e hf
    obtain ⟨h1, eh1, hf⟩ := xlet_e hf
    refine J_iast dX12_moveWord_53 (xK_r1 kO86) kO86 hg nA86 eh1 ?_
    obtain ⟨x2, ex2, hf⟩ := xlet_e hf
    refine J_iinc (ls' := [(3, xI x2), (0, xR 81), (1, xI l1), (2, xI l2)]) 3 dX12_moveWord_54 rfl (by decide) ex2 rfl ?_
    refine J_goto (tgt := 26) dX12_moveWord_57 (by decide) ?_
    refine J_sub [1, 2, 3, 0] rfl ?_
    exact kb _ _ (xinl hf)
  · have hf := xin' hc hf
    refine J_sub [] rfl ?_
    exact ke _ (xinl hf)
theorem j_Md_moveWord_26 {l1 : Int} {l2 : Int} {l3 : Int} {h : xH} {h0 : xH}  (hf : f_Md_moveWord_26 l1 l2 l3 h = some h0)  : J mX12_moveWord true 0 0 26 xKn [(0, xR 81), (1, xI l1), (2, xI l2), (3, xI l3)] [] h (xEq none h0) := by
  unfold f_Md_moveWord_26 at hf
  obtain ⟨b0, hb0, hf⟩ := xc1_e hf
  refine xloop_ind (P := fun s : (Int × xH) => J mX12_moveWord true 0 0 26 xKn [(0, xR 81), (1, xI l1), (2, xI l2), (3, xI s.1)] [] s.2 (xEq none h0)) hb0 (fun s x1 hs ib ie => ?_)
  exact j_Md_moveWord_s26  hs (fun _ _ e => ib _ e) (fun _ e => by have := ie _ e; subst this; exact j_Md_moveWord_60  hf)
theorem jm_Md_moveWord {l1 : Int} {l2 : Int} {h : xH} {h0 : xH}  (hf : f_Md_moveWord l1 l2 h = some h0) : J mX12_moveWord true 0 0 0 xKn (xen 0 [xR 81, xI l1, xI l2]) [] h (xEq none h0) := by
  unfold f_Md_moveWord at hf
  refine J_cong (ls2 := [(0, xR 81), (1, xI l1), (2, xI l2)]) (st2 := []) rfl rfl ?_
  refine J_aload_n 0 dX12_moveWord_0 rfl rfl ?_
  refine J_getRl (j := 6) xcf12 dX12_moveWord_1 kO81 (Or.inl xq1026) (by decide) (by decide) rf_81_6 ?_
  refine J_iload_n 2 dX12_moveWord_4 rfl rfl ?_
  refine J_aload_n 0 dX12_moveWord_5 rfl rfl ?_
  refine J_getRl (j := 6) xcf12 dX12_moveWord_6 kO81 (Or.inl xq1026) (by decide) (by decide) rf_81_6 ?_
  refine J_iload_n 1 dX12_moveWord_9 rfl rfl ?_
  obtain ⟨hg, hf⟩ := xgd_e hf
  refine J_iald dX12_moveWord_10 (xK_r1 kO85) kO85 hg nA85 ?_
  obtain ⟨hg, hf⟩ := xgd_e hf
  obtain ⟨h1, eh1, hf⟩ := xlet_e hf
  refine J_iast dX12_moveWord_11 (xK_r1 kO85) kO85 hg nA85 eh1 ?_
  refine J_aload_n 0 dX12_moveWord_12 rfl rfl ?_
  refine J_getRl (j := 8) xcf12 dX12_moveWord_13 kO81 (Or.inl xq1028) (by decide) (by decide) rf_81_8 ?_
  refine J_iload_n 2 dX12_moveWord_16 rfl rfl ?_
  refine J_aload_n 0 dX12_moveWord_17 rfl rfl ?_
  refine J_getRl (j := 8) xcf12 dX12_moveWord_18 kO81 (Or.inl xq1028) (by decide) (by decide) rf_81_8 ?_
  refine J_iload_n 1 dX12_moveWord_21 rfl rfl ?_
  obtain ⟨hg, hf⟩ := xgd_e hf
  refine J_iald dX12_moveWord_22 (xK_r1 kO87) kO87 hg nA87 ?_
  obtain ⟨hg, hf⟩ := xgd_e hf
  obtain ⟨h2, eh2, hf⟩ := xlet_e hf
  refine J_iast dX12_moveWord_23 (xK_r1 kO87) kO87 hg nA87 eh2 ?_
  refine J_iconst dX12_moveWord_24 (by decide) ?_
  refine J_istore_n (ls' := [(3, xI 0), (0, xR 81), (1, xI l1), (2, xI l2)]) dX12_moveWord_25 rfl (by decide) rfl rfl ?_
  refine J_sub [1, 2, 3, 0] rfl ?_
  exact j_Md_moveWord_26  hf
theorem dX12_add_0 : decode cX12_add 0 = .ok (.aload_n 0, 1) := by decide +kernel
theorem dX12_add_1 : decode cX12_add 1 = .ok (.invokevirtual 241, 3) := by decide +kernel
theorem dX12_add_4 : decode cX12_add 4 = .ok (.istore_n 2, 1) := by decide +kernel
theorem dX12_add_5 : decode cX12_add 5 = .ok (.iload_n 2, 1) := by decide +kernel
theorem dX12_add_6 : decode cX12_add 6 = .ok (.ifCond .eq 13, 3) := by decide +kernel
theorem dX12_add_9 : decode cX12_add 9 = .ok (.iload_n 1, 1) := by decide +kernel
theorem dX12_add_10 : decode cX12_add 10 = .ok (.iconst 1, 1) := by decide +kernel
theorem dX12_add_11 : decode cX12_add 11 = .ok (.ldc 245, 2) := by decide +kernel
theorem dX12_add_13 : decode cX12_add 13 = .ok (.invokestatic 215, 3) := by decide +kernel
theorem dX12_add_16 : decode cX12_add 16 = .ok (.ifCond .ne 6, 3) := by decide +kernel
theorem dX12_add_19 : decode cX12_add 19 = .ok (.bipush (-2), 2) := by decide +kernel
theorem dX12_add_21 : decode cX12_add 21 = .ok (.ireturn, 1) := by decide +kernel
theorem dX12_add_22 : decode cX12_add 22 = .ok (.aload_n 0, 1) := by decide +kernel
theorem dX12_add_23 : decode cX12_add 23 = .ok (.aload_n 0, 1) := by decide +kernel
theorem dX12_add_24 : decode cX12_add 24 = .ok (.getfield 13, 3) := by decide +kernel
theorem dX12_add_27 : decode cX12_add 27 = .ok (.iconst 0, 1) := by decide +kernel
theorem dX12_add_28 : decode cX12_add 28 = .ok (.iaload, 1) := by decide +kernel
theorem dX12_add_29 : decode cX12_add 29 = .ok (.aload_n 0, 1) := by decide +kernel
theorem dX12_add_30 : decode cX12_add 30 = .ok (.getfield 16, 3) := by decide +kernel
theorem dX12_add_33 : decode cX12_add 33 = .ok (.iconst 0, 1) := by decide +kernel
theorem dX12_add_34 : decode cX12_add 34 = .ok (.invokevirtual 246, 3) := by decide +kernel
theorem dX12_add_37 : decode cX12_add 37 = .ok (.istore_n 3, 1) := by decide +kernel
theorem dX12_add_38 : decode cX12_add 38 = .ok (.iload_n 3, 1) := by decide +kernel
theorem dX12_add_39 : decode cX12_add 39 = .ok (.iconst (-1), 1) := by decide +kernel
theorem dX12_add_40 : decode cX12_add 40 = .ok (.if_icmp .eq 29, 3) := by decide +kernel
theorem dX12_add_43 : decode cX12_add 43 = .ok (.aload_n 0, 1) := by decide +kernel
theorem dX12_add_44 : decode cX12_add 44 = .ok (.getfield 25, 3) := by decide +kernel
theorem dX12_add_47 : decode cX12_add 47 = .ok (.iload_n 3, 1) := by decide +kernel
theorem dX12_add_48 : decode cX12_add 48 = .ok (.ldc 245, 2) := by decide +kernel
theorem dX12_add_50 : decode cX12_add 50 = .ok (.aload_n 0, 1) := by decide +kernel
theorem dX12_add_51 : decode cX12_add 51 = .ok (.getfield 25, 3) := by decide +kernel
theorem dX12_add_54 : decode cX12_add 54 = .ok (.iload_n 3, 1) := by decide +kernel
theorem dX12_add_55 : decode cX12_add 55 = .ok (.iaload, 1) := by decide +kernel
theorem dX12_add_56 : decode cX12_add 56 = .ok (.iload_n 1, 1) := by decide +kernel
theorem dX12_add_57 : decode cX12_add 57 = .ok (.iadd, 1) := by decide +kernel
theorem dX12_add_58 : decode cX12_add 58 = .ok (.invokestatic 250, 3) := by decide +kernel
theorem dX12_add_61 : decode cX12_add 61 = .ok (.iastore, 1) := by decide +kernel
theorem dX12_add_62 : decode cX12_add 62 = .ok (.aload_n 0, 1) := by decide +kernel
theorem dX12_add_63 : decode cX12_add 63 = .ok (.getfield 25, 3) := by decide +kernel
theorem dX12_add_66 : decode cX12_add 66 = .ok (.iload_n 3, 1) := by decide +kernel
theorem dX12_add_67 : decode cX12_add 67 = .ok (.iaload, 1) := by decide +kernel
theorem dX12_add_68 : decode cX12_add 68 = .ok (.ireturn, 1) := by decide +kernel
theorem dX12_add_69 : decode cX12_add 69 = .ok (.aload_n 0, 1) := by decide +kernel
theorem dX12_add_70 : decode cX12_add 70 = .ok (.getfield 234, 3) := by decide +kernel
theorem dX12_add_73 : decode cX12_add 73 = .ok (.sipush 200, 3) := by decide +kernel
theorem dX12_add_76 : decode cX12_add 76 = .ok (.if_icmp .ne 6, 3) := by decide +kernel
theorem dX12_add_79 : decode cX12_add 79 = .ok (.bipush (-4), 2) := by decide +kernel
theorem dX12_add_81 : decode cX12_add 81 = .ok (.ireturn, 1) := by decide +kernel
theorem dX12_add_82 : decode cX12_add 82 = .ok (.iconst 0, 1) := by decide +kernel
theorem dX12_add_83 : decode cX12_add 83 = .ok (.istore 4, 2) := by decide +kernel
theorem dX12_add_85 : decode cX12_add 85 = .ok (.iload 4, 2) := by decide +kernel
theorem dX12_add_87 : decode cX12_add 87 = .ok (.aload_n 0, 1) := by decide +kernel
theorem dX12_add_88 : decode cX12_add 88 = .ok (.getfield 234, 3) := by decide +kernel
theorem dX12_add_91 : decode cX12_add 91 = .ok (.if_icmp .ge 29, 3) := by decide +kernel
theorem dX12_add_94 : decode cX12_add 94 = .ok (.aload_n 0, 1) := by decide +kernel
theorem dX12_add_95 : decode cX12_add 95 = .ok (.iload 4, 2) := by decide +kernel
theorem dX12_add_97 : decode cX12_add 97 = .ok (.aload_n 0, 1) := by decide +kernel
theorem dX12_add_98 : decode cX12_add 98 = .ok (.getfield 13, 3) := by decide +kernel
theorem dX12_add_101 : decode cX12_add 101 = .ok (.iconst 0, 1) := by decide +kernel
theorem dX12_add_102 : decode cX12_add 102 = .ok (.iaload, 1) := by decide +kernel
theorem dX12_add_103 : decode cX12_add 103 = .ok (.aload_n 0, 1) := by decide +kernel
theorem dX12_add_104 : decode cX12_add 104 = .ok (.getfield 16, 3) := by decide +kernel
theorem dX12_add_107 : decode cX12_add 107 = .ok (.iconst 0, 1) := by decide +kernel
theorem dX12_add_108 : decode cX12_add 108 = .ok (.invokevirtual 237, 3) := by decide +kernel
theorem dX12_add_111 : decode cX12_add 111 = .ok (.ifCond .ge 9, 3) := by decide +kernel
theorem dX12_add_114 : decode cX12_add 114 = .ok (.iinc 4 1, 3) := by decide +kernel
theorem dX12_add_117 : decode cX12_add 117 = .ok (.goto (-32), 3) := by decide +kernel
theorem dX12_add_120 : decode cX12_add 120 = .ok (.aload_n 0, 1) := by decide +kernel
theorem dX12_add_121 : decode cX12_add 121 = .ok (.getfield 234, 3) := by decide +kernel
theorem dX12_add_124 : decode cX12_add 124 = .ok (.istore 5, 2) := by decide +kernel
theorem dX12_add_126 : decode cX12_add 126 = .ok (.iload 5, 2) := by decide +kernel
theorem dX12_add_128 : decode cX12_add 128 = .ok (.iload 4, 2) := by decide +kernel
theorem dX12_add_130 : decode cX12_add 130 = .ok (.if_icmp .le 19, 3) := by decide +kernel
theorem dX12_add_133 : decode cX12_add 133 = .ok (.aload_n 0, 1) := by decide +kernel
theorem dX12_add_134 : decode cX12_add 134 = .ok (.iload 5, 2) := by decide +kernel
theorem dX12_add_136 : decode cX12_add 136 = .ok (.iconst 1, 1) := by decide +kernel
theorem dX12_add_137 : decode cX12_add 137 = .ok (.isub, 1) := by decide +kernel
theorem dX12_add_138 : decode cX12_add 138 = .ok (.iload 5, 2) := by decide +kernel
theorem dX12_add_140 : decode cX12_add 140 = .ok (.invokevirtual 254, 3) := by decide +kernel
theorem dX12_add_143 : decode cX12_add 143 = .ok (.iinc 5 (-1), 3) := by decide +kernel
theorem dX12_add_146 : decode cX12_add 146 = .ok (.goto (-20), 3) := by decide +kernel
theorem dX12_add_149 : decode cX12_add 149 = .ok (.aload_n 0, 1) := by decide +kernel
theorem dX12_add_150 : decode cX12_add 150 = .ok (.dup, 1) := by decide +kernel
theorem dX12_add_151 : decode cX12_add 151 = .ok (.getfield 234, 3) := by decide +kernel
theorem dX12_add_154 : decode cX12_add 154 = .ok (.iconst 1, 1) := by decide +kernel
theorem dX12_add_155 : decode cX12_add 155 = .ok (.iadd, 1) := by decide +kernel
theorem dX12_add_156 : decode cX12_add 156 = .ok (.putfield 234, 3) := by decide +kernel
theorem dX12_add_159 : decode cX12_add 159 = .ok (.aload_n 0, 1) := by decide +kernel
theorem dX12_add_160 : decode cX12_add 160 = .ok (.getfield 19, 3) := by decide +kernel
theorem dX12_add_163 : decode cX12_add 163 = .ok (.iload 4, 2) := by decide +kernel
theorem dX12_add_165 : decode cX12_add 165 = .ok (.aload_n 0, 1) := by decide +kernel
theorem dX12_add_166 : decode cX12_add 166 = .ok (.getfield 13, 3) := by decide +kernel
theorem dX12_add_169 : decode cX12_add 169 = .ok (.iconst 0, 1) := by decide +kernel
theorem dX12_add_170 : decode cX12_add 170 = .ok (.iaload, 1) := by decide +kernel
theorem dX12_add_171 : decode cX12_add 171 = .ok (.iastore, 1) := by decide +kernel
theorem dX12_add_172 : decode cX12_add 172 = .ok (.iconst 0, 1) := by decide +kernel
theorem dX12_add_173 : decode cX12_add 173 = .ok (.istore 5, 2) := by decide +kernel
theorem dX12_add_175 : decode cX12_add 175 = .ok (.iload 5, 2) := by decide +kernel
theorem dX12_add_177 : decode cX12_add 177 = .ok (.aload_n 0, 1) := by decide +kernel
theorem dX12_add_178 : decode cX12_add 178 = .ok (.getfield 13, 3) := by decide +kernel
theorem dX12_add_181 : decode cX12_add 181 = .ok (.iconst 0, 1) := by decide +kernel
theorem dX12_add_182 : decode cX12_add 182 = .ok (.iaload, 1) := by decide +kernel
theorem dX12_add_183 : decode cX12_add 183 = .ok (.if_icmp .ge 29, 3) := by decide +kernel
theorem dX12_add_186 : decode cX12_add 186 = .ok (.aload_n 0, 1) := by decide +kernel
theorem dX12_add_187 : decode cX12_add 187 = .ok (.getfield 22, 3) := by decide +kernel
theorem dX12_add_190 : decode cX12_add 190 = .ok (.bipush 12, 2) := by decide +kernel
theorem dX12_add_192 : decode cX12_add 192 = .ok (.iload 4, 2) := by decide +kernel
theorem dX12_add_194 : decode cX12_add 194 = .ok (.imul, 1) := by decide +kernel
theorem dX12_add_195 : decode cX12_add 195 = .ok (.iload 5, 2) := by decide +kernel
theorem dX12_add_197 : decode cX12_add 197 = .ok (.iadd, 1) := by decide +kernel
theorem dX12_add_198 : decode cX12_add 198 = .ok (.aload_n 0, 1) := by decide +kernel
theorem dX12_add_199 : decode cX12_add 199 = .ok (.getfield 16, 3) := by decide +kernel
theorem dX12_add_202 : decode cX12_add 202 = .ok (.iload 5, 2) := by decide +kernel
theorem dX12_add_204 : decode cX12_add 204 = .ok (.iaload, 1) := by decide +kernel
theorem dX12_add_205 : decode cX12_add 205 = .ok (.iastore, 1) := by decide +kernel
theorem dX12_add_206 : decode cX12_add 206 = .ok (.iinc 5 1, 3) := by decide +kernel
theorem dX12_add_209 : decode cX12_add 209 = .ok (.goto (-34), 3) := by decide +kernel
theorem dX12_add_212 : decode cX12_add 212 = .ok (.aload_n 0, 1) := by decide +kernel
theorem dX12_add_213 : decode cX12_add 213 = .ok (.getfield 25, 3) := by decide +kernel
theorem dX12_add_216 : decode cX12_add 216 = .ok (.iload 4, 2) := by decide +kernel
theorem dX12_add_218 : decode cX12_add 218 = .ok (.iload_n 1, 1) := by decide +kernel
theorem dX12_add_219 : decode cX12_add 219 = .ok (.iastore, 1) := by decide +kernel
theorem dX12_add_220 : decode cX12_add 220 = .ok (.iload_n 1, 1) := by decide +kernel
theorem dX12_add_221 : decode cX12_add 221 = .ok (.ireturn, 1) := by decide +kernel
theorem j_Md_add_212 {l1 : Int} {l4 : Int} {h : xH} {r0 : Int} {h0 : xH}  (hf : f_Md_add_212 l1 l4 h = some (r0, h0))  : J mX12_add true 0 0 212 xKn [(0, xR 81), (1, xI l1), (4, xI l4)] [] h (xEq (some r0) h0) := by
  unfold f_Md_add_212 at hf
  refine J_aload_n 0 dX12_add_212 rfl rfl ?_
  refine J_getRl (j := 8) xcf12 dX12_add_213 kO81 (Or.inl xq1028) (by decide) (by decide) rf_81_8 ?_
  refine J_iload 2 dX12_add_216 rfl ?_
  refine J_iload_n 1 dX12_add_218 rfl rfl ?_
  obtain ⟨hg, hf⟩ := xgd_e hf
  obtain ⟨h1, eh1, hf⟩ := xlet_e hf
  refine J_iast dX12_add_219 (xK_r1 kO87) kO87 hg nA87 eh1 ?_
  refine J_iload_n 1 dX12_add_220 rfl rfl ?_
  exact J_ireti dX12_add_221 rfl (xq_i hf)
theorem j_Md_add_s175 {l1 : Int} {l4 : Int} {l5 : Int} {h : xH} {x : ((Int × xH) ⊕ xH)} {Q : xQ}  (hf : f_Md_add_s175 l1 l4 l5 h = some x) (kb : ∀ (l5' : Int) (h' : xH), x = Sum.inl (l5', h') → J mX12_add true 0 0 175 xKn [(0, xR 81), (1, xI l1), (4, xI l4), (5, xI l5')] [] h' Q) (ke : ∀  (h' : xH), x = (Sum.inr h') → J mX12_add true 0 0 212 xKn [(0, xR 81), (1, xI l1), (4, xI l4)] [] h' Q) : J mX12_add true 0 0 175 xKn [(0, xR 81), (1, xI l1), (4, xI l4), (5, xI l5)] [] h Q := by
  unfold f_Md_add_s175 at hf
  refine J_iload 3 dX12_add_175 rfl ?_
  refine J_aload_n 0 dX12_add_177 rfl rfl ?_
  refine J_getRl (j := 3) xcf12 dX12_add_178 kO81 (Or.inl xq1023) (by decide) (by decide) rf_81_3 ?_
  refine J_iconst dX12_add_181 (by decide) ?_
  obtain ⟨hg, hf⟩ := xgd_e hf
  refine J_iald dX12_add_182 (xK_r1 kO83) kO83 hg nA83 ?_
  refine J_ic_ge (tgt := 212) dX12_add_183 (by decide) (fun hc => ?_) (fun hc => ?_)
  · have hf := xip hc hf
    refine J_aload_n 0 dX12_add_186 rfl rfl ?_
    refine J_getRl (j := 7) xcf12 dX12_add_187 kO81 (Or.inl xq1027) (by decide) (by decide) rf_81_7 ?_
    refine J_bip dX12_add_190 (by decide) ?_
    refine J_iload 2 dX12_add_192 rfl ?_
    refine J_imul dX12_add_194 ?_
    refine J_iload 3 dX12_add_195 rfl ?_
    refine J_iadd dX12_add_197 ?_
    refine J_aload_n 0 dX12_add_198 rfl rfl ?_
    refine J_getRl (j := 4) xcf12 dX12_add_199 kO81 (Or.inl xq1024) (by decide) (by decide) rf_81_4 ?_
    refine J_iload 3 dX12_add_202 rfl ?_
    obtain ⟨hg, hf⟩ := xgd_e hf
    refine J_iald dX12_add_204 (xK_r1 kO84) kO84 hg nA84 ?_
    obtain ⟨hg, hf⟩ := xgd_e hf
    obtain ⟨h1, eh1, hf⟩ := xlet_e hf
    refine J_iast dX12_add_205 (xK_r1 kO86) kO86 hg nA86 eh1 ?_
    obtain ⟨x2, ex2, hf⟩ := xlet_e hf
    refine J_iinc (ls' := [(5, xI x2), (0, xR 81), (1, xI l1), (4, xI l4)]) 3 dX12_add_206 rfl (by decide) ex2 rfl ?_
    refine J_goto (tgt := 175) dX12_add_209 (by decide) ?_
    refine J_sub [1, 2, 3, 0] rfl ?_
    exact kb _ _ (xinl hf)
  · have hf := xin' hc hf
    refine J_sub [0, 1, 2] rfl ?_
    exact ke _ (xinl hf)
theorem j_Md_add_175 {l1 : Int} {l4 : Int} {l5 : Int} {h : xH} {r0 : Int} {h0 : xH}  (hf : f_Md_add_175 l1 l4 l5 h = some (r0, h0))  : J mX12_add true 0 0 175 xKn [(0, xR 81), (1, xI l1), (4, xI l4), (5, xI l5)] [] h (xEq (some r0) h0) := by
  unfold f_Md_add_175 at hf
  obtain ⟨b0, hb0, hf⟩ := xc1_e hf
  refine xloop_ind (P := fun s : (Int × xH) => J mX12_add true 0 0 175 xKn [(0, xR 81), (1, xI l1), (4, xI l4), (5, xI s.1)] [] s.2 (xEq (some r0) h0)) hb0 (fun s x1 hs ib ie => ?_)
  exact j_Md_add_s175  hs (fun _ _ e => ib _ e) (fun _ e => by have := ie _ e; subst this; exact j_Md_add_212  hf)
theorem j_Md_add_149 {l1 : Int} {l4 : Int} {h : xH} {r0 : Int} {h0 : xH}  (hf : f_Md_add_149 l1 l4 h = some (r0, h0))  : J mX12_add true 0 0 149 xKn [(0, xR 81), (1, xI l1), (4, xI l4)] [] h (xEq (some r0) h0) := by
  unfold f_Md_add_149 at hf
  refine J_aload_n 0 dX12_add_149 rfl rfl ?_
  refine J_dup dX12_add_150 rfl ?_
  refine J_getI (j := 5) xcf12 dX12_add_151 (xK_rg kO81) kO81 (Or.inl xq1025) (by decide) (by decide) ?_
  refine J_iconst dX12_add_154 (by decide) ?_
  refine J_iadd dX12_add_155 ?_
  obtain ⟨h1, eh1, hf⟩ := xlet_e hf
  refine J_putI (j := 5) xcf12 dX12_add_156 (xK_rg kO81) kO81 (Or.inl xq1025) (by decide) (by decide) eh1 ?_
  refine J_aload_n 0 dX12_add_159 rfl rfl ?_
  refine J_getRl (j := 6) xcf12 dX12_add_160 kO81 (Or.inl xq1026) (by decide) (by decide) rf_81_6 ?_
  refine J_iload 2 dX12_add_163 rfl ?_
  refine J_aload_n 0 dX12_add_165 rfl rfl ?_
  refine J_getRl (j := 3) xcf12 dX12_add_166 kO81 (Or.inl xq1023) (by decide) (by decide) rf_81_3 ?_
  refine J_iconst dX12_add_169 (by decide) ?_
  obtain ⟨hg, hf⟩ := xgd_e hf
  refine J_iald dX12_add_170 (xK_r1 kO83) kO83 hg nA83 ?_
  obtain ⟨hg, hf⟩ := xgd_e hf
  obtain ⟨h2, eh2, hf⟩ := xlet_e hf
  refine J_iast dX12_add_171 (xK_r1 kO85) kO85 hg nA85 eh2 ?_
  refine J_iconst dX12_add_172 (by decide) ?_
  refine J_istore (ls' := [(5, xI 0), (0, xR 81), (1, xI l1), (4, xI l4)]) dX12_add_173 (by decide) rfl rfl ?_
  refine J_sub [1, 2, 3, 0] rfl ?_
  exact j_Md_add_175  hf
theorem j_Md_add_s126 {l1 : Int} {l4 : Int} {l5 : Int} {h : xH} {x : ((Int × xH) ⊕ xH)} {Q : xQ}  (hf : f_Md_add_s126 l1 l4 l5 h = some x) (kb : ∀ (l5' : Int) (h' : xH), x = Sum.inl (l5', h') → J mX12_add true 0 0 126 xKn [(0, xR 81), (1, xI l1), (4, xI l4), (5, xI l5')] [] h' Q) (ke : ∀  (h' : xH), x = (Sum.inr h') → J mX12_add true 0 0 149 xKn [(0, xR 81), (1, xI l1), (4, xI l4)] [] h' Q) : J mX12_add true 0 0 126 xKn [(0, xR 81), (1, xI l1), (4, xI l4), (5, xI l5)] [] h Q := by
  unfold f_Md_add_s126 at hf
  refine J_iload 3 dX12_add_126 rfl ?_
  refine J_iload 2 dX12_add_128 rfl ?_
  refine J_ic_le (tgt := 149) dX12_add_130 (by decide) (fun hc => ?_) (fun hc => ?_)
  · have hf := xip hc hf
    refine J_aload_n 0 dX12_add_133 rfl rfl ?_
    refine J_iload 3 dX12_add_134 rfl ?_
    refine J_iconst dX12_add_136 (by decide) ?_
    refine J_isub dX12_add_137 ?_
    refine J_iload 3 dX12_add_138 rfl ?_
    obtain ⟨h1, hq, hf⟩ := xc1_e hf
    refine J_cVv (Mc := mX12_moveWord) [xI (w32 (l5 - 1)), xI l5] dX12_add_140 (fc_Md_moveWord.fit ⟨xbl rfl, xbl rfl⟩) rfl ⟨Or.inl xq1310, xq1312, xq93⟩ kO81 (ci := 12) rfl rfl (xbl rfl) (xbl rfl) (jm_Md_moveWord  hq) ?_
    obtain ⟨x2, ex2, hf⟩ := xlet_e hf
    refine J_iinc (ls' := [(5, xI x2), (0, xR 81), (1, xI l1), (4, xI l4)]) 3 dX12_add_143 rfl (by decide) ex2 rfl ?_
    refine J_goto (tgt := 126) dX12_add_146 (by decide) ?_
    refine J_sub [1, 2, 3, 0] rfl ?_
    exact kb _ _ (xinl hf)
  · have hf := xin' hc hf
    refine J_sub [0, 1, 2] rfl ?_
    exact ke _ (xinl hf)
theorem j_Md_add_126 {l1 : Int} {l4 : Int} {l5 : Int} {h : xH} {r0 : Int} {h0 : xH}  (hf : f_Md_add_126 l1 l4 l5 h = some (r0, h0))  : J mX12_add true 0 0 126 xKn [(0, xR 81), (1, xI l1), (4, xI l4), (5, xI l5)] [] h (xEq (some r0) h0) := by
  unfold f_Md_add_126 at hf
  obtain ⟨b0, hb0, hf⟩ := xc1_e hf
  refine xloop_ind (P := fun s : (Int × xH) => J mX12_add true 0 0 126 xKn [(0, xR 81), (1, xI l1), (4, xI l4), (5, xI s.1)] [] s.2 (xEq (some r0) h0)) hb0 (fun s x1 hs ib ie => ?_)
  exact j_Md_add_s126  hs (fun _ _ e => ib _ e) (fun _ e => by have := ie _ e; subst this; exact j_Md_add_149  hf)
theorem j_Md_add_120 {l1 : Int} {l4 : Int} {h : xH} {r0 : Int} {h0 : xH}  (hf : f_Md_add_120 l1 l4 h = some (r0, h0))  : J mX12_add true 0 0 120 xKn [(0, xR 81), (1, xI l1), (4, xI l4)] [] h (xEq (some r0) h0) := by
  unfold f_Md_add_120 at hf
  refine J_aload_n 0 dX12_add_120 rfl rfl ?_
  refine J_getI (j := 5) xcf12 dX12_add_121 (xK_rg kO81) kO81 (Or.inl xq1025) (by decide) (by decide) ?_
  obtain ⟨x1, ex1, hf⟩ := xlet_e hf
  refine J_istore (ls' := [(5, xI x1), (0, xR 81), (1, xI l1), (4, xI l4)]) dX12_add_124 (by decide) ex1 rfl ?_
  refine J_sub [1, 2, 3, 0] rfl ?_
  exact j_Md_add_126  hf
theorem j_Md_add_s85 {l1 : Int} {l4 : Int} {h : xH} {x : (Int ⊕ Int)} {Q : xQ}  (hf : f_Md_add_s85 l1 l4 h = some x) (kb : ∀ (l4' : Int), x = Sum.inl l4' → J mX12_add true 0 0 85 xKn [(0, xR 81), (1, xI l1), (4, xI l4')] [] h Q) (ke : ∀ (l4' : Int), x = (Sum.inr l4') → J mX12_add true 0 0 120 xKn [(0, xR 81), (1, xI l1), (4, xI l4')] [] h Q) : J mX12_add true 0 0 85 xKn [(0, xR 81), (1, xI l1), (4, xI l4)] [] h Q := by
  unfold f_Md_add_s85 at hf
  refine J_iload 2 dX12_add_85 rfl ?_
  refine J_aload_n 0 dX12_add_87 rfl rfl ?_
  refine J_getI (j := 5) xcf12 dX12_add_88 (xK_rg kO81) kO81 (Or.inl xq1025) (by decide) (by decide) ?_
  refine J_ic_ge (tgt := 120) dX12_add_91 (by decide) (fun hc => ?_) (fun hc => ?_)
  · have hf := xip hc hf
    refine J_aload_n 0 dX12_add_94 rfl rfl ?_
    refine J_iload 2 dX12_add_95 rfl ?_
    refine J_aload_n 0 dX12_add_97 rfl rfl ?_
    refine J_getRl (j := 3) xcf12 dX12_add_98 kO81 (Or.inl xq1023) (by decide) (by decide) rf_81_3 ?_
    refine J_iconst dX12_add_101 (by decide) ?_
    obtain ⟨hg, hf⟩ := xgd_e hf
    refine J_iald dX12_add_102 (xK_r1 kO83) kO83 hg nA83 ?_
    refine J_aload_n 0 dX12_add_103 rfl rfl ?_
    refine J_getRl (j := 4) xcf12 dX12_add_104 kO81 (Or.inl xq1024) (by decide) (by decide) rf_81_4 ?_
    refine J_iconst dX12_add_107 (by decide) ?_
    obtain ⟨r1, hq, hf⟩ := xc1_e hf
    refine J_cVi (Mc := mX12_compares) [xI l4, xI (h 83 0), xR 84, xI 0] dX12_add_108 (fc_Md_compares.fit ⟨xbl rfl, xbl rfl⟩) rfl ⟨Or.inl xq1303, xq1305, xq92⟩ kO81 (ci := 12) rfl rfl (xbl rfl) (xbl rfl) (jm_Md_compares kO84 hq) ?_
    refine J_if_ge (tgt := 120) dX12_add_111 (by decide) (fun hc => ?_) (fun hc => ?_)
    · have hf := xip hc hf
      obtain ⟨x2, ex2, hf⟩ := xlet_e hf
      refine J_iinc (ls' := [(4, xI x2), (0, xR 81), (1, xI l1)]) 2 dX12_add_114 rfl (by decide) ex2 rfl ?_
      refine J_goto (tgt := 85) dX12_add_117 (by decide) ?_
      refine J_sub [1, 2, 0] rfl ?_
      exact kb _ (xinl hf)
    · have hf := xin' hc hf
      exact ke _ (xinl hf)
  · have hf := xin' hc hf
    exact ke _ (xinl hf)
theorem j_Md_add_85 {l1 : Int} {l4 : Int} {h : xH} {r0 : Int} {h0 : xH}  (hf : f_Md_add_85 l1 l4 h = some (r0, h0))  : J mX12_add true 0 0 85 xKn [(0, xR 81), (1, xI l1), (4, xI l4)] [] h (xEq (some r0) h0) := by
  unfold f_Md_add_85 at hf
  obtain ⟨b0, hb0, hf⟩ := xc1_e hf
  refine xloop_ind (P := fun s : Int => J mX12_add true 0 0 85 xKn [(0, xR 81), (1, xI l1), (4, xI s)] [] h (xEq (some r0) h0)) hb0 (fun s x1 hs ib ie => ?_)
  exact j_Md_add_s85  hs (fun _ e => ib _ e) (fun _ e => by have := ie _ e; subst this; exact j_Md_add_120  hf)
theorem jm_Md_add {l1 : Int} {h : xH} {r0 : Int} {h0 : xH}  (hf : f_Md_add l1 h = some (r0, h0)) : J mX12_add true 0 0 0 xKn (xen 0 [xR 81, xI l1]) [] h (xEq (some r0) h0) := by
  unfold f_Md_add at hf
  refine J_cong (ls2 := [(0, xR 81), (1, xI l1)]) (st2 := []) rfl rfl ?_
  refine J_aload_n 0 dX12_add_0 rfl rfl ?_
  obtain ⟨r1, h2, hq, hf⟩ := xc2_e hf
  refine J_cVi (Mc := mX12_readsOne) [] dX12_add_1 (fc_Md_readsOne.fit ⟨xbl rfl, xbl rfl⟩) rfl ⟨Or.inl xq1290, xq1292, xq89⟩ kO81 (ci := 12) rfl rfl (xbl rfl) (xbl rfl) (jm_Md_readsOne  hq) ?_
  refine J_istore_n (ls' := [(2, xI r1), (0, xR 81), (1, xI l1)]) dX12_add_4 rfl (by decide) rfl rfl ?_
  refine J_iload_n 0 dX12_add_5 rfl rfl ?_
  refine J_if_eq (tgt := 19) dX12_add_6 (by decide) (fun hc => ?_) (fun hc => ?_)
  · have hf := xip hc hf
    refine J_bip dX12_add_19 (by decide) ?_
    exact J_ireti dX12_add_21 rfl (xq_i hf)
  · have hf := xin' hc hf
    refine J_iload_n 2 dX12_add_9 rfl rfl ?_
    refine J_iconst dX12_add_10 (by decide) ?_
    refine J_ldc (v := 100000) dX12_add_11 xq1298 (by decide) ?_
    obtain ⟨r3, hq, hf⟩ := xc1_e hf
    refine J_cSi (Mc := mX12_in) [xI l1, xI 1, xI 100000] dX12_add_13 (fc_Md_in.fit ⟨xbl rfl, xbl rfl⟩) rfl ⟨Or.inl xq1283, xq1284⟩ rfl (xbl rfl) (xbl rfl) (jm_Md_in  hq) ?_
    refine J_if_ne (tgt := 22) dX12_add_16 (by decide) (fun hc => ?_) (fun hc => ?_)
    · have hf := xip hc hf
      refine J_bip dX12_add_19 (by decide) ?_
      exact J_ireti dX12_add_21 rfl (xq_i hf)
    · have hf := xin' hc hf
      refine J_aload_n 1 dX12_add_22 rfl rfl ?_
      refine J_aload_n 1 dX12_add_23 rfl rfl ?_
      refine J_getRl (j := 3) xcf12 dX12_add_24 kO81 (Or.inl xq1023) (by decide) (by decide) rf_81_3 ?_
      refine J_iconst dX12_add_27 (by decide) ?_
      obtain ⟨hg, hf⟩ := xgd_e hf
      refine J_iald dX12_add_28 (xK_r1 kO83) kO83 hg nA83 ?_
      refine J_aload_n 1 dX12_add_29 rfl rfl ?_
      refine J_getRl (j := 4) xcf12 dX12_add_30 kO81 (Or.inl xq1024) (by decide) (by decide) rf_81_4 ?_
      refine J_iconst dX12_add_33 (by decide) ?_
      obtain ⟨r4, hq, hf⟩ := xc1_e hf
      refine J_cVi (Mc := mX12_wordOf) [xI (h2 83 0), xR 84, xI 0] dX12_add_34 (fc_Md_wordOf.fit ⟨xbl rfl, xbl rfl⟩) rfl ⟨Or.inl xq1299, xq1301, xq91⟩ kO81 (ci := 12) rfl rfl (xbl rfl) (xbl rfl) (jm_Md_wordOf kO84 hq) ?_
      refine J_istore_n (ls' := [(3, xI r4), (2, xI r1), (0, xR 81), (1, xI l1)]) dX12_add_37 rfl (by decide) rfl rfl ?_
      refine J_iload_n 0 dX12_add_38 rfl rfl ?_
      refine J_iconst dX12_add_39 (by decide) ?_
      refine J_ic_eq (tgt := 69) dX12_add_40 (by decide) (fun hc => ?_) (fun hc => ?_)
      · have hf := xip hc hf
        refine J_aload_n 2 dX12_add_69 rfl rfl ?_
        refine J_getI (j := 5) xcf12 dX12_add_70 (xK_rg kO81) kO81 (Or.inl xq1025) (by decide) (by decide) ?_
        refine J_sip dX12_add_73 (by decide) ?_
        refine J_ic_ne (tgt := 82) dX12_add_76 (by decide) (fun hc => ?_) (fun hc => ?_)
        · have hf := xip hc hf
          refine J_bip dX12_add_79 (by decide) ?_
          exact J_ireti dX12_add_81 rfl (xq_i hf)
        · have hf := xin' hc hf
          refine J_iconst dX12_add_82 (by decide) ?_
          refine J_istore (ls' := [(4, xI 0), (3, xI r4), (2, xI r1), (0, xR 81), (1, xI l1)]) dX12_add_83 (by decide) rfl rfl ?_
          refine J_sub [3, 4, 0] rfl ?_
          exact j_Md_add_85  hf
      · have hf := xin' hc hf
        refine J_aload_n 2 dX12_add_43 rfl rfl ?_
        refine J_getRl (j := 8) xcf12 dX12_add_44 kO81 (Or.inl xq1028) (by decide) (by decide) rf_81_8 ?_
        refine J_iload_n 0 dX12_add_47 rfl rfl ?_
        refine J_ldc (v := 100000) dX12_add_48 xq1298 (by decide) ?_
        refine J_aload_n 2 dX12_add_50 rfl rfl ?_
        refine J_getRl (j := 8) xcf12 dX12_add_51 kO81 (Or.inl xq1028) (by decide) (by decide) rf_81_8 ?_
        refine J_iload_n 0 dX12_add_54 rfl rfl ?_
        obtain ⟨hg, hf⟩ := xgd_e hf
        refine J_iald dX12_add_55 (xK_r1 kO87) kO87 hg nA87 ?_
        refine J_iload_n 3 dX12_add_56 rfl rfl ?_
        refine J_iadd dX12_add_57 ?_
        obtain ⟨r5, hq, hf⟩ := xc1_e hf
        refine J_cSi (Mc := mX12_min) [xI 100000, xI (w32 ((h2 87 r4) + l1))] dX12_add_58 (fc_Md_min.fit ⟨xbl rfl, xbl rfl⟩) rfl ⟨Or.inl xq1307, xq1308⟩ rfl (xbl rfl) (xbl rfl) (jm_Md_min  hq) ?_
        obtain ⟨hg, hf⟩ := xgd_e hf
        obtain ⟨h6, eh6, hf⟩ := xlet_e hf
        refine J_iast dX12_add_61 (xK_r1 kO87) kO87 hg nA87 eh6 ?_
        refine J_aload_n 2 dX12_add_62 rfl rfl ?_
        refine J_getRl (j := 8) xcf12 dX12_add_63 kO81 (Or.inl xq1028) (by decide) (by decide) rf_81_8 ?_
        refine J_iload_n 0 dX12_add_66 rfl rfl ?_
        obtain ⟨hg, hf⟩ := xgd_e hf
        refine J_iald dX12_add_67 (xK_r1 kO87) kO87 hg nA87 ?_
        exact J_ireti dX12_add_68 rfl (xq_i hf)
theorem dX12_drop_0 : decode cX12_drop 0 = .ok (.aload_n 0, 1) := by decide +kernel
theorem dX12_drop_1 : decode cX12_drop 1 = .ok (.invokevirtual 241, 3) := by decide +kernel
theorem dX12_drop_4 : decode cX12_drop 4 = .ok (.ifCond .ne 6, 3) := by decide +kernel
theorem dX12_drop_7 : decode cX12_drop 7 = .ok (.bipush (-2), 2) := by decide +kernel
theorem dX12_drop_9 : decode cX12_drop 9 = .ok (.ireturn, 1) := by decide +kernel
theorem dX12_drop_10 : decode cX12_drop 10 = .ok (.aload_n 0, 1) := by decide +kernel
theorem dX12_drop_11 : decode cX12_drop 11 = .ok (.aload_n 0, 1) := by decide +kernel
theorem dX12_drop_12 : decode cX12_drop 12 = .ok (.getfield 13, 3) := by decide +kernel
theorem dX12_drop_15 : decode cX12_drop 15 = .ok (.iconst 0, 1) := by decide +kernel
theorem dX12_drop_16 : decode cX12_drop 16 = .ok (.iaload, 1) := by decide +kernel
theorem dX12_drop_17 : decode cX12_drop 17 = .ok (.aload_n 0, 1) := by decide +kernel
theorem dX12_drop_18 : decode cX12_drop 18 = .ok (.getfield 16, 3) := by decide +kernel
theorem dX12_drop_21 : decode cX12_drop 21 = .ok (.iconst 0, 1) := by decide +kernel
theorem dX12_drop_22 : decode cX12_drop 22 = .ok (.invokevirtual 246, 3) := by decide +kernel
theorem dX12_drop_25 : decode cX12_drop 25 = .ok (.istore_n 1, 1) := by decide +kernel
theorem dX12_drop_26 : decode cX12_drop 26 = .ok (.iload_n 1, 1) := by decide +kernel
theorem dX12_drop_27 : decode cX12_drop 27 = .ok (.iconst (-1), 1) := by decide +kernel
theorem dX12_drop_28 : decode cX12_drop 28 = .ok (.if_icmp .ne 5, 3) := by decide +kernel
theorem dX12_drop_31 : decode cX12_drop 31 = .ok (.iconst 0, 1) := by decide +kernel
theorem dX12_drop_32 : decode cX12_drop 32 = .ok (.ireturn, 1) := by decide +kernel
theorem dX12_drop_33 : decode cX12_drop 33 = .ok (.aload_n 0, 1) := by decide +kernel
theorem dX12_drop_34 : decode cX12_drop 34 = .ok (.getfield 25, 3) := by decide +kernel
theorem dX12_drop_37 : decode cX12_drop 37 = .ok (.iload_n 1, 1) := by decide +kernel
theorem dX12_drop_38 : decode cX12_drop 38 = .ok (.iaload, 1) := by decide +kernel
theorem dX12_drop_39 : decode cX12_drop 39 = .ok (.istore_n 2, 1) := by decide +kernel
theorem dX12_drop_40 : decode cX12_drop 40 = .ok (.iload_n 1, 1) := by decide +kernel
theorem dX12_drop_41 : decode cX12_drop 41 = .ok (.istore_n 3, 1) := by decide +kernel
theorem dX12_drop_42 : decode cX12_drop 42 = .ok (.iload_n 3, 1) := by decide +kernel
theorem dX12_drop_43 : decode cX12_drop 43 = .ok (.aload_n 0, 1) := by decide +kernel
theorem dX12_drop_44 : decode cX12_drop 44 = .ok (.getfield 234, 3) := by decide +kernel
theorem dX12_drop_47 : decode cX12_drop 47 = .ok (.iconst 1, 1) := by decide +kernel
theorem dX12_drop_48 : decode cX12_drop 48 = .ok (.isub, 1) := by decide +kernel
theorem dX12_drop_49 : decode cX12_drop 49 = .ok (.if_icmp .ge 17, 3) := by decide +kernel
theorem dX12_drop_52 : decode cX12_drop 52 = .ok (.aload_n 0, 1) := by decide +kernel
theorem dX12_drop_53 : decode cX12_drop 53 = .ok (.iload_n 3, 1) := by decide +kernel
theorem dX12_drop_54 : decode cX12_drop 54 = .ok (.iconst 1, 1) := by decide +kernel
theorem dX12_drop_55 : decode cX12_drop 55 = .ok (.iadd, 1) := by decide +kernel
theorem dX12_drop_56 : decode cX12_drop 56 = .ok (.iload_n 3, 1) := by decide +kernel
theorem dX12_drop_57 : decode cX12_drop 57 = .ok (.invokevirtual 254, 3) := by decide +kernel
theorem dX12_drop_60 : decode cX12_drop 60 = .ok (.iinc 3 1, 3) := by decide +kernel
theorem dX12_drop_63 : decode cX12_drop 63 = .ok (.goto (-21), 3) := by decide +kernel
theorem dX12_drop_66 : decode cX12_drop 66 = .ok (.aload_n 0, 1) := by decide +kernel
theorem dX12_drop_67 : decode cX12_drop 67 = .ok (.dup, 1) := by decide +kernel
theorem dX12_drop_68 : decode cX12_drop 68 = .ok (.getfield 234, 3) := by decide +kernel
theorem dX12_drop_71 : decode cX12_drop 71 = .ok (.iconst 1, 1) := by decide +kernel
theorem dX12_drop_72 : decode cX12_drop 72 = .ok (.isub, 1) := by decide +kernel
theorem dX12_drop_73 : decode cX12_drop 73 = .ok (.putfield 234, 3) := by decide +kernel
theorem dX12_drop_76 : decode cX12_drop 76 = .ok (.iload_n 2, 1) := by decide +kernel
theorem dX12_drop_77 : decode cX12_drop 77 = .ok (.ireturn, 1) := by decide +kernel
theorem j_Md_drop_66 {l2 : Int} {h : xH} {r0 : Int} {h0 : xH}  (hf : f_Md_drop_66 l2 h = some (r0, h0))  : J mX12_drop true 0 0 66 xKn [(0, xR 81), (2, xI l2)] [] h (xEq (some r0) h0) := by
  unfold f_Md_drop_66 at hf
  refine J_aload_n 0 dX12_drop_66 rfl rfl ?_
  refine J_dup dX12_drop_67 rfl ?_
  refine J_getI (j := 5) xcf12 dX12_drop_68 (xK_rg kO81) kO81 (Or.inl xq1025) (by decide) (by decide) ?_
  refine J_iconst dX12_drop_71 (by decide) ?_
  refine J_isub dX12_drop_72 ?_
  obtain ⟨h1, eh1, hf⟩ := xlet_e hf
  refine J_putI (j := 5) xcf12 dX12_drop_73 (xK_rg kO81) kO81 (Or.inl xq1025) (by decide) (by decide) eh1 ?_
  refine J_iload_n 1 dX12_drop_76 rfl rfl ?_
  exact J_ireti dX12_drop_77 rfl (xq_i hf)
theorem j_Md_drop_s42 {l2 : Int} {l3 : Int} {h : xH} {x : ((Int × xH) ⊕ xH)} {Q : xQ}  (hf : f_Md_drop_s42 l2 l3 h = some x) (kb : ∀ (l3' : Int) (h' : xH), x = Sum.inl (l3', h') → J mX12_drop true 0 0 42 xKn [(0, xR 81), (2, xI l2), (3, xI l3')] [] h' Q) (ke : ∀  (h' : xH), x = (Sum.inr h') → J mX12_drop true 0 0 66 xKn [(0, xR 81), (2, xI l2)] [] h' Q) : J mX12_drop true 0 0 42 xKn [(0, xR 81), (2, xI l2), (3, xI l3)] [] h Q := by
  unfold f_Md_drop_s42 at hf
  refine J_iload_n 2 dX12_drop_42 rfl rfl ?_
  refine J_aload_n 0 dX12_drop_43 rfl rfl ?_
  refine J_getI (j := 5) xcf12 dX12_drop_44 (xK_rg kO81) kO81 (Or.inl xq1025) (by decide) (by decide) ?_
  refine J_iconst dX12_drop_47 (by decide) ?_
  refine J_isub dX12_drop_48 ?_
  refine J_ic_ge (tgt := 66) dX12_drop_49 (by decide) (fun hc => ?_) (fun hc => ?_)
  · have hf := xip hc hf
    refine J_aload_n 0 dX12_drop_52 rfl rfl ?_
    refine J_iload_n 2 dX12_drop_53 rfl rfl ?_
    refine J_iconst dX12_drop_54 (by decide) ?_
    refine J_iadd dX12_drop_55 ?_
    refine J_iload_n 2 dX12_drop_56 rfl rfl ?_
    obtain ⟨h1, hq, hf⟩ := xc1_e hf
    refine J_cVv (Mc := mX12_moveWord) [xI (w32 (l3 + 1)), xI l3] dX12_drop_57 (fc_Md_moveWord.fit ⟨xbl rfl, xbl rfl⟩) rfl ⟨Or.inl xq1310, xq1312, xq93⟩ kO81 (ci := 12) rfl rfl (xbl rfl) (xbl rfl) (jm_Md_moveWord  hq) ?_
    obtain ⟨x2, ex2, hf⟩ := xlet_e hf
    refine J_iinc (ls' := [(3, xI x2), (0, xR 81), (2, xI l2)]) 2 dX12_drop_60 rfl (by decide) ex2 rfl ?_
    refine J_goto (tgt := 42) dX12_drop_63 (by decide) ?_
    refine J_sub [1, 2, 0] rfl ?_
    exact kb _ _ (xinl hf)
  · have hf := xin' hc hf
    refine J_sub [0, 1] rfl ?_
    exact ke _ (xinl hf)
theorem j_Md_drop_42 {l2 : Int} {l3 : Int} {h : xH} {r0 : Int} {h0 : xH}  (hf : f_Md_drop_42 l2 l3 h = some (r0, h0))  : J mX12_drop true 0 0 42 xKn [(0, xR 81), (2, xI l2), (3, xI l3)] [] h (xEq (some r0) h0) := by
  unfold f_Md_drop_42 at hf
  obtain ⟨b0, hb0, hf⟩ := xc1_e hf
  refine xloop_ind (P := fun s : (Int × xH) => J mX12_drop true 0 0 42 xKn [(0, xR 81), (2, xI l2), (3, xI s.1)] [] s.2 (xEq (some r0) h0)) hb0 (fun s x1 hs ib ie => ?_)
  exact j_Md_drop_s42  hs (fun _ _ e => ib _ e) (fun _ e => by have := ie _ e; subst this; exact j_Md_drop_66  hf)
theorem jm_Md_drop  {h : xH} {r0 : Int} {h0 : xH}  (hf : f_Md_drop h = some (r0, h0)) : J mX12_drop true 0 0 0 xKn (xen 0 [xR 81]) [] h (xEq (some r0) h0) := by
  unfold f_Md_drop at hf
  refine J_cong (ls2 := [(0, xR 81)]) (st2 := []) rfl rfl ?_
  refine J_aload_n 0 dX12_drop_0 rfl rfl ?_
  obtain ⟨r1, h2, hq, hf⟩ := xc2_e hf
  refine J_cVi (Mc := mX12_readsOne) [] dX12_drop_1 (fc_Md_readsOne.fit ⟨xbl rfl, xbl rfl⟩) rfl ⟨Or.inl xq1290, xq1292, xq89⟩ kO81 (ci := 12) rfl rfl (xbl rfl) (xbl rfl) (jm_Md_readsOne  hq) ?_
  refine J_if_ne (tgt := 10) dX12_drop_4 (by decide) (fun hc => ?_) (fun hc => ?_)
  · have hf := xip hc hf
    refine J_bip dX12_drop_7 (by decide) ?_
    exact J_ireti dX12_drop_9 rfl (xq_i hf)
  · have hf := xin' hc hf
    refine J_aload_n 0 dX12_drop_10 rfl rfl ?_
    refine J_aload_n 0 dX12_drop_11 rfl rfl ?_
    refine J_getRl (j := 3) xcf12 dX12_drop_12 kO81 (Or.inl xq1023) (by decide) (by decide) rf_81_3 ?_
    refine J_iconst dX12_drop_15 (by decide) ?_
    obtain ⟨hg, hf⟩ := xgd_e hf
    refine J_iald dX12_drop_16 (xK_r1 kO83) kO83 hg nA83 ?_
    refine J_aload_n 0 dX12_drop_17 rfl rfl ?_
    refine J_getRl (j := 4) xcf12 dX12_drop_18 kO81 (Or.inl xq1024) (by decide) (by decide) rf_81_4 ?_
    refine J_iconst dX12_drop_21 (by decide) ?_
    obtain ⟨r3, hq, hf⟩ := xc1_e hf
    refine J_cVi (Mc := mX12_wordOf) [xI (h2 83 0), xR 84, xI 0] dX12_drop_22 (fc_Md_wordOf.fit ⟨xbl rfl, xbl rfl⟩) rfl ⟨Or.inl xq1299, xq1301, xq91⟩ kO81 (ci := 12) rfl rfl (xbl rfl) (xbl rfl) (jm_Md_wordOf kO84 hq) ?_
    refine J_istore_n (ls' := [(1, xI r3), (0, xR 81)]) dX12_drop_25 rfl (by decide) rfl rfl ?_
    refine J_iload_n 0 dX12_drop_26 rfl rfl ?_
    refine J_iconst dX12_drop_27 (by decide) ?_
    refine J_ic_ne (tgt := 33) dX12_drop_28 (by decide) (fun hc => ?_) (fun hc => ?_)
    · have hf := xip hc hf
      refine J_iconst dX12_drop_31 (by decide) ?_
      exact J_ireti dX12_drop_32 rfl (xq_i hf)
    · have hf := xin' hc hf
      refine J_aload_n 1 dX12_drop_33 rfl rfl ?_
      refine J_getRl (j := 8) xcf12 dX12_drop_34 kO81 (Or.inl xq1028) (by decide) (by decide) rf_81_8 ?_
      refine J_iload_n 0 dX12_drop_37 rfl rfl ?_
      obtain ⟨hg, hf⟩ := xgd_e hf
      refine J_iald dX12_drop_38 (xK_r1 kO87) kO87 hg nA87 ?_
      obtain ⟨x4, ex4, hf⟩ := xlet_e hf
      refine J_istore_n (ls' := [(2, xI x4), (1, xI r3), (0, xR 81)]) dX12_drop_39 rfl (by decide) ex4 rfl ?_
      refine J_iload_n 1 dX12_drop_40 rfl rfl ?_
      refine J_istore_n (ls' := [(3, xI r3), (2, xI x4), (1, xI r3), (0, xR 81)]) dX12_drop_41 rfl (by decide) rfl rfl ?_
      refine J_sub [3, 1, 0] rfl ?_
      exact j_Md_drop_42  hf
theorem dX12_find_0 : decode cX12_find 0 = .ok (.aload_n 0, 1) := by decide +kernel
theorem dX12_find_1 : decode cX12_find 1 = .ok (.invokevirtual 241, 3) := by decide +kernel
theorem dX12_find_4 : decode cX12_find 4 = .ok (.ifCond .ne 6, 3) := by decide +kernel
theorem dX12_find_7 : decode cX12_find 7 = .ok (.bipush (-2), 2) := by decide +kernel
theorem dX12_find_9 : decode cX12_find 9 = .ok (.ireturn, 1) := by decide +kernel
theorem dX12_find_10 : decode cX12_find 10 = .ok (.aload_n 0, 1) := by decide +kernel
theorem dX12_find_11 : decode cX12_find 11 = .ok (.aload_n 0, 1) := by decide +kernel
theorem dX12_find_12 : decode cX12_find 12 = .ok (.getfield 13, 3) := by decide +kernel
theorem dX12_find_15 : decode cX12_find 15 = .ok (.iconst 0, 1) := by decide +kernel
theorem dX12_find_16 : decode cX12_find 16 = .ok (.iaload, 1) := by decide +kernel
theorem dX12_find_17 : decode cX12_find 17 = .ok (.aload_n 0, 1) := by decide +kernel
theorem dX12_find_18 : decode cX12_find 18 = .ok (.getfield 16, 3) := by decide +kernel
theorem dX12_find_21 : decode cX12_find 21 = .ok (.iconst 0, 1) := by decide +kernel
theorem dX12_find_22 : decode cX12_find 22 = .ok (.invokevirtual 246, 3) := by decide +kernel
theorem dX12_find_25 : decode cX12_find 25 = .ok (.ireturn, 1) := by decide +kernel
theorem jm_Md_find  {h : xH} {r0 : Int} {h0 : xH}  (hf : f_Md_find h = some (r0, h0)) : J mX12_find true 0 0 0 xKn (xen 0 [xR 81]) [] h (xEq (some r0) h0) := by
  unfold f_Md_find at hf
  refine J_cong (ls2 := [(0, xR 81)]) (st2 := []) rfl rfl ?_
  refine J_aload_n 0 dX12_find_0 rfl rfl ?_
  obtain ⟨r1, h2, hq, hf⟩ := xc2_e hf
  refine J_cVi (Mc := mX12_readsOne) [] dX12_find_1 (fc_Md_readsOne.fit ⟨xbl rfl, xbl rfl⟩) rfl ⟨Or.inl xq1290, xq1292, xq89⟩ kO81 (ci := 12) rfl rfl (xbl rfl) (xbl rfl) (jm_Md_readsOne  hq) ?_
  refine J_if_ne (tgt := 10) dX12_find_4 (by decide) (fun hc => ?_) (fun hc => ?_)
  · have hf := xip hc hf
    refine J_bip dX12_find_7 (by decide) ?_
    exact J_ireti dX12_find_9 rfl (xq_i hf)
  · have hf := xin' hc hf
    refine J_aload_n 0 dX12_find_10 rfl rfl ?_
    refine J_aload_n 0 dX12_find_11 rfl rfl ?_
    refine J_getRl (j := 3) xcf12 dX12_find_12 kO81 (Or.inl xq1023) (by decide) (by decide) rf_81_3 ?_
    refine J_iconst dX12_find_15 (by decide) ?_
    obtain ⟨hg, hf⟩ := xgd_e hf
    refine J_iald dX12_find_16 (xK_r1 kO83) kO83 hg nA83 ?_
    refine J_aload_n 0 dX12_find_17 rfl rfl ?_
    refine J_getRl (j := 4) xcf12 dX12_find_18 kO81 (Or.inl xq1024) (by decide) (by decide) rf_81_4 ?_
    refine J_iconst dX12_find_21 (by decide) ?_
    obtain ⟨r3, hq, hf⟩ := xc1_e hf
    refine J_cVi (Mc := mX12_wordOf) [xI (h2 83 0), xR 84, xI 0] dX12_find_22 (fc_Md_wordOf.fit ⟨xbl rfl, xbl rfl⟩) rfl ⟨Or.inl xq1299, xq1301, xq91⟩ kO81 (ci := 12) rfl rfl (xbl rfl) (xbl rfl) (jm_Md_wordOf kO84 hq) ?_
    exact J_ireti dX12_find_25 rfl (xq_i hf)
theorem dX12_word_0 : decode cX12_word 0 = .ok (.iload_n 1, 1) := by decide +kernel
theorem dX12_word_1 : decode cX12_word 1 = .ok (.iconst 0, 1) := by decide +kernel
theorem dX12_word_2 : decode cX12_word 2 = .ok (.aload_n 0, 1) := by decide +kernel
theorem dX12_word_3 : decode cX12_word 3 = .ok (.getfield 234, 3) := by decide +kernel
theorem dX12_word_6 : decode cX12_word 6 = .ok (.iconst 1, 1) := by decide +kernel
theorem dX12_word_7 : decode cX12_word 7 = .ok (.isub, 1) := by decide +kernel
theorem dX12_word_8 : decode cX12_word 8 = .ok (.invokestatic 215, 3) := by decide +kernel
theorem dX12_word_11 : decode cX12_word 11 = .ok (.ifCond .eq 7, 3) := by decide +kernel
theorem dX12_word_14 : decode cX12_word 14 = .ok (.iload_n 2, 1) := by decide +kernel
theorem dX12_word_15 : decode cX12_word 15 = .ok (.ifCond .ge 6, 3) := by decide +kernel
theorem dX12_word_18 : decode cX12_word 18 = .ok (.bipush (-2), 2) := by decide +kernel
theorem dX12_word_20 : decode cX12_word 20 = .ok (.ireturn, 1) := by decide +kernel
theorem dX12_word_21 : decode cX12_word 21 = .ok (.iload_n 2, 1) := by decide +kernel
theorem dX12_word_22 : decode cX12_word 22 = .ok (.ifCond .ne 10, 3) := by decide +kernel
theorem dX12_word_25 : decode cX12_word 25 = .ok (.aload_n 0, 1) := by decide +kernel
theorem dX12_word_26 : decode cX12_word 26 = .ok (.getfield 25, 3) := by decide +kernel
theorem dX12_word_29 : decode cX12_word 29 = .ok (.iload_n 1, 1) := by decide +kernel
theorem dX12_word_30 : decode cX12_word 30 = .ok (.iaload, 1) := by decide +kernel
theorem dX12_word_31 : decode cX12_word 31 = .ok (.ireturn, 1) := by decide +kernel
theorem dX12_word_32 : decode cX12_word 32 = .ok (.iload_n 2, 1) := by decide +kernel
theorem dX12_word_33 : decode cX12_word 33 = .ok (.iconst 1, 1) := by decide +kernel
theorem dX12_word_34 : decode cX12_word 34 = .ok (.if_icmp .ne 10, 3) := by decide +kernel
theorem dX12_word_37 : decode cX12_word 37 = .ok (.aload_n 0, 1) := by decide +kernel
theorem dX12_word_38 : decode cX12_word 38 = .ok (.getfield 19, 3) := by decide +kernel
theorem dX12_word_41 : decode cX12_word 41 = .ok (.iload_n 1, 1) := by decide +kernel
theorem dX12_word_42 : decode cX12_word 42 = .ok (.iaload, 1) := by decide +kernel
theorem dX12_word_43 : decode cX12_word 43 = .ok (.ireturn, 1) := by decide +kernel
theorem dX12_word_44 : decode cX12_word 44 = .ok (.iload_n 2, 1) := by decide +kernel
theorem dX12_word_45 : decode cX12_word 45 = .ok (.iconst 2, 1) := by decide +kernel
theorem dX12_word_46 : decode cX12_word 46 = .ok (.isub, 1) := by decide +kernel
theorem dX12_word_47 : decode cX12_word 47 = .ok (.aload_n 0, 1) := by decide +kernel
theorem dX12_word_48 : decode cX12_word 48 = .ok (.getfield 19, 3) := by decide +kernel
theorem dX12_word_51 : decode cX12_word 51 = .ok (.iload_n 1, 1) := by decide +kernel
theorem dX12_word_52 : decode cX12_word 52 = .ok (.iaload, 1) := by decide +kernel
theorem dX12_word_53 : decode cX12_word 53 = .ok (.if_icmp .ge 19, 3) := by decide +kernel
theorem dX12_word_56 : decode cX12_word 56 = .ok (.aload_n 0, 1) := by decide +kernel
theorem dX12_word_57 : decode cX12_word 57 = .ok (.getfield 22, 3) := by decide +kernel
theorem dX12_word_60 : decode cX12_word 60 = .ok (.bipush 12, 2) := by decide +kernel
theorem dX12_word_62 : decode cX12_word 62 = .ok (.iload_n 1, 1) := by decide +kernel
theorem dX12_word_63 : decode cX12_word 63 = .ok (.imul, 1) := by decide +kernel
theorem dX12_word_64 : decode cX12_word 64 = .ok (.iload_n 2, 1) := by decide +kernel
theorem dX12_word_65 : decode cX12_word 65 = .ok (.iadd, 1) := by decide +kernel
theorem dX12_word_66 : decode cX12_word 66 = .ok (.iconst 2, 1) := by decide +kernel
theorem dX12_word_67 : decode cX12_word 67 = .ok (.isub, 1) := by decide +kernel
theorem dX12_word_68 : decode cX12_word 68 = .ok (.iaload, 1) := by decide +kernel
theorem dX12_word_69 : decode cX12_word 69 = .ok (.goto 4, 3) := by decide +kernel
theorem dX12_word_72 : decode cX12_word 72 = .ok (.iconst (-1), 1) := by decide +kernel
theorem dX12_word_73 : decode cX12_word 73 = .ok (.ireturn, 1) := by decide +kernel
theorem jm_Md_word {l1 : Int} {l2 : Int} {h : xH} {r0 : Int}  (hf : f_Md_word l1 l2 h = some r0) : J mX12_word true 0 0 0 xKn (xen 0 [xR 81, xI l1, xI l2]) [] h (xEq (some r0) h) := by
  unfold f_Md_word at hf
  refine J_cong (ls2 := [(0, xR 81), (1, xI l1), (2, xI l2)]) (st2 := []) rfl rfl ?_
  refine J_iload_n 1 dX12_word_0 rfl rfl ?_
  refine J_iconst dX12_word_1 (by decide) ?_
  refine J_aload_n 0 dX12_word_2 rfl rfl ?_
  refine J_getI (j := 5) xcf12 dX12_word_3 (xK_rg kO81) kO81 (Or.inl xq1025) (by decide) (by decide) ?_
  refine J_iconst dX12_word_6 (by decide) ?_
  refine J_isub dX12_word_7 ?_
  obtain ⟨r1, hq, hf⟩ := xc1_e hf
  refine J_cSi (Mc := mX12_in) [xI l1, xI 0, xI (w32 ((h 81 5) - 1))] dX12_word_8 (fc_Md_in.fit ⟨xbl rfl, xbl rfl⟩) rfl ⟨Or.inl xq1283, xq1284⟩ rfl (xbl rfl) (xbl rfl) (jm_Md_in  hq) ?_
  refine J_if_eq (tgt := 18) dX12_word_11 (by decide) (fun hc => ?_) (fun hc => ?_)
  · have hf := xip hc hf
    refine J_bip dX12_word_18 (by decide) ?_
    exact J_ireti dX12_word_20 rfl (xq_p hf)
  · have hf := xin' hc hf
    refine J_iload_n 2 dX12_word_14 rfl rfl ?_
    refine J_if_ge (tgt := 21) dX12_word_15 (by decide) (fun hc => ?_) (fun hc => ?_)
    · have hf := xip hc hf
      refine J_bip dX12_word_18 (by decide) ?_
      exact J_ireti dX12_word_20 rfl (xq_p hf)
    · have hf := xin' hc hf
      refine J_iload_n 2 dX12_word_21 rfl rfl ?_
      refine J_if_ne (tgt := 32) dX12_word_22 (by decide) (fun hc => ?_) (fun hc => ?_)
      · have hf := xip hc hf
        refine J_aload_n 0 dX12_word_25 rfl rfl ?_
        refine J_getRl (j := 8) xcf12 dX12_word_26 kO81 (Or.inl xq1028) (by decide) (by decide) rf_81_8 ?_
        refine J_iload_n 1 dX12_word_29 rfl rfl ?_
        obtain ⟨hg, hf⟩ := xgd_e hf
        refine J_iald dX12_word_30 (xK_r1 kO87) kO87 hg nA87 ?_
        exact J_ireti dX12_word_31 rfl (xq_p hf)
      · have hf := xin' hc hf
        refine J_iload_n 2 dX12_word_32 rfl rfl ?_
        refine J_iconst dX12_word_33 (by decide) ?_
        refine J_ic_ne (tgt := 44) dX12_word_34 (by decide) (fun hc => ?_) (fun hc => ?_)
        · have hf := xip hc hf
          refine J_aload_n 0 dX12_word_37 rfl rfl ?_
          refine J_getRl (j := 6) xcf12 dX12_word_38 kO81 (Or.inl xq1026) (by decide) (by decide) rf_81_6 ?_
          refine J_iload_n 1 dX12_word_41 rfl rfl ?_
          obtain ⟨hg, hf⟩ := xgd_e hf
          refine J_iald dX12_word_42 (xK_r1 kO85) kO85 hg nA85 ?_
          exact J_ireti dX12_word_43 rfl (xq_p hf)
        · have hf := xin' hc hf
          refine J_iload_n 2 dX12_word_44 rfl rfl ?_
          refine J_iconst dX12_word_45 (by decide) ?_
          refine J_isub dX12_word_46 ?_
          refine J_aload_n 0 dX12_word_47 rfl rfl ?_
          refine J_getRl (j := 6) xcf12 dX12_word_48 kO81 (Or.inl xq1026) (by decide) (by decide) rf_81_6 ?_
          refine J_iload_n 1 dX12_word_51 rfl rfl ?_
          obtain ⟨hg, hf⟩ := xgd_e hf
          refine J_iald dX12_word_52 (xK_r1 kO85) kO85 hg nA85 ?_
          refine J_ic_ge (tgt := 72) dX12_word_53 (by decide) (fun hc => ?_) (fun hc => ?_)
          · have hf := xip hc hf
            refine J_aload_n 0 dX12_word_56 rfl rfl ?_
            refine J_getRl (j := 7) xcf12 dX12_word_57 kO81 (Or.inl xq1027) (by decide) (by decide) rf_81_7 ?_
            refine J_bip dX12_word_60 (by decide) ?_
            refine J_iload_n 1 dX12_word_62 rfl rfl ?_
            refine J_imul dX12_word_63 ?_
            refine J_iload_n 2 dX12_word_64 rfl rfl ?_
            refine J_iadd dX12_word_65 ?_
            refine J_iconst dX12_word_66 (by decide) ?_
            refine J_isub dX12_word_67 ?_
            obtain ⟨hg, hf⟩ := xgd_e hf
            refine J_iald dX12_word_68 (xK_r1 kO86) kO86 hg nA86 ?_
            refine J_goto (tgt := 73) dX12_word_69 (by decide) ?_
            exact J_ireti dX12_word_73 rfl (xq_p hf)
          · have hf := xin' hc hf
            refine J_iconst dX12_word_72 (by decide) ?_
            exact J_ireti dX12_word_73 rfl (xq_p hf)
