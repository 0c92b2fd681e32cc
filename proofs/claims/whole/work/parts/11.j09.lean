/-! the machine follows the functions -/
theorem dX12_stateRow_0 : decode cX12_stateRow 0 = .ok (.aload_n 0, 1) := by decide +kernel
theorem dX12_stateRow_1 : decode cX12_stateRow 1 = .ok (.iload_n 1, 1) := by decide +kernel
theorem dX12_stateRow_2 : decode cX12_stateRow 2 = .ok (.putfield 228, 3) := by decide +kernel
theorem dX12_stateRow_5 : decode cX12_stateRow 5 = .ok (.iconst 0, 1) := by decide +kernel
theorem dX12_stateRow_6 : decode cX12_stateRow 6 = .ok (.istore_n 2, 1) := by decide +kernel
theorem dX12_stateRow_7 : decode cX12_stateRow 7 = .ok (.iload_n 2, 1) := by decide +kernel
theorem dX12_stateRow_8 : decode cX12_stateRow 8 = .ok (.aload_n 0, 1) := by decide +kernel
theorem dX12_stateRow_9 : decode cX12_stateRow 9 = .ok (.getfield 231, 3) := by decide +kernel
theorem dX12_stateRow_12 : decode cX12_stateRow 12 = .ok (.if_icmp .gt 252, 3) := by decide +kernel
theorem dX12_stateRow_15 : decode cX12_stateRow 15 = .ok (.iload_n 1, 1) := by decide +kernel
theorem dX12_stateRow_16 : decode cX12_stateRow 16 = .ok (.ifCond .ne 11, 3) := by decide +kernel
theorem dX12_stateRow_19 : decode cX12_stateRow 19 = .ok (.iload_n 2, 1) := by decide +kernel
theorem dX12_stateRow_20 : decode cX12_stateRow 20 = .ok (.ifCond .ne 7, 3) := by decide +kernel
theorem dX12_stateRow_23 : decode cX12_stateRow 23 = .ok (.iconst 0, 1) := by decide +kernel
theorem dX12_stateRow_24 : decode cX12_stateRow 24 = .ok (.goto 6, 3) := by decide +kernel
theorem dX12_stateRow_27 : decode cX12_stateRow 27 = .ok (.ldc_w 302, 3) := by decide +kernel
theorem dX12_stateRow_30 : decode cX12_stateRow 30 = .ok (.istore_n 3, 1) := by decide +kernel
theorem dX12_stateRow_31 : decode cX12_stateRow 31 = .ok (.iconst 0, 1) := by decide +kernel
theorem dX12_stateRow_32 : decode cX12_stateRow 32 = .ok (.istore 4, 2) := by decide +kernel
theorem dX12_stateRow_34 : decode cX12_stateRow 34 = .ok (.iload 4, 2) := by decide +kernel
theorem dX12_stateRow_36 : decode cX12_stateRow 36 = .ok (.bipush 7, 2) := by decide +kernel
theorem dX12_stateRow_38 : decode cX12_stateRow 38 = .ok (.aload_n 0, 1) := by decide +kernel
theorem dX12_stateRow_39 : decode cX12_stateRow 39 = .ok (.getfield 266, 3) := by decide +kernel
theorem dX12_stateRow_42 : decode cX12_stateRow 42 = .ok (.iadd, 1) := by decide +kernel
theorem dX12_stateRow_43 : decode cX12_stateRow 43 = .ok (.if_icmp .ge 203, 3) := by decide +kernel
theorem dX12_stateRow_46 : decode cX12_stateRow 46 = .ok (.iload 4, 2) := by decide +kernel
theorem dX12_stateRow_48 : decode cX12_stateRow 48 = .ok (.bipush 7, 2) := by decide +kernel
theorem dX12_stateRow_50 : decode cX12_stateRow 50 = .ok (.invokestatic 250, 3) := by decide +kernel
theorem dX12_stateRow_53 : decode cX12_stateRow 53 = .ok (.istore 5, 2) := by decide +kernel
theorem dX12_stateRow_55 : decode cX12_stateRow 55 = .ok (.iload 5, 2) := by decide +kernel
theorem dX12_stateRow_57 : decode cX12_stateRow 57 = .ok (.bipush 7, 2) := by decide +kernel
theorem dX12_stateRow_59 : decode cX12_stateRow 59 = .ok (.if_icmp .ne 16, 3) := by decide +kernel
theorem dX12_stateRow_62 : decode cX12_stateRow 62 = .ok (.aload_n 0, 1) := by decide +kernel
theorem dX12_stateRow_63 : decode cX12_stateRow 63 = .ok (.getfield 47, 3) := by decide +kernel
theorem dX12_stateRow_66 : decode cX12_stateRow 66 = .ok (.iload 4, 2) := by decide +kernel
theorem dX12_stateRow_68 : decode cX12_stateRow 68 = .ok (.bipush 7, 2) := by decide +kernel
theorem dX12_stateRow_70 : decode cX12_stateRow 70 = .ok (.isub, 1) := by decide +kernel
theorem dX12_stateRow_71 : decode cX12_stateRow 71 = .ok (.iaload, 1) := by decide +kernel
theorem dX12_stateRow_72 : decode cX12_stateRow 72 = .ok (.goto 31, 3) := by decide +kernel
theorem dX12_stateRow_75 : decode cX12_stateRow 75 = .ok (.iload 5, 2) := by decide +kernel
theorem dX12_stateRow_77 : decode cX12_stateRow 77 = .ok (.iconst 3, 1) := by decide +kernel
theorem dX12_stateRow_78 : decode cX12_stateRow 78 = .ok (.if_icmp .ne 7, 3) := by decide +kernel
theorem dX12_stateRow_81 : decode cX12_stateRow 81 = .ok (.iconst 0, 1) := by decide +kernel
theorem dX12_stateRow_82 : decode cX12_stateRow 82 = .ok (.goto 21, 3) := by decide +kernel
theorem dX12_stateRow_85 : decode cX12_stateRow 85 = .ok (.iload 5, 2) := by decide +kernel
theorem dX12_stateRow_87 : decode cX12_stateRow 87 = .ok (.iconst 4, 1) := by decide +kernel
theorem dX12_stateRow_88 : decode cX12_stateRow 88 = .ok (.if_icmp .eq 10, 3) := by decide +kernel
theorem dX12_stateRow_91 : decode cX12_stateRow 91 = .ok (.iload 5, 2) := by decide +kernel
theorem dX12_stateRow_93 : decode cX12_stateRow 93 = .ok (.bipush 6, 2) := by decide +kernel
theorem dX12_stateRow_95 : decode cX12_stateRow 95 = .ok (.if_icmp .ne 7, 3) := by decide +kernel
theorem dX12_stateRow_98 : decode cX12_stateRow 98 = .ok (.iconst 2, 1) := by decide +kernel
theorem dX12_stateRow_99 : decode cX12_stateRow 99 = .ok (.goto 4, 3) := by decide +kernel
theorem dX12_stateRow_102 : decode cX12_stateRow 102 = .ok (.iconst 1, 1) := by decide +kernel
theorem dX12_stateRow_103 : decode cX12_stateRow 103 = .ok (.istore 6, 2) := by decide +kernel
theorem dX12_stateRow_105 : decode cX12_stateRow 105 = .ok (.iload 5, 2) := by decide +kernel
theorem dX12_stateRow_107 : decode cX12_stateRow 107 = .ok (.bipush 7, 2) := by decide +kernel
theorem dX12_stateRow_109 : decode cX12_stateRow 109 = .ok (.if_icmp .ne 16, 3) := by decide +kernel
theorem dX12_stateRow_112 : decode cX12_stateRow 112 = .ok (.aload_n 0, 1) := by decide +kernel
theorem dX12_stateRow_113 : decode cX12_stateRow 113 = .ok (.getfield 53, 3) := by decide +kernel
theorem dX12_stateRow_116 : decode cX12_stateRow 116 = .ok (.iload 4, 2) := by decide +kernel
theorem dX12_stateRow_118 : decode cX12_stateRow 118 = .ok (.bipush 7, 2) := by decide +kernel
theorem dX12_stateRow_120 : decode cX12_stateRow 120 = .ok (.isub, 1) := by decide +kernel
theorem dX12_stateRow_121 : decode cX12_stateRow 121 = .ok (.iaload, 1) := by decide +kernel
theorem dX12_stateRow_122 : decode cX12_stateRow 122 = .ok (.goto 30, 3) := by decide +kernel
theorem dX12_stateRow_125 : decode cX12_stateRow 125 = .ok (.iload 5, 2) := by decide +kernel
theorem dX12_stateRow_127 : decode cX12_stateRow 127 = .ok (.iconst 2, 1) := by decide +kernel
theorem dX12_stateRow_128 : decode cX12_stateRow 128 = .ok (.if_icmp .ne 7, 3) := by decide +kernel
theorem dX12_stateRow_131 : decode cX12_stateRow 131 = .ok (.iconst 0, 1) := by decide +kernel
theorem dX12_stateRow_132 : decode cX12_stateRow 132 = .ok (.goto 20, 3) := by decide +kernel
theorem dX12_stateRow_135 : decode cX12_stateRow 135 = .ok (.iload 5, 2) := by decide +kernel
theorem dX12_stateRow_137 : decode cX12_stateRow 137 = .ok (.iconst 4, 1) := by decide +kernel
theorem dX12_stateRow_138 : decode cX12_stateRow 138 = .ok (.if_icmp .eq 9, 3) := by decide +kernel
theorem dX12_stateRow_141 : decode cX12_stateRow 141 = .ok (.iload 5, 2) := by decide +kernel
theorem dX12_stateRow_143 : decode cX12_stateRow 143 = .ok (.iconst 5, 1) := by decide +kernel
theorem dX12_stateRow_144 : decode cX12_stateRow 144 = .ok (.if_icmp .ne 7, 3) := by decide +kernel
theorem dX12_stateRow_147 : decode cX12_stateRow 147 = .ok (.iconst 2, 1) := by decide +kernel
theorem dX12_stateRow_148 : decode cX12_stateRow 148 = .ok (.goto 4, 3) := by decide +kernel
theorem dX12_stateRow_151 : decode cX12_stateRow 151 = .ok (.iconst 1, 1) := by decide +kernel
theorem dX12_stateRow_152 : decode cX12_stateRow 152 = .ok (.istore 7, 2) := by decide +kernel
theorem dX12_stateRow_154 : decode cX12_stateRow 154 = .ok (.iload_n 1, 1) := by decide +kernel
theorem dX12_stateRow_155 : decode cX12_stateRow 155 = .ok (.iload 6, 2) := by decide +kernel
theorem dX12_stateRow_157 : decode cX12_stateRow 157 = .ok (.isub, 1) := by decide +kernel
theorem dX12_stateRow_158 : decode cX12_stateRow 158 = .ok (.ifCond .lt 82, 3) := by decide +kernel
theorem dX12_stateRow_161 : decode cX12_stateRow 161 = .ok (.iload_n 2, 1) := by decide +kernel
theorem dX12_stateRow_162 : decode cX12_stateRow 162 = .ok (.iload 7, 2) := by decide +kernel
theorem dX12_stateRow_164 : decode cX12_stateRow 164 = .ok (.isub, 1) := by decide +kernel
theorem dX12_stateRow_165 : decode cX12_stateRow 165 = .ok (.ifCond .ge 6, 3) := by decide +kernel
theorem dX12_stateRow_168 : decode cX12_stateRow 168 = .ok (.goto 72, 3) := by decide +kernel
theorem dX12_stateRow_171 : decode cX12_stateRow 171 = .ok (.aload_n 0, 1) := by decide +kernel
theorem dX12_stateRow_172 : decode cX12_stateRow 172 = .ok (.getfield 122, 3) := by decide +kernel
theorem dX12_stateRow_175 : decode cX12_stateRow 175 = .ok (.bipush 13, 2) := by decide +kernel
theorem dX12_stateRow_177 : decode cX12_stateRow 177 = .ok (.iload_n 1, 1) := by decide +kernel
theorem dX12_stateRow_178 : decode cX12_stateRow 178 = .ok (.iload 6, 2) := by decide +kernel
theorem dX12_stateRow_180 : decode cX12_stateRow 180 = .ok (.isub, 1) := by decide +kernel
theorem dX12_stateRow_181 : decode cX12_stateRow 181 = .ok (.imul, 1) := by decide +kernel
theorem dX12_stateRow_182 : decode cX12_stateRow 182 = .ok (.iload_n 2, 1) := by decide +kernel
theorem dX12_stateRow_183 : decode cX12_stateRow 183 = .ok (.iadd, 1) := by decide +kernel
theorem dX12_stateRow_184 : decode cX12_stateRow 184 = .ok (.iload 7, 2) := by decide +kernel
theorem dX12_stateRow_186 : decode cX12_stateRow 186 = .ok (.isub, 1) := by decide +kernel
theorem dX12_stateRow_187 : decode cX12_stateRow 187 = .ok (.iaload, 1) := by decide +kernel
theorem dX12_stateRow_188 : decode cX12_stateRow 188 = .ok (.istore 8, 2) := by decide +kernel
theorem dX12_stateRow_190 : decode cX12_stateRow 190 = .ok (.iload 8, 2) := by decide +kernel
theorem dX12_stateRow_192 : decode cX12_stateRow 192 = .ok (.ldc_w 302, 3) := by decide +kernel
theorem dX12_stateRow_195 : decode cX12_stateRow 195 = .ok (.if_icmp .lt 6, 3) := by decide +kernel
theorem dX12_stateRow_198 : decode cX12_stateRow 198 = .ok (.goto 42, 3) := by decide +kernel
theorem dX12_stateRow_201 : decode cX12_stateRow 201 = .ok (.aload_n 0, 1) := by decide +kernel
theorem dX12_stateRow_202 : decode cX12_stateRow 202 = .ok (.iload 5, 2) := by decide +kernel
theorem dX12_stateRow_204 : decode cX12_stateRow 204 = .ok (.iload 4, 2) := by decide +kernel
theorem dX12_stateRow_206 : decode cX12_stateRow 206 = .ok (.bipush 7, 2) := by decide +kernel
theorem dX12_stateRow_208 : decode cX12_stateRow 208 = .ok (.isub, 1) := by decide +kernel
theorem dX12_stateRow_209 : decode cX12_stateRow 209 = .ok (.iload_n 1, 1) := by decide +kernel
theorem dX12_stateRow_210 : decode cX12_stateRow 210 = .ok (.iload 6, 2) := by decide +kernel
theorem dX12_stateRow_212 : decode cX12_stateRow 212 = .ok (.isub, 1) := by decide +kernel
theorem dX12_stateRow_213 : decode cX12_stateRow 213 = .ok (.iload_n 2, 1) := by decide +kernel
theorem dX12_stateRow_214 : decode cX12_stateRow 214 = .ok (.iload 7, 2) := by decide +kernel
theorem dX12_stateRow_216 : decode cX12_stateRow 216 = .ok (.isub, 1) := by decide +kernel
theorem dX12_stateRow_217 : decode cX12_stateRow 217 = .ok (.invokevirtual 315, 3) := by decide +kernel
theorem dX12_stateRow_220 : decode cX12_stateRow 220 = .ok (.istore 9, 2) := by decide +kernel
theorem dX12_stateRow_222 : decode cX12_stateRow 222 = .ok (.iload 9, 2) := by decide +kernel
theorem dX12_stateRow_224 : decode cX12_stateRow 224 = .ok (.ldc_w 302, 3) := by decide +kernel
theorem dX12_stateRow_227 : decode cX12_stateRow 227 = .ok (.if_icmp .ge 13, 3) := by decide +kernel
theorem dX12_stateRow_230 : decode cX12_stateRow 230 = .ok (.iload_n 3, 1) := by decide +kernel
theorem dX12_stateRow_231 : decode cX12_stateRow 231 = .ok (.iload 9, 2) := by decide +kernel
theorem dX12_stateRow_233 : decode cX12_stateRow 233 = .ok (.iload 8, 2) := by decide +kernel
theorem dX12_stateRow_235 : decode cX12_stateRow 235 = .ok (.iadd, 1) := by decide +kernel
theorem dX12_stateRow_236 : decode cX12_stateRow 236 = .ok (.invokestatic 250, 3) := by decide +kernel
theorem dX12_stateRow_239 : decode cX12_stateRow 239 = .ok (.istore_n 3, 1) := by decide +kernel
theorem dX12_stateRow_240 : decode cX12_stateRow 240 = .ok (.iinc 4 1, 3) := by decide +kernel
theorem dX12_stateRow_243 : decode cX12_stateRow 243 = .ok (.goto (-209), 3) := by decide +kernel
theorem dX12_stateRow_246 : decode cX12_stateRow 246 = .ok (.aload_n 0, 1) := by decide +kernel
theorem dX12_stateRow_247 : decode cX12_stateRow 247 = .ok (.getfield 122, 3) := by decide +kernel
theorem dX12_stateRow_250 : decode cX12_stateRow 250 = .ok (.bipush 13, 2) := by decide +kernel
theorem dX12_stateRow_252 : decode cX12_stateRow 252 = .ok (.iload_n 1, 1) := by decide +kernel
theorem dX12_stateRow_253 : decode cX12_stateRow 253 = .ok (.imul, 1) := by decide +kernel
theorem dX12_stateRow_254 : decode cX12_stateRow 254 = .ok (.iload_n 2, 1) := by decide +kernel
theorem dX12_stateRow_255 : decode cX12_stateRow 255 = .ok (.iadd, 1) := by decide +kernel
theorem dX12_stateRow_256 : decode cX12_stateRow 256 = .ok (.iload_n 3, 1) := by decide +kernel
theorem dX12_stateRow_257 : decode cX12_stateRow 257 = .ok (.iastore, 1) := by decide +kernel
theorem dX12_stateRow_258 : decode cX12_stateRow 258 = .ok (.iinc 2 1, 3) := by decide +kernel
theorem dX12_stateRow_261 : decode cX12_stateRow 261 = .ok (.goto (-254), 3) := by decide +kernel
theorem dX12_stateRow_264 : decode cX12_stateRow 264 = .ok (.return_, 1) := by decide +kernel
theorem j_Md_stateRow_264  {h : xH} {h0 : xH}  (hf : f_Md_stateRow_264 h = some h0)  : J mX12_stateRow true 0 0 264 xKn [] [] h (xEq none h0) := by
  unfold f_Md_stateRow_264 at hf
  exact J_rt dX12_stateRow_264 rfl (xq_v hf)
theorem j_Md_stateRow_246 {l1 : Int} {l2 : Int} {l3 : Int} {h : xH} {x : ((Int × xH) ⊕ xH)} {Q : xQ}  (hf : f_Md_stateRow_246 l1 l2 l3 h = some x) (kb : ∀ (l2' : Int) (h' : xH), x = Sum.inl (l2', h') → J mX12_stateRow true 0 0 7 xKn [(0, xR 81), (1, xI l1), (2, xI l2')] [] h' Q) (ke : ∀  (h' : xH), x = (Sum.inr h') → J mX12_stateRow true 0 0 264 xKn [] [] h' Q) : J mX12_stateRow true 0 0 246 xKn [(0, xR 81), (1, xI l1), (2, xI l2), (3, xI l3)] [] h Q := by
  unfold f_Md_stateRow_246 at hf
  refine J_aload_n 0 dX12_stateRow_246 rfl rfl ?_
  refine J_getRl (j := 48) xcf12 dX12_stateRow_247 kO81 (Or.inl xq1068) (by decide) (by decide) rf_81_48 ?_
  refine J_bip dX12_stateRow_250 (by decide) ?_
  refine J_iload_n 1 dX12_stateRow_252 rfl rfl ?_
  refine J_imul dX12_stateRow_253 ?_
  refine J_iload_n 2 dX12_stateRow_254 rfl rfl ?_
  refine J_iadd dX12_stateRow_255 ?_
  refine J_iload_n 3 dX12_stateRow_256 rfl rfl ?_
  obtain ⟨hg, hf⟩ := xgd_e hf
  obtain ⟨h1, eh1, hf⟩ := xlet_e hf
  refine J_iast dX12_stateRow_257 (xK_r1 kO116) kO116 hg nA116 eh1 ?_
  obtain ⟨x2, ex2, hf⟩ := xlet_e hf
  refine J_iinc (ls' := [(2, xI x2), (0, xR 81), (1, xI l1), (3, xI l3)]) 2 dX12_stateRow_258 rfl (by decide) ex2 rfl ?_
  refine J_goto (tgt := 7) dX12_stateRow_261 (by decide) ?_
  refine J_sub [1, 2, 0] rfl ?_
  exact kb _ _ (xinl hf)
theorem j_Md_stateRow_240 {l1 : Int} {l2 : Int} {l3 : Int} {l4 : Int} {h : xH} {x : ((Int × Int × xH) ⊕ (Int × xH))} {Q : xQ}  (hf : f_Md_stateRow_240 l1 l2 l3 l4 h = some x) (kb : ∀ (l3' : Int) (l4' : Int) (h' : xH), x = Sum.inl (l3', l4', h') → J mX12_stateRow true 0 0 34 xKn [(0, xR 81), (1, xI l1), (2, xI l2), (3, xI l3'), (4, xI l4')] [] h' Q) (ke : ∀ (l3' : Int) (h' : xH), x = (Sum.inr (l3', h')) → J mX12_stateRow true 0 0 246 xKn [(0, xR 81), (1, xI l1), (2, xI l2), (3, xI l3')] [] h' Q) : J mX12_stateRow true 0 0 240 xKn [(0, xR 81), (1, xI l1), (2, xI l2), (3, xI l3), (4, xI l4)] [] h Q := by
  unfold f_Md_stateRow_240 at hf
  obtain ⟨x1, ex1, hf⟩ := xlet_e hf
  refine J_iinc (ls' := [(4, xI x1), (0, xR 81), (1, xI l1), (2, xI l2), (3, xI l3)]) 4 dX12_stateRow_240 rfl (by decide) ex1 rfl ?_
  refine J_goto (tgt := 34) dX12_stateRow_243 (by decide) ?_
  refine J_sub [1, 2, 3, 4, 0] rfl ?_
  exact kb _ _ _ (xinl hf)
theorem j_Md_stateRow_152 {l1 : Int} {l2 : Int} {l3 : Int} {l4 : Int} {l5 : Int} {l6 : Int} {s0 : Int} {h : xH} {x : ((Int × Int × xH) ⊕ (Int × xH))} {Q : xQ}  (hf : f_Md_stateRow_152 l1 l2 l3 l4 l5 l6 s0 h = some x) (kb : ∀ (l3' : Int) (l4' : Int) (h' : xH), x = Sum.inl (l3', l4', h') → J mX12_stateRow true 0 0 34 xKn [(0, xR 81), (1, xI l1), (2, xI l2), (3, xI l3'), (4, xI l4')] [] h' Q) (ke : ∀ (l3' : Int) (h' : xH), x = (Sum.inr (l3', h')) → J mX12_stateRow true 0 0 246 xKn [(0, xR 81), (1, xI l1), (2, xI l2), (3, xI l3')] [] h' Q) : J mX12_stateRow true 0 0 152 xKn [(0, xR 81), (1, xI l1), (2, xI l2), (3, xI l3), (4, xI l4), (5, xI l5), (6, xI l6)] [xI s0] h Q := by
  unfold f_Md_stateRow_152 at hf
  refine J_istore (ls' := [(7, xI s0), (0, xR 81), (1, xI l1), (2, xI l2), (3, xI l3), (4, xI l4), (5, xI l5), (6, xI l6)]) dX12_stateRow_152 (by decide) rfl rfl ?_
  refine J_iload_n 2 dX12_stateRow_154 rfl rfl ?_
  refine J_iload 7 dX12_stateRow_155 rfl ?_
  refine J_isub dX12_stateRow_157 ?_
  refine J_if_lt (tgt := 240) dX12_stateRow_158 (by decide) (fun hc => ?_) (fun hc => ?_)
  · have hf := xip hc hf
    refine J_sub [1, 2, 3, 4, 5] rfl ?_
    exact j_Md_stateRow_240  hf kb ke
  · have hf := xin' hc hf
    refine J_iload_n 3 dX12_stateRow_161 rfl rfl ?_
    refine J_iload 0 dX12_stateRow_162 rfl ?_
    refine J_isub dX12_stateRow_164 ?_
    refine J_if_ge (tgt := 171) dX12_stateRow_165 (by decide) (fun hc => ?_) (fun hc => ?_)
    · have hf := xip hc hf
      refine J_goto (tgt := 240) dX12_stateRow_168 (by decide) ?_
      refine J_sub [1, 2, 3, 4, 5] rfl ?_
      exact j_Md_stateRow_240  hf kb ke
    · have hf := xin' hc hf
      refine J_aload_n 1 dX12_stateRow_171 rfl rfl ?_
      refine J_getRl (j := 48) xcf12 dX12_stateRow_172 kO81 (Or.inl xq1068) (by decide) (by decide) rf_81_48 ?_
      refine J_bip dX12_stateRow_175 (by decide) ?_
      refine J_iload_n 2 dX12_stateRow_177 rfl rfl ?_
      refine J_iload 7 dX12_stateRow_178 rfl ?_
      refine J_isub dX12_stateRow_180 ?_
      refine J_imul dX12_stateRow_181 ?_
      refine J_iload_n 3 dX12_stateRow_182 rfl rfl ?_
      refine J_iadd dX12_stateRow_183 ?_
      refine J_iload 0 dX12_stateRow_184 rfl ?_
      refine J_isub dX12_stateRow_186 ?_
      obtain ⟨hg, hf⟩ := xgd_e hf
      refine J_iald dX12_stateRow_187 (xK_r1 kO116) kO116 hg nA116 ?_
      obtain ⟨x1, ex1, hf⟩ := xlet_e hf
      refine J_istore (ls' := [(8, xI x1), (7, xI s0), (0, xR 81), (1, xI l1), (2, xI l2), (3, xI l3), (4, xI l4), (5, xI l5), (6, xI l6)]) dX12_stateRow_188 (by decide) ex1 rfl ?_
      refine J_iload 0 dX12_stateRow_190 rfl ?_
      refine J_ldcw (v := 1000000) dX12_stateRow_192 xq1370 (by decide) ?_
      refine J_ic_lt (tgt := 201) dX12_stateRow_195 (by decide) (fun hc => ?_) (fun hc => ?_)
      · have hf := xip hc hf
        refine J_aload_n 2 dX12_stateRow_201 rfl rfl ?_
        refine J_iload 7 dX12_stateRow_202 rfl ?_
        refine J_iload 6 dX12_stateRow_204 rfl ?_
        refine J_bip dX12_stateRow_206 (by decide) ?_
        refine J_isub dX12_stateRow_208 ?_
        refine J_iload_n 3 dX12_stateRow_209 rfl rfl ?_
        refine J_iload 8 dX12_stateRow_210 rfl ?_
        refine J_isub dX12_stateRow_212 ?_
        refine J_iload_n 4 dX12_stateRow_213 rfl rfl ?_
        refine J_iload 1 dX12_stateRow_214 rfl ?_
        refine J_isub dX12_stateRow_216 ?_
        obtain ⟨r2, h3, hq, hf⟩ := xc2_e hf
        refine J_cVi (Mc := mX12_slip) [xI l5, xI (w32 (l4 - 7)), xI (w32 (l1 - l6)), xI (w32 (l2 - s0))] dX12_stateRow_217 (fc_Md_slip.fit ⟨xbl rfl, xbl rfl⟩) rfl ⟨Or.inl xq1371, xq1373, xq100⟩ kO81 (ci := 12) rfl rfl (xbl rfl) (xbl rfl) (jm_Md_slip  hq) ?_
        refine J_istore (ls' := [(9, xI r2), (8, xI x1), (7, xI s0), (0, xR 81), (1, xI l1), (2, xI l2), (3, xI l3), (4, xI l4), (5, xI l5), (6, xI l6)]) dX12_stateRow_220 (by decide) rfl rfl ?_
        refine J_iload 0 dX12_stateRow_222 rfl ?_
        refine J_ldcw (v := 1000000) dX12_stateRow_224 xq1370 (by decide) ?_
        refine J_ic_ge (tgt := 240) dX12_stateRow_227 (by decide) (fun hc => ?_) (fun hc => ?_)
        · have hf := xip hc hf
          refine J_iload_n 6 dX12_stateRow_230 rfl rfl ?_
          refine J_iload 0 dX12_stateRow_231 rfl ?_
          refine J_iload 1 dX12_stateRow_233 rfl ?_
          refine J_iadd dX12_stateRow_235 ?_
          obtain ⟨r4, hq, hf⟩ := xc1_e hf
          refine J_cSi (Mc := mX12_min) [xI l3, xI (w32 (r2 + x1))] dX12_stateRow_236 (fc_Md_min.fit ⟨xbl rfl, xbl rfl⟩) rfl ⟨Or.inl xq1307, xq1308⟩ rfl (xbl rfl) (xbl rfl) (jm_Md_min  hq) ?_
          refine J_istore_n (ls' := [(3, xI r4), (9, xI r2), (8, xI x1), (7, xI s0), (0, xR 81), (1, xI l1), (2, xI l2), (4, xI l4), (5, xI l5), (6, xI l6)]) dX12_stateRow_239 rfl (by decide) rfl rfl ?_
          refine J_sub [4, 5, 6, 0, 7] rfl ?_
          exact j_Md_stateRow_240  hf kb ke
        · have hf := xin' hc hf
          refine J_sub [3, 4, 5, 6, 7] rfl ?_
          exact j_Md_stateRow_240  hf kb ke
      · have hf := xin' hc hf
        refine J_goto (tgt := 240) dX12_stateRow_198 (by decide) ?_
        refine J_sub [2, 3, 4, 5, 6] rfl ?_
        exact j_Md_stateRow_240  hf kb ke
theorem j_Md_stateRow_147 {l1 : Int} {l2 : Int} {l3 : Int} {l4 : Int} {l5 : Int} {l6 : Int} {h : xH} {x : ((Int × Int × xH) ⊕ (Int × xH))} {Q : xQ}  (hf : f_Md_stateRow_147 l1 l2 l3 l4 l5 l6 h = some x) (kb : ∀ (l3' : Int) (l4' : Int) (h' : xH), x = Sum.inl (l3', l4', h') → J mX12_stateRow true 0 0 34 xKn [(0, xR 81), (1, xI l1), (2, xI l2), (3, xI l3'), (4, xI l4')] [] h' Q) (ke : ∀ (l3' : Int) (h' : xH), x = (Sum.inr (l3', h')) → J mX12_stateRow true 0 0 246 xKn [(0, xR 81), (1, xI l1), (2, xI l2), (3, xI l3')] [] h' Q) : J mX12_stateRow true 0 0 147 xKn [(0, xR 81), (1, xI l1), (2, xI l2), (3, xI l3), (4, xI l4), (5, xI l5), (6, xI l6)] [] h Q := by
  unfold f_Md_stateRow_147 at hf
  refine J_iconst dX12_stateRow_147 (by decide) ?_
  refine J_goto (tgt := 152) dX12_stateRow_148 (by decide) ?_
  exact j_Md_stateRow_152  hf kb ke
theorem j_Md_stateRow_103 {l1 : Int} {l2 : Int} {l3 : Int} {l4 : Int} {l5 : Int} {s0 : Int} {h : xH} {x : ((Int × Int × xH) ⊕ (Int × xH))} {Q : xQ}  (hf : f_Md_stateRow_103 l1 l2 l3 l4 l5 s0 h = some x) (kb : ∀ (l3' : Int) (l4' : Int) (h' : xH), x = Sum.inl (l3', l4', h') → J mX12_stateRow true 0 0 34 xKn [(0, xR 81), (1, xI l1), (2, xI l2), (3, xI l3'), (4, xI l4')] [] h' Q) (ke : ∀ (l3' : Int) (h' : xH), x = (Sum.inr (l3', h')) → J mX12_stateRow true 0 0 246 xKn [(0, xR 81), (1, xI l1), (2, xI l2), (3, xI l3')] [] h' Q) : J mX12_stateRow true 0 0 103 xKn [(0, xR 81), (1, xI l1), (2, xI l2), (3, xI l3), (4, xI l4), (5, xI l5)] [xI s0] h Q := by
  unfold f_Md_stateRow_103 at hf
  refine J_istore (ls' := [(6, xI s0), (0, xR 81), (1, xI l1), (2, xI l2), (3, xI l3), (4, xI l4), (5, xI l5)]) dX12_stateRow_103 (by decide) rfl rfl ?_
  refine J_iload 6 dX12_stateRow_105 rfl ?_
  refine J_bip dX12_stateRow_107 (by decide) ?_
  refine J_ic_ne (tgt := 125) dX12_stateRow_109 (by decide) (fun hc => ?_) (fun hc => ?_)
  · have hf := xip hc hf
    refine J_aload_n 1 dX12_stateRow_112 rfl rfl ?_
    refine J_getRl (j := 19) xcf12 dX12_stateRow_113 kO81 (Or.inl xq1039) (by decide) (by decide) rf_81_19 ?_
    refine J_iload 5 dX12_stateRow_116 rfl ?_
    refine J_bip dX12_stateRow_118 (by decide) ?_
    refine J_isub dX12_stateRow_120 ?_
    obtain ⟨hg, hf⟩ := xgd_e hf
    refine J_iald dX12_stateRow_121 (xK_r1 kO94) kO94 hg nA94 ?_
    refine J_goto (tgt := 152) dX12_stateRow_122 (by decide) ?_
    refine J_sub [1, 2, 3, 4, 5, 6, 0] rfl ?_
    exact j_Md_stateRow_152  hf kb ke
  · have hf := xin' hc hf
    refine J_iload 6 dX12_stateRow_125 rfl ?_
    refine J_iconst dX12_stateRow_127 (by decide) ?_
    refine J_ic_ne (tgt := 135) dX12_stateRow_128 (by decide) (fun hc => ?_) (fun hc => ?_)
    · have hf := xip hc hf
      refine J_iconst dX12_stateRow_131 (by decide) ?_
      refine J_goto (tgt := 152) dX12_stateRow_132 (by decide) ?_
      refine J_sub [1, 2, 3, 4, 5, 6, 0] rfl ?_
      exact j_Md_stateRow_152  hf kb ke
    · have hf := xin' hc hf
      refine J_iload 6 dX12_stateRow_135 rfl ?_
      refine J_iconst dX12_stateRow_137 (by decide) ?_
      refine J_ic_eq (tgt := 147) dX12_stateRow_138 (by decide) (fun hc => ?_) (fun hc => ?_)
      · have hf := xip hc hf
        refine J_sub [1, 2, 3, 4, 5, 6, 0] rfl ?_
        exact j_Md_stateRow_147  hf kb ke
      · have hf := xin' hc hf
        refine J_iload 6 dX12_stateRow_141 rfl ?_
        refine J_iconst dX12_stateRow_143 (by decide) ?_
        refine J_ic_ne (tgt := 151) dX12_stateRow_144 (by decide) (fun hc => ?_) (fun hc => ?_)
        · have hf := xip hc hf
          refine J_sub [1, 2, 3, 4, 5, 6, 0] rfl ?_
          exact j_Md_stateRow_147  hf kb ke
        · have hf := xin' hc hf
          refine J_iconst dX12_stateRow_151 (by decide) ?_
          refine J_sub [1, 2, 3, 4, 5, 6, 0] rfl ?_
          exact j_Md_stateRow_152  hf kb ke
theorem j_Md_stateRow_98 {l1 : Int} {l2 : Int} {l3 : Int} {l4 : Int} {l5 : Int} {h : xH} {x : ((Int × Int × xH) ⊕ (Int × xH))} {Q : xQ}  (hf : f_Md_stateRow_98 l1 l2 l3 l4 l5 h = some x) (kb : ∀ (l3' : Int) (l4' : Int) (h' : xH), x = Sum.inl (l3', l4', h') → J mX12_stateRow true 0 0 34 xKn [(0, xR 81), (1, xI l1), (2, xI l2), (3, xI l3'), (4, xI l4')] [] h' Q) (ke : ∀ (l3' : Int) (h' : xH), x = (Sum.inr (l3', h')) → J mX12_stateRow true 0 0 246 xKn [(0, xR 81), (1, xI l1), (2, xI l2), (3, xI l3')] [] h' Q) : J mX12_stateRow true 0 0 98 xKn [(0, xR 81), (1, xI l1), (2, xI l2), (3, xI l3), (4, xI l4), (5, xI l5)] [] h Q := by
  unfold f_Md_stateRow_98 at hf
  refine J_iconst dX12_stateRow_98 (by decide) ?_
  refine J_goto (tgt := 103) dX12_stateRow_99 (by decide) ?_
  exact j_Md_stateRow_103  hf kb ke
theorem j_Md_stateRow_s34 {l1 : Int} {l2 : Int} {l3 : Int} {l4 : Int} {h : xH} {x : ((Int × Int × xH) ⊕ (Int × xH))} {Q : xQ}  (hf : f_Md_stateRow_s34 l1 l2 l3 l4 h = some x) (kb : ∀ (l3' : Int) (l4' : Int) (h' : xH), x = Sum.inl (l3', l4', h') → J mX12_stateRow true 0 0 34 xKn [(0, xR 81), (1, xI l1), (2, xI l2), (3, xI l3'), (4, xI l4')] [] h' Q) (ke : ∀ (l3' : Int) (h' : xH), x = (Sum.inr (l3', h')) → J mX12_stateRow true 0 0 246 xKn [(0, xR 81), (1, xI l1), (2, xI l2), (3, xI l3')] [] h' Q) : J mX12_stateRow true 0 0 34 xKn [(0, xR 81), (1, xI l1), (2, xI l2), (3, xI l3), (4, xI l4)] [] h Q := by
  unfold f_Md_stateRow_s34 at hf
  refine J_iload 4 dX12_stateRow_34 rfl ?_
  refine J_bip dX12_stateRow_36 (by decide) ?_
  refine J_aload_n 0 dX12_stateRow_38 rfl rfl ?_
  refine J_getI (j := 16) xcf12 dX12_stateRow_39 (xK_rg kO81) kO81 (Or.inl xq1036) (by decide) (by decide) ?_
  refine J_iadd dX12_stateRow_42 ?_
  refine J_ic_ge (tgt := 246) dX12_stateRow_43 (by decide) (fun hc => ?_) (fun hc => ?_)
  · have hf := xip hc hf
    refine J_iload 4 dX12_stateRow_46 rfl ?_
    refine J_bip dX12_stateRow_48 (by decide) ?_
    obtain ⟨r1, hq, hf⟩ := xc1_e hf
    refine J_cSi (Mc := mX12_min) [xI l4, xI 7] dX12_stateRow_50 (fc_Md_min.fit ⟨xbl rfl, xbl rfl⟩) rfl ⟨Or.inl xq1307, xq1308⟩ rfl (xbl rfl) (xbl rfl) (jm_Md_min  hq) ?_
    refine J_istore (ls' := [(5, xI r1), (0, xR 81), (1, xI l1), (2, xI l2), (3, xI l3), (4, xI l4)]) dX12_stateRow_53 (by decide) rfl rfl ?_
    refine J_iload 0 dX12_stateRow_55 rfl ?_
    refine J_bip dX12_stateRow_57 (by decide) ?_
    refine J_ic_ne (tgt := 75) dX12_stateRow_59 (by decide) (fun hc => ?_) (fun hc => ?_)
    · have hf := xip hc hf
      refine J_aload_n 1 dX12_stateRow_62 rfl rfl ?_
      refine J_getRl (j := 17) xcf12 dX12_stateRow_63 kO81 (Or.inl xq1037) (by decide) (by decide) rf_81_17 ?_
      refine J_iload 5 dX12_stateRow_66 rfl ?_
      refine J_bip dX12_stateRow_68 (by decide) ?_
      refine J_isub dX12_stateRow_70 ?_
      obtain ⟨hg, hf⟩ := xgd_e hf
      refine J_iald dX12_stateRow_71 (xK_r1 kO92) kO92 hg nA92 ?_
      refine J_goto (tgt := 103) dX12_stateRow_72 (by decide) ?_
      refine J_sub [1, 2, 3, 4, 5, 0] rfl ?_
      exact j_Md_stateRow_103  hf kb ke
    · have hf := xin' hc hf
      refine J_iload 0 dX12_stateRow_75 rfl ?_
      refine J_iconst dX12_stateRow_77 (by decide) ?_
      refine J_ic_ne (tgt := 85) dX12_stateRow_78 (by decide) (fun hc => ?_) (fun hc => ?_)
      · have hf := xip hc hf
        refine J_iconst dX12_stateRow_81 (by decide) ?_
        refine J_goto (tgt := 103) dX12_stateRow_82 (by decide) ?_
        refine J_sub [1, 2, 3, 4, 5, 0] rfl ?_
        exact j_Md_stateRow_103  hf kb ke
      · have hf := xin' hc hf
        refine J_iload 0 dX12_stateRow_85 rfl ?_
        refine J_iconst dX12_stateRow_87 (by decide) ?_
        refine J_ic_eq (tgt := 98) dX12_stateRow_88 (by decide) (fun hc => ?_) (fun hc => ?_)
        · have hf := xip hc hf
          refine J_sub [1, 2, 3, 4, 5, 0] rfl ?_
          exact j_Md_stateRow_98  hf kb ke
        · have hf := xin' hc hf
          refine J_iload 0 dX12_stateRow_91 rfl ?_
          refine J_bip dX12_stateRow_93 (by decide) ?_
          refine J_ic_ne (tgt := 102) dX12_stateRow_95 (by decide) (fun hc => ?_) (fun hc => ?_)
          · have hf := xip hc hf
            refine J_sub [1, 2, 3, 4, 5, 0] rfl ?_
            exact j_Md_stateRow_98  hf kb ke
          · have hf := xin' hc hf
            refine J_iconst dX12_stateRow_102 (by decide) ?_
            refine J_sub [1, 2, 3, 4, 5, 0] rfl ?_
            exact j_Md_stateRow_103  hf kb ke
  · have hf := xin' hc hf
    refine J_sub [0, 1, 2, 3] rfl ?_
    exact ke _ _ (xinl hf)
theorem j_Md_stateRow_34 {l1 : Int} {l2 : Int} {l3 : Int} {l4 : Int} {h : xH} {x : ((Int × xH) ⊕ xH)} {Q : xQ}  (hf : f_Md_stateRow_34 l1 l2 l3 l4 h = some x) (kb : ∀ (l2' : Int) (h' : xH), x = Sum.inl (l2', h') → J mX12_stateRow true 0 0 7 xKn [(0, xR 81), (1, xI l1), (2, xI l2')] [] h' Q) (ke : ∀  (h' : xH), x = (Sum.inr h') → J mX12_stateRow true 0 0 264 xKn [] [] h' Q) : J mX12_stateRow true 0 0 34 xKn [(0, xR 81), (1, xI l1), (2, xI l2), (3, xI l3), (4, xI l4)] [] h Q := by
  unfold f_Md_stateRow_34 at hf
  obtain ⟨b0, hb0, hf⟩ := xc1_e hf
  refine xloop_ind (P := fun s : (Int × Int × xH) => J mX12_stateRow true 0 0 34 xKn [(0, xR 81), (1, xI l1), (2, xI l2), (3, xI s.1), (4, xI s.2.1)] [] s.2.2 Q) hb0 (fun s x1 hs ib ie => ?_)
  exact j_Md_stateRow_s34  hs (fun _ _ _ e => ib _ e) (fun _ _ e => by have := ie _ e; subst this; exact j_Md_stateRow_246  hf kb ke)
theorem j_Md_stateRow_30 {l1 : Int} {l2 : Int} {s0 : Int} {h : xH} {x : ((Int × xH) ⊕ xH)} {Q : xQ}  (hf : f_Md_stateRow_30 l1 l2 s0 h = some x) (kb : ∀ (l2' : Int) (h' : xH), x = Sum.inl (l2', h') → J mX12_stateRow true 0 0 7 xKn [(0, xR 81), (1, xI l1), (2, xI l2')] [] h' Q) (ke : ∀  (h' : xH), x = (Sum.inr h') → J mX12_stateRow true 0 0 264 xKn [] [] h' Q) : J mX12_stateRow true 0 0 30 xKn [(0, xR 81), (1, xI l1), (2, xI l2)] [xI s0] h Q := by
  unfold f_Md_stateRow_30 at hf
  refine J_istore_n (ls' := [(3, xI s0), (0, xR 81), (1, xI l1), (2, xI l2)]) dX12_stateRow_30 rfl (by decide) rfl rfl ?_
  refine J_iconst dX12_stateRow_31 (by decide) ?_
  refine J_istore (ls' := [(4, xI 0), (3, xI s0), (0, xR 81), (1, xI l1), (2, xI l2)]) dX12_stateRow_32 (by decide) rfl rfl ?_
  refine J_sub [2, 3, 4, 1, 0] rfl ?_
  exact j_Md_stateRow_34  hf kb ke
theorem j_Md_stateRow_27 {l1 : Int} {l2 : Int} {h : xH} {x : ((Int × xH) ⊕ xH)} {Q : xQ}  (hf : f_Md_stateRow_27 l1 l2 h = some x) (kb : ∀ (l2' : Int) (h' : xH), x = Sum.inl (l2', h') → J mX12_stateRow true 0 0 7 xKn [(0, xR 81), (1, xI l1), (2, xI l2')] [] h' Q) (ke : ∀  (h' : xH), x = (Sum.inr h') → J mX12_stateRow true 0 0 264 xKn [] [] h' Q) : J mX12_stateRow true 0 0 27 xKn [(0, xR 81), (1, xI l1), (2, xI l2)] [] h Q := by
  unfold f_Md_stateRow_27 at hf
  refine J_ldcw (v := 1000000) dX12_stateRow_27 xq1370 (by decide) ?_
  exact j_Md_stateRow_30  hf kb ke
theorem j_Md_stateRow_s7 {l1 : Int} {l2 : Int} {h : xH} {x : ((Int × xH) ⊕ xH)} {Q : xQ}  (hf : f_Md_stateRow_s7 l1 l2 h = some x) (kb : ∀ (l2' : Int) (h' : xH), x = Sum.inl (l2', h') → J mX12_stateRow true 0 0 7 xKn [(0, xR 81), (1, xI l1), (2, xI l2')] [] h' Q) (ke : ∀  (h' : xH), x = (Sum.inr h') → J mX12_stateRow true 0 0 264 xKn [] [] h' Q) : J mX12_stateRow true 0 0 7 xKn [(0, xR 81), (1, xI l1), (2, xI l2)] [] h Q := by
  unfold f_Md_stateRow_s7 at hf
  refine J_iload_n 2 dX12_stateRow_7 rfl rfl ?_
  refine J_aload_n 0 dX12_stateRow_8 rfl rfl ?_
  refine J_getI (j := 23) xcf12 dX12_stateRow_9 (xK_rg kO81) kO81 (Or.inl xq1043) (by decide) (by decide) ?_
  refine J_ic_gt (tgt := 264) dX12_stateRow_12 (by decide) (fun hc => ?_) (fun hc => ?_)
  · have hf := xip hc hf
    refine J_sub [] rfl ?_
    exact ke _ (xinl hf)
  · have hf := xin' hc hf
    refine J_iload_n 1 dX12_stateRow_15 rfl rfl ?_
    refine J_if_ne (tgt := 27) dX12_stateRow_16 (by decide) (fun hc => ?_) (fun hc => ?_)
    · have hf := xip hc hf
      refine J_iload_n 2 dX12_stateRow_19 rfl rfl ?_
      refine J_if_ne (tgt := 27) dX12_stateRow_20 (by decide) (fun hc => ?_) (fun hc => ?_)
      · have hf := xip hc hf
        refine J_iconst dX12_stateRow_23 (by decide) ?_
        refine J_goto (tgt := 30) dX12_stateRow_24 (by decide) ?_
        exact j_Md_stateRow_30  hf kb ke
      · have hf := xin' hc hf
        exact j_Md_stateRow_27  hf kb ke
    · have hf := xin' hc hf
      exact j_Md_stateRow_27  hf kb ke
theorem j_Md_stateRow_7 {l1 : Int} {l2 : Int} {h : xH} {h0 : xH}  (hf : f_Md_stateRow_7 l1 l2 h = some h0)  : J mX12_stateRow true 0 0 7 xKn [(0, xR 81), (1, xI l1), (2, xI l2)] [] h (xEq none h0) := by
  unfold f_Md_stateRow_7 at hf
  obtain ⟨b0, hb0, hf⟩ := xc1_e hf
  refine xloop_ind (P := fun s : (Int × xH) => J mX12_stateRow true 0 0 7 xKn [(0, xR 81), (1, xI l1), (2, xI s.1)] [] s.2 (xEq none h0)) hb0 (fun s x1 hs ib ie => ?_)
  exact j_Md_stateRow_s7  hs (fun _ _ e => ib _ e) (fun _ e => by have := ie _ e; subst this; exact j_Md_stateRow_264  hf)
theorem jm_Md_stateRow {l1 : Int} {h : xH} {h0 : xH}  (hf : f_Md_stateRow l1 h = some h0) : J mX12_stateRow true 0 0 0 xKn (xen 0 [xR 81, xI l1]) [] h (xEq none h0) := by
  unfold f_Md_stateRow at hf
  refine J_cong (ls2 := [(0, xR 81), (1, xI l1)]) (st2 := []) rfl rfl ?_
  refine J_aload_n 0 dX12_stateRow_0 rfl rfl ?_
  refine J_iload_n 1 dX12_stateRow_1 rfl rfl ?_
  obtain ⟨h1, eh1, hf⟩ := xlet_e hf
  refine J_putI (j := 22) xcf12 dX12_stateRow_2 (xK_rg kO81) kO81 (Or.inl xq1042) (by decide) (by decide) eh1 ?_
  refine J_iconst dX12_stateRow_5 (by decide) ?_
  refine J_istore_n (ls' := [(2, xI 0), (0, xR 81), (1, xI l1)]) dX12_stateRow_6 rfl (by decide) rfl rfl ?_
  refine J_sub [1, 2, 0] rfl ?_
  exact j_Md_stateRow_7  hf
theorem dX12_leastOf_0 : decode cX12_leastOf 0 = .ok (.ldc_w 302, 3) := by decide +kernel
theorem dX12_leastOf_3 : decode cX12_leastOf 3 = .ok (.istore_n 2, 1) := by decide +kernel
theorem dX12_leastOf_4 : decode cX12_leastOf 4 = .ok (.iconst 0, 1) := by decide +kernel
theorem dX12_leastOf_5 : decode cX12_leastOf 5 = .ok (.istore_n 3, 1) := by decide +kernel
theorem dX12_leastOf_6 : decode cX12_leastOf 6 = .ok (.iload_n 3, 1) := by decide +kernel
theorem dX12_leastOf_7 : decode cX12_leastOf 7 = .ok (.aload_n 0, 1) := by decide +kernel
theorem dX12_leastOf_8 : decode cX12_leastOf 8 = .ok (.getfield 231, 3) := by decide +kernel
theorem dX12_leastOf_11 : decode cX12_leastOf 11 = .ok (.if_icmp .gt 25, 3) := by decide +kernel
theorem dX12_leastOf_14 : decode cX12_leastOf 14 = .ok (.iload_n 2, 1) := by decide +kernel
theorem dX12_leastOf_15 : decode cX12_leastOf 15 = .ok (.aload_n 0, 1) := by decide +kernel
theorem dX12_leastOf_16 : decode cX12_leastOf 16 = .ok (.getfield 122, 3) := by decide +kernel
theorem dX12_leastOf_19 : decode cX12_leastOf 19 = .ok (.bipush 13, 2) := by decide +kernel
theorem dX12_leastOf_21 : decode cX12_leastOf 21 = .ok (.iload_n 1, 1) := by decide +kernel
theorem dX12_leastOf_22 : decode cX12_leastOf 22 = .ok (.imul, 1) := by decide +kernel
theorem dX12_leastOf_23 : decode cX12_leastOf 23 = .ok (.iload_n 3, 1) := by decide +kernel
theorem dX12_leastOf_24 : decode cX12_leastOf 24 = .ok (.iadd, 1) := by decide +kernel
theorem dX12_leastOf_25 : decode cX12_leastOf 25 = .ok (.iaload, 1) := by decide +kernel
theorem dX12_leastOf_26 : decode cX12_leastOf 26 = .ok (.invokestatic 250, 3) := by decide +kernel
theorem dX12_leastOf_29 : decode cX12_leastOf 29 = .ok (.istore_n 2, 1) := by decide +kernel
theorem dX12_leastOf_30 : decode cX12_leastOf 30 = .ok (.iinc 3 1, 3) := by decide +kernel
theorem dX12_leastOf_33 : decode cX12_leastOf 33 = .ok (.goto (-27), 3) := by decide +kernel
theorem dX12_leastOf_36 : decode cX12_leastOf 36 = .ok (.iload_n 2, 1) := by decide +kernel
theorem dX12_leastOf_37 : decode cX12_leastOf 37 = .ok (.ireturn, 1) := by decide +kernel
theorem j_Md_leastOf_36 {l2 : Int} {h : xH} {r0 : Int}  (hf : f_Md_leastOf_36 l2 h = some r0)  : J mX12_leastOf true 0 0 36 xKn [(2, xI l2)] [] h (xEq (some r0) h) := by
  unfold f_Md_leastOf_36 at hf
  refine J_iload_n 0 dX12_leastOf_36 rfl rfl ?_
  exact J_ireti dX12_leastOf_37 rfl (xq_p hf)
theorem j_Md_leastOf_s6 {l1 : Int} {l2 : Int} {l3 : Int} {h : xH} {x : ((Int × Int) ⊕ Int)} {Q : xQ}  (hf : f_Md_leastOf_s6 l1 l2 l3 h = some x) (kb : ∀ (l2' : Int) (l3' : Int), x = Sum.inl (l2', l3') → J mX12_leastOf true 0 0 6 xKn [(0, xR 81), (1, xI l1), (2, xI l2'), (3, xI l3')] [] h Q) (ke : ∀ (l2' : Int), x = (Sum.inr l2') → J mX12_leastOf true 0 0 36 xKn [(2, xI l2')] [] h Q) : J mX12_leastOf true 0 0 6 xKn [(0, xR 81), (1, xI l1), (2, xI l2), (3, xI l3)] [] h Q := by
  unfold f_Md_leastOf_s6 at hf
  refine J_iload_n 3 dX12_leastOf_6 rfl rfl ?_
  refine J_aload_n 0 dX12_leastOf_7 rfl rfl ?_
  refine J_getI (j := 23) xcf12 dX12_leastOf_8 (xK_rg kO81) kO81 (Or.inl xq1043) (by decide) (by decide) ?_
  refine J_ic_gt (tgt := 36) dX12_leastOf_11 (by decide) (fun hc => ?_) (fun hc => ?_)
  · have hf := xip hc hf
    refine J_sub [2] rfl ?_
    exact ke _ (xinl hf)
  · have hf := xin' hc hf
    refine J_iload_n 2 dX12_leastOf_14 rfl rfl ?_
    refine J_aload_n 0 dX12_leastOf_15 rfl rfl ?_
    refine J_getRl (j := 48) xcf12 dX12_leastOf_16 kO81 (Or.inl xq1068) (by decide) (by decide) rf_81_48 ?_
    refine J_bip dX12_leastOf_19 (by decide) ?_
    refine J_iload_n 1 dX12_leastOf_21 rfl rfl ?_
    refine J_imul dX12_leastOf_22 ?_
    refine J_iload_n 3 dX12_leastOf_23 rfl rfl ?_
    refine J_iadd dX12_leastOf_24 ?_
    obtain ⟨hg, hf⟩ := xgd_e hf
    refine J_iald dX12_leastOf_25 (xK_r1 kO116) kO116 hg nA116 ?_
    obtain ⟨r1, hq, hf⟩ := xc1_e hf
    refine J_cSi (Mc := mX12_min) [xI l2, xI (h 116 (w32 ((w32 (13 * l1)) + l3)))] dX12_leastOf_26 (fc_Md_min.fit ⟨xbl rfl, xbl rfl⟩) rfl ⟨Or.inl xq1307, xq1308⟩ rfl (xbl rfl) (xbl rfl) (jm_Md_min  hq) ?_
    refine J_istore_n (ls' := [(2, xI r1), (0, xR 81), (1, xI l1), (3, xI l3)]) dX12_leastOf_29 rfl (by decide) rfl rfl ?_
    obtain ⟨x2, ex2, hf⟩ := xlet_e hf
    refine J_iinc (ls' := [(3, xI x2), (2, xI r1), (0, xR 81), (1, xI l1)]) 3 dX12_leastOf_30 rfl (by decide) ex2 rfl ?_
    refine J_goto (tgt := 6) dX12_leastOf_33 (by decide) ?_
    refine J_sub [2, 3, 1, 0] rfl ?_
    exact kb _ _ (xinl hf)
theorem j_Md_leastOf_6 {l1 : Int} {l2 : Int} {l3 : Int} {h : xH} {r0 : Int}  (hf : f_Md_leastOf_6 l1 l2 l3 h = some r0)  : J mX12_leastOf true 0 0 6 xKn [(0, xR 81), (1, xI l1), (2, xI l2), (3, xI l3)] [] h (xEq (some r0) h) := by
  unfold f_Md_leastOf_6 at hf
  obtain ⟨b0, hb0, hf⟩ := xc1_e hf
  refine xloop_ind (P := fun s : (Int × Int) => J mX12_leastOf true 0 0 6 xKn [(0, xR 81), (1, xI l1), (2, xI s.1), (3, xI s.2)] [] h (xEq (some r0) h)) hb0 (fun s x1 hs ib ie => ?_)
  exact j_Md_leastOf_s6  hs (fun _ _ e => ib _ e) (fun _ e => by have := ie _ e; subst this; exact j_Md_leastOf_36  hf)
theorem jm_Md_leastOf {l1 : Int} {h : xH} {r0 : Int}  (hf : f_Md_leastOf l1 h = some r0) : J mX12_leastOf true 0 0 0 xKn (xen 0 [xR 81, xI l1]) [] h (xEq (some r0) h) := by
  unfold f_Md_leastOf at hf
  refine J_cong (ls2 := [(0, xR 81), (1, xI l1)]) (st2 := []) rfl rfl ?_
  refine J_ldcw (v := 1000000) dX12_leastOf_0 xq1370 (by decide) ?_
  refine J_istore_n (ls' := [(2, xI 1000000), (0, xR 81), (1, xI l1)]) dX12_leastOf_3 rfl (by decide) rfl rfl ?_
  refine J_iconst dX12_leastOf_4 (by decide) ?_
  refine J_istore_n (ls' := [(3, xI 0), (2, xI 1000000), (0, xR 81), (1, xI l1)]) dX12_leastOf_5 rfl (by decide) rfl rfl ?_
  refine J_sub [2, 3, 1, 0] rfl ?_
  exact j_Md_leastOf_6  hf
theorem dX12_meets_0 : decode cX12_meets 0 = .ok (.aload_n 0, 1) := by decide +kernel
theorem dX12_meets_1 : decode cX12_meets 1 = .ok (.iload_n 1, 1) := by decide +kernel
theorem dX12_meets_2 : decode cX12_meets 2 = .ok (.invokevirtual 335, 3) := by decide +kernel
theorem dX12_meets_5 : decode cX12_meets 5 = .ok (.aload_n 0, 1) := by decide +kernel
theorem dX12_meets_6 : decode cX12_meets 6 = .ok (.iload_n 1, 1) := by decide +kernel
theorem dX12_meets_7 : decode cX12_meets 7 = .ok (.invokevirtual 338, 3) := by decide +kernel
theorem dX12_meets_10 : decode cX12_meets 10 = .ok (.iload_n 2, 1) := by decide +kernel
theorem dX12_meets_11 : decode cX12_meets 11 = .ok (.if_icmp .le 39, 3) := by decide +kernel
theorem dX12_meets_14 : decode cX12_meets 14 = .ok (.iload_n 1, 1) := by decide +kernel
theorem dX12_meets_15 : decode cX12_meets 15 = .ok (.iconst 1, 1) := by decide +kernel
theorem dX12_meets_16 : decode cX12_meets 16 = .ok (.if_icmp .lt 14, 3) := by decide +kernel
theorem dX12_meets_19 : decode cX12_meets 19 = .ok (.aload_n 0, 1) := by decide +kernel
theorem dX12_meets_20 : decode cX12_meets 20 = .ok (.iload_n 1, 1) := by decide +kernel
theorem dX12_meets_21 : decode cX12_meets 21 = .ok (.iconst 1, 1) := by decide +kernel
theorem dX12_meets_22 : decode cX12_meets 22 = .ok (.isub, 1) := by decide +kernel
theorem dX12_meets_23 : decode cX12_meets 23 = .ok (.invokevirtual 338, 3) := by decide +kernel
theorem dX12_meets_26 : decode cX12_meets 26 = .ok (.iload_n 2, 1) := by decide +kernel
theorem dX12_meets_27 : decode cX12_meets 27 = .ok (.if_icmp .le 23, 3) := by decide +kernel
theorem dX12_meets_30 : decode cX12_meets 30 = .ok (.iload_n 1, 1) := by decide +kernel
theorem dX12_meets_31 : decode cX12_meets 31 = .ok (.iconst 2, 1) := by decide +kernel
theorem dX12_meets_32 : decode cX12_meets 32 = .ok (.if_icmp .lt 14, 3) := by decide +kernel
theorem dX12_meets_35 : decode cX12_meets 35 = .ok (.aload_n 0, 1) := by decide +kernel
theorem dX12_meets_36 : decode cX12_meets 36 = .ok (.iload_n 1, 1) := by decide +kernel
theorem dX12_meets_37 : decode cX12_meets 37 = .ok (.iconst 2, 1) := by decide +kernel
theorem dX12_meets_38 : decode cX12_meets 38 = .ok (.isub, 1) := by decide +kernel
theorem dX12_meets_39 : decode cX12_meets 39 = .ok (.invokevirtual 338, 3) := by decide +kernel
theorem dX12_meets_42 : decode cX12_meets 42 = .ok (.iload_n 2, 1) := by decide +kernel
theorem dX12_meets_43 : decode cX12_meets 43 = .ok (.if_icmp .le 7, 3) := by decide +kernel
theorem dX12_meets_46 : decode cX12_meets 46 = .ok (.iconst 1, 1) := by decide +kernel
theorem dX12_meets_47 : decode cX12_meets 47 = .ok (.goto 4, 3) := by decide +kernel
theorem dX12_meets_50 : decode cX12_meets 50 = .ok (.iconst 0, 1) := by decide +kernel
theorem dX12_meets_51 : decode cX12_meets 51 = .ok (.istore 4, 2) := by decide +kernel
theorem dX12_meets_53 : decode cX12_meets 53 = .ok (.aload_n 0, 1) := by decide +kernel
theorem dX12_meets_54 : decode cX12_meets 54 = .ok (.getfield 104, 3) := by decide +kernel
theorem dX12_meets_57 : decode cX12_meets 57 = .ok (.aload_n 0, 1) := by decide +kernel
theorem dX12_meets_58 : decode cX12_meets 58 = .ok (.getfield 272, 3) := by decide +kernel
theorem dX12_meets_61 : decode cX12_meets 61 = .ok (.iload_n 1, 1) := by decide +kernel
theorem dX12_meets_62 : decode cX12_meets 62 = .ok (.iastore, 1) := by decide +kernel
theorem dX12_meets_63 : decode cX12_meets 63 = .ok (.aload_n 0, 1) := by decide +kernel
theorem dX12_meets_64 : decode cX12_meets 64 = .ok (.getfield 107, 3) := by decide +kernel
theorem dX12_meets_67 : decode cX12_meets 67 = .ok (.aload_n 0, 1) := by decide +kernel
theorem dX12_meets_68 : decode cX12_meets 68 = .ok (.getfield 272, 3) := by decide +kernel
theorem dX12_meets_71 : decode cX12_meets 71 = .ok (.iload_n 1, 1) := by decide +kernel
theorem dX12_meets_72 : decode cX12_meets 72 = .ok (.ifCond .ne 7, 3) := by decide +kernel
theorem dX12_meets_75 : decode cX12_meets 75 = .ok (.iconst (-1), 1) := by decide +kernel
theorem dX12_meets_76 : decode cX12_meets 76 = .ok (.goto 11, 3) := by decide +kernel
theorem dX12_meets_79 : decode cX12_meets 79 = .ok (.aload_n 0, 1) := by decide +kernel
theorem dX12_meets_80 : decode cX12_meets 80 = .ok (.getfield 62, 3) := by decide +kernel
theorem dX12_meets_83 : decode cX12_meets 83 = .ok (.iload_n 1, 1) := by decide +kernel
theorem dX12_meets_84 : decode cX12_meets 84 = .ok (.iconst 1, 1) := by decide +kernel
theorem dX12_meets_85 : decode cX12_meets 85 = .ok (.isub, 1) := by decide +kernel
theorem dX12_meets_86 : decode cX12_meets 86 = .ok (.iaload, 1) := by decide +kernel
theorem dX12_meets_87 : decode cX12_meets 87 = .ok (.iastore, 1) := by decide +kernel
theorem dX12_meets_88 : decode cX12_meets 88 = .ok (.aload_n 0, 1) := by decide +kernel
theorem dX12_meets_89 : decode cX12_meets 89 = .ok (.getfield 110, 3) := by decide +kernel
theorem dX12_meets_92 : decode cX12_meets 92 = .ok (.aload_n 0, 1) := by decide +kernel
theorem dX12_meets_93 : decode cX12_meets 93 = .ok (.getfield 272, 3) := by decide +kernel
theorem dX12_meets_96 : decode cX12_meets 96 = .ok (.aload_n 0, 1) := by decide +kernel
theorem dX12_meets_97 : decode cX12_meets 97 = .ok (.iload_n 1, 1) := by decide +kernel
theorem dX12_meets_98 : decode cX12_meets 98 = .ok (.invokevirtual 338, 3) := by decide +kernel
theorem dX12_meets_101 : decode cX12_meets 101 = .ok (.iastore, 1) := by decide +kernel
theorem dX12_meets_102 : decode cX12_meets 102 = .ok (.aload_n 0, 1) := by decide +kernel
theorem dX12_meets_103 : decode cX12_meets 103 = .ok (.getfield 113, 3) := by decide +kernel
theorem dX12_meets_106 : decode cX12_meets 106 = .ok (.aload_n 0, 1) := by decide +kernel
theorem dX12_meets_107 : decode cX12_meets 107 = .ok (.getfield 272, 3) := by decide +kernel
theorem dX12_meets_110 : decode cX12_meets 110 = .ok (.iload 4, 2) := by decide +kernel
theorem dX12_meets_112 : decode cX12_meets 112 = .ok (.ifCond .eq 7, 3) := by decide +kernel
theorem dX12_meets_115 : decode cX12_meets 115 = .ok (.iconst 1, 1) := by decide +kernel
theorem dX12_meets_116 : decode cX12_meets 116 = .ok (.goto 4, 3) := by decide +kernel
theorem dX12_meets_119 : decode cX12_meets 119 = .ok (.iconst 0, 1) := by decide +kernel
theorem dX12_meets_120 : decode cX12_meets 120 = .ok (.iastore, 1) := by decide +kernel
theorem dX12_meets_121 : decode cX12_meets 121 = .ok (.aload_n 0, 1) := by decide +kernel
theorem dX12_meets_122 : decode cX12_meets 122 = .ok (.getfield 116, 3) := by decide +kernel
theorem dX12_meets_125 : decode cX12_meets 125 = .ok (.aload_n 0, 1) := by decide +kernel
theorem dX12_meets_126 : decode cX12_meets 126 = .ok (.getfield 272, 3) := by decide +kernel
theorem dX12_meets_129 : decode cX12_meets 129 = .ok (.iload_n 3, 1) := by decide +kernel
theorem dX12_meets_130 : decode cX12_meets 130 = .ok (.ifCond .eq 7, 3) := by decide +kernel
theorem dX12_meets_133 : decode cX12_meets 133 = .ok (.iconst 1, 1) := by decide +kernel
theorem dX12_meets_134 : decode cX12_meets 134 = .ok (.goto 4, 3) := by decide +kernel
theorem dX12_meets_137 : decode cX12_meets 137 = .ok (.iconst 0, 1) := by decide +kernel
theorem dX12_meets_138 : decode cX12_meets 138 = .ok (.iastore, 1) := by decide +kernel
theorem dX12_meets_139 : decode cX12_meets 139 = .ok (.iconst 0, 1) := by decide +kernel
theorem dX12_meets_140 : decode cX12_meets 140 = .ok (.istore 5, 2) := by decide +kernel
theorem dX12_meets_142 : decode cX12_meets 142 = .ok (.iload 5, 2) := by decide +kernel
theorem dX12_meets_144 : decode cX12_meets 144 = .ok (.aload_n 0, 1) := by decide +kernel
theorem dX12_meets_145 : decode cX12_meets 145 = .ok (.getfield 231, 3) := by decide +kernel
theorem dX12_meets_148 : decode cX12_meets 148 = .ok (.if_icmp .gt 36, 3) := by decide +kernel
theorem dX12_meets_151 : decode cX12_meets 151 = .ok (.aload_n 0, 1) := by decide +kernel
theorem dX12_meets_152 : decode cX12_meets 152 = .ok (.getfield 119, 3) := by decide +kernel
theorem dX12_meets_155 : decode cX12_meets 155 = .ok (.bipush 13, 2) := by decide +kernel
theorem dX12_meets_157 : decode cX12_meets 157 = .ok (.aload_n 0, 1) := by decide +kernel
theorem dX12_meets_158 : decode cX12_meets 158 = .ok (.getfield 272, 3) := by decide +kernel
theorem dX12_meets_161 : decode cX12_meets 161 = .ok (.imul, 1) := by decide +kernel
theorem dX12_meets_162 : decode cX12_meets 162 = .ok (.iload 5, 2) := by decide +kernel
theorem dX12_meets_164 : decode cX12_meets 164 = .ok (.iadd, 1) := by decide +kernel
theorem dX12_meets_165 : decode cX12_meets 165 = .ok (.aload_n 0, 1) := by decide +kernel
theorem dX12_meets_166 : decode cX12_meets 166 = .ok (.getfield 122, 3) := by decide +kernel
theorem dX12_meets_169 : decode cX12_meets 169 = .ok (.bipush 13, 2) := by decide +kernel
theorem dX12_meets_171 : decode cX12_meets 171 = .ok (.iload_n 1, 1) := by decide +kernel
theorem dX12_meets_172 : decode cX12_meets 172 = .ok (.imul, 1) := by decide +kernel
theorem dX12_meets_173 : decode cX12_meets 173 = .ok (.iload 5, 2) := by decide +kernel
theorem dX12_meets_175 : decode cX12_meets 175 = .ok (.iadd, 1) := by decide +kernel
theorem dX12_meets_176 : decode cX12_meets 176 = .ok (.iaload, 1) := by decide +kernel
theorem dX12_meets_177 : decode cX12_meets 177 = .ok (.iastore, 1) := by decide +kernel
theorem dX12_meets_178 : decode cX12_meets 178 = .ok (.iinc 5 1, 3) := by decide +kernel
theorem dX12_meets_181 : decode cX12_meets 181 = .ok (.goto (-39), 3) := by decide +kernel
theorem dX12_meets_184 : decode cX12_meets 184 = .ok (.aload_n 0, 1) := by decide +kernel
theorem dX12_meets_185 : decode cX12_meets 185 = .ok (.dup, 1) := by decide +kernel
theorem dX12_meets_186 : decode cX12_meets 186 = .ok (.getfield 272, 3) := by decide +kernel
theorem dX12_meets_189 : decode cX12_meets 189 = .ok (.iconst 1, 1) := by decide +kernel
theorem dX12_meets_190 : decode cX12_meets 190 = .ok (.iadd, 1) := by decide +kernel
theorem dX12_meets_191 : decode cX12_meets 191 = .ok (.putfield 272, 3) := by decide +kernel
theorem dX12_meets_194 : decode cX12_meets 194 = .ok (.iload 4, 2) := by decide +kernel
theorem dX12_meets_196 : decode cX12_meets 196 = .ok (.ifCond .eq 13, 3) := by decide +kernel
theorem dX12_meets_199 : decode cX12_meets 199 = .ok (.aload_n 0, 1) := by decide +kernel
theorem dX12_meets_200 : decode cX12_meets 200 = .ok (.dup, 1) := by decide +kernel
theorem dX12_meets_201 : decode cX12_meets 201 = .ok (.getfield 275, 3) := by decide +kernel
theorem dX12_meets_204 : decode cX12_meets 204 = .ok (.iconst 1, 1) := by decide +kernel
theorem dX12_meets_205 : decode cX12_meets 205 = .ok (.iadd, 1) := by decide +kernel
theorem dX12_meets_206 : decode cX12_meets 206 = .ok (.putfield 275, 3) := by decide +kernel
theorem dX12_meets_209 : decode cX12_meets 209 = .ok (.iload 4, 2) := by decide +kernel
theorem dX12_meets_211 : decode cX12_meets 211 = .ok (.ireturn, 1) := by decide +kernel
theorem j_Md_meets_184 {l4 : Int} {h : xH} {r0 : Int} {h0 : xH}  (hf : f_Md_meets_184 l4 h = some (r0, h0))  : J mX12_meets true 0 0 184 xKn [(0, xR 81), (4, xI l4)] [] h (xEq (some r0) h0) := by
  unfold f_Md_meets_184 at hf
  refine J_aload_n 0 dX12_meets_184 rfl rfl ?_
  refine J_dup dX12_meets_185 rfl ?_
  refine J_getI (j := 39) xcf12 dX12_meets_186 (xK_rg kO81) kO81 (Or.inl xq1059) (by decide) (by decide) ?_
  refine J_iconst dX12_meets_189 (by decide) ?_
  refine J_iadd dX12_meets_190 ?_
  obtain ⟨h1, eh1, hf⟩ := xlet_e hf
  refine J_putI (j := 39) xcf12 dX12_meets_191 (xK_rg kO81) kO81 (Or.inl xq1059) (by decide) (by decide) eh1 ?_
  refine J_iload 1 dX12_meets_194 rfl ?_
  refine J_if_eq (tgt := 209) dX12_meets_196 (by decide) (fun hc => ?_) (fun hc => ?_)
  · have hf := xip hc hf
    refine J_iload 1 dX12_meets_209 rfl ?_
    obtain ⟨hz, hf⟩ := xgb_e hf
    exact J_iretz dX12_meets_211 rfl hz (xq_i hf)
  · have hf := xin' hc hf
    refine J_aload_n 0 dX12_meets_199 rfl rfl ?_
    refine J_dup dX12_meets_200 rfl ?_
    refine J_getI (j := 40) xcf12 dX12_meets_201 (xK_rg kO81) kO81 (Or.inl xq1060) (by decide) (by decide) ?_
    refine J_iconst dX12_meets_204 (by decide) ?_
    refine J_iadd dX12_meets_205 ?_
    obtain ⟨h2, eh2, hf⟩ := xlet_e hf
    refine J_putI (j := 40) xcf12 dX12_meets_206 (xK_rg kO81) kO81 (Or.inl xq1060) (by decide) (by decide) eh2 ?_
    refine J_iload 1 dX12_meets_209 rfl ?_
    obtain ⟨hz, hf⟩ := xgb_e hf
    exact J_iretz dX12_meets_211 rfl hz (xq_i hf)
theorem j_Md_meets_s142 {l1 : Int} {l4 : Int} {l5 : Int} {h : xH} {x : ((Int × xH) ⊕ xH)} {Q : xQ}  (hf : f_Md_meets_s142 l1 l4 l5 h = some x) (kb : ∀ (l5' : Int) (h' : xH), x = Sum.inl (l5', h') → J mX12_meets true 0 0 142 xKn [(0, xR 81), (1, xI l1), (4, xI l4), (5, xI l5')] [] h' Q) (ke : ∀  (h' : xH), x = (Sum.inr h') → J mX12_meets true 0 0 184 xKn [(0, xR 81), (4, xI l4)] [] h' Q) : J mX12_meets true 0 0 142 xKn [(0, xR 81), (1, xI l1), (4, xI l4), (5, xI l5)] [] h Q := by
  unfold f_Md_meets_s142 at hf
  refine J_iload 3 dX12_meets_142 rfl ?_
  refine J_aload_n 0 dX12_meets_144 rfl rfl ?_
  refine J_getI (j := 23) xcf12 dX12_meets_145 (xK_rg kO81) kO81 (Or.inl xq1043) (by decide) (by decide) ?_
  refine J_ic_gt (tgt := 184) dX12_meets_148 (by decide) (fun hc => ?_) (fun hc => ?_)
  · have hf := xip hc hf
    refine J_sub [0, 2] rfl ?_
    exact ke _ (xinl hf)
  · have hf := xin' hc hf
    refine J_aload_n 0 dX12_meets_151 rfl rfl ?_
    refine J_getRl (j := 46) xcf12 dX12_meets_152 kO81 (Or.inl xq1066) (by decide) (by decide) rf_81_46 ?_
    refine J_bip dX12_meets_155 (by decide) ?_
    refine J_aload_n 0 dX12_meets_157 rfl rfl ?_
    refine J_getI (j := 39) xcf12 dX12_meets_158 (xK_rg kO81) kO81 (Or.inl xq1059) (by decide) (by decide) ?_
    refine J_imul dX12_meets_161 ?_
    refine J_iload 3 dX12_meets_162 rfl ?_
    refine J_iadd dX12_meets_164 ?_
    refine J_aload_n 0 dX12_meets_165 rfl rfl ?_
    refine J_getRl (j := 48) xcf12 dX12_meets_166 kO81 (Or.inl xq1068) (by decide) (by decide) rf_81_48 ?_
    refine J_bip dX12_meets_169 (by decide) ?_
    refine J_iload_n 1 dX12_meets_171 rfl rfl ?_
    refine J_imul dX12_meets_172 ?_
    refine J_iload 3 dX12_meets_173 rfl ?_
    refine J_iadd dX12_meets_175 ?_
    obtain ⟨hg, hf⟩ := xgd_e hf
    refine J_iald dX12_meets_176 (xK_r1 kO116) kO116 hg nA116 ?_
    obtain ⟨hg, hf⟩ := xgd_e hf
    obtain ⟨h1, eh1, hf⟩ := xlet_e hf
    refine J_iast dX12_meets_177 (xK_r1 kO115) kO115 hg nA115 eh1 ?_
    obtain ⟨x2, ex2, hf⟩ := xlet_e hf
    refine J_iinc (ls' := [(5, xI x2), (0, xR 81), (1, xI l1), (4, xI l4)]) 3 dX12_meets_178 rfl (by decide) ex2 rfl ?_
    refine J_goto (tgt := 142) dX12_meets_181 (by decide) ?_
    refine J_sub [1, 2, 3, 0] rfl ?_
    exact kb _ _ (xinl hf)
theorem j_Md_meets_142 {l1 : Int} {l4 : Int} {l5 : Int} {h : xH} {r0 : Int} {h0 : xH}  (hf : f_Md_meets_142 l1 l4 l5 h = some (r0, h0))  : J mX12_meets true 0 0 142 xKn [(0, xR 81), (1, xI l1), (4, xI l4), (5, xI l5)] [] h (xEq (some r0) h0) := by
  unfold f_Md_meets_142 at hf
  obtain ⟨b0, hb0, hf⟩ := xc1_e hf
  refine xloop_ind (P := fun s : (Int × xH) => J mX12_meets true 0 0 142 xKn [(0, xR 81), (1, xI l1), (4, xI l4), (5, xI s.1)] [] s.2 (xEq (some r0) h0)) hb0 (fun s x1 hs ib ie => ?_)
  exact j_Md_meets_s142  hs (fun _ _ e => ib _ e) (fun _ e => by have := ie _ e; subst this; exact j_Md_meets_184  hf)
theorem j_Md_meets_138 {l1 : Int} {l4 : Int} {s1 : Int} {s2 : Int} {h : xH} {r0 : Int} {h0 : xH}  (hf : f_Md_meets_138 l1 l4 s1 s2 h = some (r0, h0))  : J mX12_meets true 0 0 138 xKn [(0, xR 81), (1, xI l1), (4, xI l4)] [xI s2, xI s1, xR 114] h (xEq (some r0) h0) := by
  unfold f_Md_meets_138 at hf
  obtain ⟨hg, hf⟩ := xgd_e hf
  obtain ⟨h1, eh1, hf⟩ := xlet_e hf
  refine J_iast dX12_meets_138 (xK_r1 kO114) kO114 hg nA114 eh1 ?_
  refine J_iconst dX12_meets_139 (by decide) ?_
  refine J_istore (ls' := [(5, xI 0), (0, xR 81), (1, xI l1), (4, xI l4)]) dX12_meets_140 (by decide) rfl rfl ?_
  refine J_sub [1, 2, 3, 0] rfl ?_
  exact j_Md_meets_142  hf
theorem j_Md_meets_120 {l1 : Int} {l3 : Int} {l4 : Int} {s1 : Int} {s2 : Int} {h : xH} {r0 : Int} {h0 : xH}  (hf : f_Md_meets_120 l1 l3 l4 s1 s2 h = some (r0, h0))  : J mX12_meets true 0 0 120 xKn [(0, xR 81), (1, xI l1), (3, xI l3), (4, xI l4)] [xI s2, xI s1, xR 113] h (xEq (some r0) h0) := by
  unfold f_Md_meets_120 at hf
  obtain ⟨hg, hf⟩ := xgd_e hf
  obtain ⟨h1, eh1, hf⟩ := xlet_e hf
  refine J_iast dX12_meets_120 (xK_r1 kO113) kO113 hg nA113 eh1 ?_
  refine J_aload_n 0 dX12_meets_121 rfl rfl ?_
  refine J_getRl (j := 45) xcf12 dX12_meets_122 kO81 (Or.inl xq1065) (by decide) (by decide) rf_81_45 ?_
  refine J_aload_n 0 dX12_meets_125 rfl rfl ?_
  refine J_getI (j := 39) xcf12 dX12_meets_126 (xK_rg kO81) kO81 (Or.inl xq1059) (by decide) (by decide) ?_
  refine J_iload_n 2 dX12_meets_129 rfl rfl ?_
  refine J_if_eq (tgt := 137) dX12_meets_130 (by decide) (fun hc => ?_) (fun hc => ?_)
  · have hf := xip hc hf
    refine J_iconst dX12_meets_137 (by decide) ?_
    refine J_sub [0, 1, 3] rfl ?_
    exact j_Md_meets_138  hf
  · have hf := xin' hc hf
    refine J_iconst dX12_meets_133 (by decide) ?_
    refine J_goto (tgt := 138) dX12_meets_134 (by decide) ?_
    refine J_sub [0, 1, 3] rfl ?_
    exact j_Md_meets_138  hf
theorem j_Md_meets_87 {l1 : Int} {l3 : Int} {l4 : Int} {s1 : Int} {s2 : Int} {h : xH} {r0 : Int} {h0 : xH}  (hf : f_Md_meets_87 l1 l3 l4 s1 s2 h = some (r0, h0))  : J mX12_meets true 0 0 87 xKn [(0, xR 81), (1, xI l1), (3, xI l3), (4, xI l4)] [xI s2, xI s1, xR 111] h (xEq (some r0) h0) := by
  unfold f_Md_meets_87 at hf
  obtain ⟨hg, hf⟩ := xgd_e hf
  obtain ⟨h1, eh1, hf⟩ := xlet_e hf
  refine J_iast dX12_meets_87 (xK_r1 kO111) kO111 hg nA111 eh1 ?_
  refine J_aload_n 0 dX12_meets_88 rfl rfl ?_
  refine J_getRl (j := 43) xcf12 dX12_meets_89 kO81 (Or.inl xq1063) (by decide) (by decide) rf_81_43 ?_
  refine J_aload_n 0 dX12_meets_92 rfl rfl ?_
  refine J_getI (j := 39) xcf12 dX12_meets_93 (xK_rg kO81) kO81 (Or.inl xq1059) (by decide) (by decide) ?_
  refine J_aload_n 0 dX12_meets_96 rfl rfl ?_
  refine J_iload_n 1 dX12_meets_97 rfl rfl ?_
  obtain ⟨r2, hq, hf⟩ := xc1_e hf
  refine J_cVi (Mc := mX12_leastOf) [xI l1] dX12_meets_98 (fc_Md_leastOf.fit ⟨xbl rfl, xbl rfl⟩) rfl ⟨Or.inl xq1416, xq1418, xq109⟩ kO81 (ci := 12) rfl rfl (xbl rfl) (xbl rfl) (jm_Md_leastOf  hq) ?_
  obtain ⟨hg, hf⟩ := xgd_e hf
  obtain ⟨h3, eh3, hf⟩ := xlet_e hf
  refine J_iast dX12_meets_101 (xK_r1 kO112) kO112 hg nA112 eh3 ?_
  refine J_aload_n 0 dX12_meets_102 rfl rfl ?_
  refine J_getRl (j := 44) xcf12 dX12_meets_103 kO81 (Or.inl xq1064) (by decide) (by decide) rf_81_44 ?_
  refine J_aload_n 0 dX12_meets_106 rfl rfl ?_
  refine J_getI (j := 39) xcf12 dX12_meets_107 (xK_rg kO81) kO81 (Or.inl xq1059) (by decide) (by decide) ?_
  refine J_iload 3 dX12_meets_110 rfl ?_
  refine J_if_eq (tgt := 119) dX12_meets_112 (by decide) (fun hc => ?_) (fun hc => ?_)
  · have hf := xip hc hf
    refine J_iconst dX12_meets_119 (by decide) ?_
    exact j_Md_meets_120  hf
  · have hf := xin' hc hf
    refine J_iconst dX12_meets_115 (by decide) ?_
    refine J_goto (tgt := 120) dX12_meets_116 (by decide) ?_
    exact j_Md_meets_120  hf
theorem j_Md_meets_51 {l1 : Int} {l3 : Int} {s0 : Int} {h : xH} {r0 : Int} {h0 : xH}  (hf : f_Md_meets_51 l1 l3 s0 h = some (r0, h0))  : J mX12_meets true 0 0 51 xKn [(0, xR 81), (1, xI l1), (3, xI l3)] [xI s0] h (xEq (some r0) h0) := by
  unfold f_Md_meets_51 at hf
  refine J_istore (ls' := [(4, xI s0), (0, xR 81), (1, xI l1), (3, xI l3)]) dX12_meets_51 (by decide) rfl rfl ?_
  refine J_aload_n 1 dX12_meets_53 rfl rfl ?_
  refine J_getRl (j := 41) xcf12 dX12_meets_54 kO81 (Or.inl xq1061) (by decide) (by decide) rf_81_41 ?_
  refine J_aload_n 1 dX12_meets_57 rfl rfl ?_
  refine J_getI (j := 39) xcf12 dX12_meets_58 (xK_rg kO81) kO81 (Or.inl xq1059) (by decide) (by decide) ?_
  refine J_iload_n 2 dX12_meets_61 rfl rfl ?_
  obtain ⟨hg, hf⟩ := xgd_e hf
  obtain ⟨h1, eh1, hf⟩ := xlet_e hf
  refine J_iast dX12_meets_62 (xK_r1 kO110) kO110 hg nA110 eh1 ?_
  refine J_aload_n 1 dX12_meets_63 rfl rfl ?_
  refine J_getRl (j := 42) xcf12 dX12_meets_64 kO81 (Or.inl xq1062) (by decide) (by decide) rf_81_42 ?_
  refine J_aload_n 1 dX12_meets_67 rfl rfl ?_
  refine J_getI (j := 39) xcf12 dX12_meets_68 (xK_rg kO81) kO81 (Or.inl xq1059) (by decide) (by decide) ?_
  refine J_iload_n 2 dX12_meets_71 rfl rfl ?_
  refine J_if_ne (tgt := 79) dX12_meets_72 (by decide) (fun hc => ?_) (fun hc => ?_)
  · have hf := xip hc hf
    refine J_iconst dX12_meets_75 (by decide) ?_
    refine J_goto (tgt := 87) dX12_meets_76 (by decide) ?_
    refine J_sub [1, 2, 3, 0] rfl ?_
    exact j_Md_meets_87  hf
  · have hf := xin' hc hf
    refine J_aload_n 1 dX12_meets_79 rfl rfl ?_
    refine J_getRl (j := 24) xcf12 dX12_meets_80 kO81 (Or.inl xq1044) (by decide) (by decide) rf_81_24 ?_
    refine J_iload_n 2 dX12_meets_83 rfl rfl ?_
    refine J_iconst dX12_meets_84 (by decide) ?_
    refine J_isub dX12_meets_85 ?_
    obtain ⟨hg, hf⟩ := xgd_e hf
    refine J_iald dX12_meets_86 (xK_r1 kO97) kO97 hg nA97 ?_
    refine J_sub [1, 2, 3, 0] rfl ?_
    exact j_Md_meets_87  hf
theorem j_Md_meets_50 {l1 : Int} {l3 : Int} {h : xH} {r0 : Int} {h0 : xH}  (hf : f_Md_meets_50 l1 l3 h = some (r0, h0))  : J mX12_meets true 0 0 50 xKn [(0, xR 81), (1, xI l1), (3, xI l3)] [] h (xEq (some r0) h0) := by
  unfold f_Md_meets_50 at hf
  refine J_iconst dX12_meets_50 (by decide) ?_
  exact j_Md_meets_51  hf
theorem j_Md_meets_46 {l1 : Int} {l3 : Int} {h : xH} {r0 : Int} {h0 : xH}  (hf : f_Md_meets_46 l1 l3 h = some (r0, h0))  : J mX12_meets true 0 0 46 xKn [(0, xR 81), (1, xI l1), (3, xI l3)] [] h (xEq (some r0) h0) := by
  unfold f_Md_meets_46 at hf
  refine J_iconst dX12_meets_46 (by decide) ?_
  refine J_goto (tgt := 51) dX12_meets_47 (by decide) ?_
  exact j_Md_meets_51  hf
theorem j_Md_meets_30 {l1 : Int} {l2 : Int} {l3 : Int} {h : xH} {r0 : Int} {h0 : xH}  (hf : f_Md_meets_30 l1 l2 l3 h = some (r0, h0))  : J mX12_meets true 0 0 30 xKn [(0, xR 81), (1, xI l1), (2, xI l2), (3, xI l3)] [] h (xEq (some r0) h0) := by
  unfold f_Md_meets_30 at hf
  refine J_iload_n 1 dX12_meets_30 rfl rfl ?_
  refine J_iconst dX12_meets_31 (by decide) ?_
  refine J_ic_lt (tgt := 46) dX12_meets_32 (by decide) (fun hc => ?_) (fun hc => ?_)
  · have hf := xip hc hf
    refine J_sub [0, 1, 3] rfl ?_
    exact j_Md_meets_46  hf
  · have hf := xin' hc hf
    refine J_aload_n 0 dX12_meets_35 rfl rfl ?_
    refine J_iload_n 1 dX12_meets_36 rfl rfl ?_
    refine J_iconst dX12_meets_37 (by decide) ?_
    refine J_isub dX12_meets_38 ?_
    obtain ⟨r1, hq, hf⟩ := xc1_e hf
    refine J_cVi (Mc := mX12_leastOf) [xI (w32 (l1 - 2))] dX12_meets_39 (fc_Md_leastOf.fit ⟨xbl rfl, xbl rfl⟩) rfl ⟨Or.inl xq1416, xq1418, xq109⟩ kO81 (ci := 12) rfl rfl (xbl rfl) (xbl rfl) (jm_Md_leastOf  hq) ?_
    refine J_iload_n 2 dX12_meets_42 rfl rfl ?_
    refine J_ic_le (tgt := 50) dX12_meets_43 (by decide) (fun hc => ?_) (fun hc => ?_)
    · have hf := xip hc hf
      refine J_sub [0, 1, 3] rfl ?_
      exact j_Md_meets_46  hf
    · have hf := xin' hc hf
      refine J_sub [0, 1, 3] rfl ?_
      exact j_Md_meets_50  hf
theorem jm_Md_meets {l1 : Int} {l2 : Int} {l3 : Int} {h : xH} {r0 : Int} {h0 : xH}  (hf : f_Md_meets l1 l2 l3 h = some (r0, h0)) : J mX12_meets true 0 0 0 xKn (xen 0 [xR 81, xI l1, xI l2, xI l3]) [] h (xEq (some r0) h0) := by
  unfold f_Md_meets at hf
  refine J_cong (ls2 := [(0, xR 81), (1, xI l1), (2, xI l2), (3, xI l3)]) (st2 := []) rfl rfl ?_
  refine J_aload_n 0 dX12_meets_0 rfl rfl ?_
  refine J_iload_n 1 dX12_meets_1 rfl rfl ?_
  obtain ⟨h1, hq, hf⟩ := xc1_e hf
  refine J_cVv (Mc := mX12_stateRow) [xI l1] dX12_meets_2 (fc_Md_stateRow.fit ⟨xbl rfl, xbl rfl⟩) rfl ⟨Or.inl xq1412, xq1414, xq108⟩ kO81 (ci := 12) rfl rfl (xbl rfl) (xbl rfl) (jm_Md_stateRow  hq) ?_
  refine J_aload_n 0 dX12_meets_5 rfl rfl ?_
  refine J_iload_n 1 dX12_meets_6 rfl rfl ?_
  obtain ⟨r2, hq, hf⟩ := xc1_e hf
  refine J_cVi (Mc := mX12_leastOf) [xI l1] dX12_meets_7 (fc_Md_leastOf.fit ⟨xbl rfl, xbl rfl⟩) rfl ⟨Or.inl xq1416, xq1418, xq109⟩ kO81 (ci := 12) rfl rfl (xbl rfl) (xbl rfl) (jm_Md_leastOf  hq) ?_
  refine J_iload_n 2 dX12_meets_10 rfl rfl ?_
  refine J_ic_le (tgt := 50) dX12_meets_11 (by decide) (fun hc => ?_) (fun hc => ?_)
  · have hf := xip hc hf
    refine J_iload_n 1 dX12_meets_14 rfl rfl ?_
    refine J_iconst dX12_meets_15 (by decide) ?_
    refine J_ic_lt (tgt := 30) dX12_meets_16 (by decide) (fun hc => ?_) (fun hc => ?_)
    · have hf := xip hc hf
      exact j_Md_meets_30  hf
    · have hf := xin' hc hf
      refine J_aload_n 0 dX12_meets_19 rfl rfl ?_
      refine J_iload_n 1 dX12_meets_20 rfl rfl ?_
      refine J_iconst dX12_meets_21 (by decide) ?_
      refine J_isub dX12_meets_22 ?_
      obtain ⟨r3, hq, hf⟩ := xc1_e hf
      refine J_cVi (Mc := mX12_leastOf) [xI (w32 (l1 - 1))] dX12_meets_23 (fc_Md_leastOf.fit ⟨xbl rfl, xbl rfl⟩) rfl ⟨Or.inl xq1416, xq1418, xq109⟩ kO81 (ci := 12) rfl rfl (xbl rfl) (xbl rfl) (jm_Md_leastOf  hq) ?_
      refine J_iload_n 2 dX12_meets_26 rfl rfl ?_
      refine J_ic_le (tgt := 50) dX12_meets_27 (by decide) (fun hc => ?_) (fun hc => ?_)
      · have hf := xip hc hf
        exact j_Md_meets_30  hf
      · have hf := xin' hc hf
        refine J_sub [0, 1, 3] rfl ?_
        exact j_Md_meets_50  hf
  · have hf := xin' hc hf
    refine J_sub [0, 1, 3] rfl ?_
    exact j_Md_meets_50  hf
theorem dX12_walk_0 : decode cX12_walk 0 = .ok (.aload_n 0, 1) := by decide +kernel
theorem dX12_walk_1 : decode cX12_walk 1 = .ok (.iconst 0, 1) := by decide +kernel
theorem dX12_walk_2 : decode cX12_walk 2 = .ok (.putfield 272, 3) := by decide +kernel
theorem dX12_walk_5 : decode cX12_walk 5 = .ok (.aload_n 0, 1) := by decide +kernel
theorem dX12_walk_6 : decode cX12_walk 6 = .ok (.iconst 0, 1) := by decide +kernel
theorem dX12_walk_7 : decode cX12_walk 7 = .ok (.putfield 275, 3) := by decide +kernel
theorem dX12_walk_10 : decode cX12_walk 10 = .ok (.aload_n 0, 1) := by decide +kernel
theorem dX12_walk_11 : decode cX12_walk 11 = .ok (.aload_n 0, 1) := by decide +kernel
theorem dX12_walk_12 : decode cX12_walk 12 = .ok (.getfield 231, 3) := by decide +kernel
theorem dX12_walk_15 : decode cX12_walk 15 = .ok (.putfield 341, 3) := by decide +kernel
theorem dX12_walk_18 : decode cX12_walk 18 = .ok (.aload_n 0, 1) := by decide +kernel
theorem dX12_walk_19 : decode cX12_walk 19 = .ok (.getfield 234, 3) := by decide +kernel
theorem dX12_walk_22 : decode cX12_walk 22 = .ok (.ifCond .ne 4, 3) := by decide +kernel
theorem dX12_walk_25 : decode cX12_walk 25 = .ok (.return_, 1) := by decide +kernel
theorem dX12_walk_26 : decode cX12_walk 26 = .ok (.iconst 0, 1) := by decide +kernel
theorem dX12_walk_27 : decode cX12_walk 27 = .ok (.istore_n 2, 1) := by decide +kernel
theorem dX12_walk_28 : decode cX12_walk 28 = .ok (.aload_n 0, 1) := by decide +kernel
theorem dX12_walk_29 : decode cX12_walk 29 = .ok (.iconst 0, 1) := by decide +kernel
theorem dX12_walk_30 : decode cX12_walk 30 = .ok (.iload_n 1, 1) := by decide +kernel
theorem dX12_walk_31 : decode cX12_walk 31 = .ok (.iconst 0, 1) := by decide +kernel
theorem dX12_walk_32 : decode cX12_walk 32 = .ok (.invokevirtual 344, 3) := by decide +kernel
theorem dX12_walk_35 : decode cX12_walk 35 = .ok (.istore_n 3, 1) := by decide +kernel
theorem dX12_walk_36 : decode cX12_walk 36 = .ok (.aload_n 0, 1) := by decide +kernel
theorem dX12_walk_37 : decode cX12_walk 37 = .ok (.getfield 128, 3) := by decide +kernel
theorem dX12_walk_40 : decode cX12_walk 40 = .ok (.iconst 0, 1) := by decide +kernel
theorem dX12_walk_41 : decode cX12_walk 41 = .ok (.iconst 0, 1) := by decide +kernel
theorem dX12_walk_42 : decode cX12_walk 42 = .ok (.iastore, 1) := by decide +kernel
theorem dX12_walk_43 : decode cX12_walk 43 = .ok (.aload_n 0, 1) := by decide +kernel
theorem dX12_walk_44 : decode cX12_walk 44 = .ok (.getfield 131, 3) := by decide +kernel
theorem dX12_walk_47 : decode cX12_walk 47 = .ok (.iconst 0, 1) := by decide +kernel
theorem dX12_walk_48 : decode cX12_walk 48 = .ok (.aload_n 0, 1) := by decide +kernel
theorem dX12_walk_49 : decode cX12_walk 49 = .ok (.getfield 234, 3) := by decide +kernel
theorem dX12_walk_52 : decode cX12_walk 52 = .ok (.iastore, 1) := by decide +kernel
theorem dX12_walk_53 : decode cX12_walk 53 = .ok (.aload_n 0, 1) := by decide +kernel
theorem dX12_walk_54 : decode cX12_walk 54 = .ok (.getfield 134, 3) := by decide +kernel
theorem dX12_walk_57 : decode cX12_walk 57 = .ok (.iconst 0, 1) := by decide +kernel
theorem dX12_walk_58 : decode cX12_walk 58 = .ok (.iload_n 3, 1) := by decide +kernel
theorem dX12_walk_59 : decode cX12_walk 59 = .ok (.ifCond .eq 10, 3) := by decide +kernel
theorem dX12_walk_62 : decode cX12_walk 62 = .ok (.aload_n 0, 1) := by decide +kernel
theorem dX12_walk_63 : decode cX12_walk 63 = .ok (.getfield 234, 3) := by decide +kernel
theorem dX12_walk_66 : decode cX12_walk 66 = .ok (.goto 4, 3) := by decide +kernel
theorem dX12_walk_69 : decode cX12_walk 69 = .ok (.iconst 0, 1) := by decide +kernel
theorem dX12_walk_70 : decode cX12_walk 70 = .ok (.iastore, 1) := by decide +kernel
theorem dX12_walk_71 : decode cX12_walk 71 = .ok (.iload_n 2, 1) := by decide +kernel
theorem dX12_walk_72 : decode cX12_walk 72 = .ok (.ifCond .lt 185, 3) := by decide +kernel
theorem dX12_walk_75 : decode cX12_walk 75 = .ok (.aload_n 0, 1) := by decide +kernel
theorem dX12_walk_76 : decode cX12_walk 76 = .ok (.getfield 134, 3) := by decide +kernel
theorem dX12_walk_79 : decode cX12_walk 79 = .ok (.iload_n 2, 1) := by decide +kernel
theorem dX12_walk_80 : decode cX12_walk 80 = .ok (.iaload, 1) := by decide +kernel
theorem dX12_walk_81 : decode cX12_walk 81 = .ok (.istore 4, 2) := by decide +kernel
theorem dX12_walk_83 : decode cX12_walk 83 = .ok (.iload 4, 2) := by decide +kernel
theorem dX12_walk_85 : decode cX12_walk 85 = .ok (.aload_n 0, 1) := by decide +kernel
theorem dX12_walk_86 : decode cX12_walk 86 = .ok (.getfield 131, 3) := by decide +kernel
theorem dX12_walk_89 : decode cX12_walk 89 = .ok (.iload_n 2, 1) := by decide +kernel
theorem dX12_walk_90 : decode cX12_walk 90 = .ok (.iaload, 1) := by decide +kernel
theorem dX12_walk_91 : decode cX12_walk 91 = .ok (.if_icmp .ge 17, 3) := by decide +kernel
theorem dX12_walk_94 : decode cX12_walk 94 = .ok (.aload_n 0, 1) := by decide +kernel
theorem dX12_walk_95 : decode cX12_walk 95 = .ok (.getfield 19, 3) := by decide +kernel
theorem dX12_walk_98 : decode cX12_walk 98 = .ok (.iload 4, 2) := by decide +kernel
theorem dX12_walk_100 : decode cX12_walk 100 = .ok (.iaload, 1) := by decide +kernel
theorem dX12_walk_101 : decode cX12_walk 101 = .ok (.iload_n 2, 1) := by decide +kernel
theorem dX12_walk_102 : decode cX12_walk 102 = .ok (.if_icmp .ne 6, 3) := by decide +kernel
theorem dX12_walk_105 : decode cX12_walk 105 = .ok (.iinc 4 1, 3) := by decide +kernel
theorem dX12_walk_108 : decode cX12_walk 108 = .ok (.iload 4, 2) := by decide +kernel
theorem dX12_walk_110 : decode cX12_walk 110 = .ok (.aload_n 0, 1) := by decide +kernel
theorem dX12_walk_111 : decode cX12_walk 111 = .ok (.getfield 131, 3) := by decide +kernel
theorem dX12_walk_114 : decode cX12_walk 114 = .ok (.iload_n 2, 1) := by decide +kernel
theorem dX12_walk_115 : decode cX12_walk 115 = .ok (.iaload, 1) := by decide +kernel
theorem dX12_walk_116 : decode cX12_walk 116 = .ok (.if_icmp .lt 9, 3) := by decide +kernel
theorem dX12_walk_119 : decode cX12_walk 119 = .ok (.iinc 2 (-1), 3) := by decide +kernel
theorem dX12_walk_122 : decode cX12_walk 122 = .ok (.goto (-51), 3) := by decide +kernel
theorem dX12_walk_125 : decode cX12_walk 125 = .ok (.aload_n 0, 1) := by decide +kernel
theorem dX12_walk_126 : decode cX12_walk 126 = .ok (.getfield 22, 3) := by decide +kernel
theorem dX12_walk_129 : decode cX12_walk 129 = .ok (.bipush 12, 2) := by decide +kernel
theorem dX12_walk_131 : decode cX12_walk 131 = .ok (.iload 4, 2) := by decide +kernel
theorem dX12_walk_133 : decode cX12_walk 133 = .ok (.imul, 1) := by decide +kernel
theorem dX12_walk_134 : decode cX12_walk 134 = .ok (.iload_n 2, 1) := by decide +kernel
theorem dX12_walk_135 : decode cX12_walk 135 = .ok (.iadd, 1) := by decide +kernel
theorem dX12_walk_136 : decode cX12_walk 136 = .ok (.iaload, 1) := by decide +kernel
theorem dX12_walk_137 : decode cX12_walk 137 = .ok (.istore 5, 2) := by decide +kernel
theorem dX12_walk_139 : decode cX12_walk 139 = .ok (.iload 4, 2) := by decide +kernel
theorem dX12_walk_141 : decode cX12_walk 141 = .ok (.istore 6, 2) := by decide +kernel
theorem dX12_walk_143 : decode cX12_walk 143 = .ok (.iload 6, 2) := by decide +kernel
theorem dX12_walk_145 : decode cX12_walk 145 = .ok (.aload_n 0, 1) := by decide +kernel
theorem dX12_walk_146 : decode cX12_walk 146 = .ok (.getfield 131, 3) := by decide +kernel
theorem dX12_walk_149 : decode cX12_walk 149 = .ok (.iload_n 2, 1) := by decide +kernel
theorem dX12_walk_150 : decode cX12_walk 150 = .ok (.iaload, 1) := by decide +kernel
theorem dX12_walk_151 : decode cX12_walk 151 = .ok (.if_icmp .ge 26, 3) := by decide +kernel
theorem dX12_walk_154 : decode cX12_walk 154 = .ok (.aload_n 0, 1) := by decide +kernel
theorem dX12_walk_155 : decode cX12_walk 155 = .ok (.getfield 22, 3) := by decide +kernel
theorem dX12_walk_158 : decode cX12_walk 158 = .ok (.bipush 12, 2) := by decide +kernel
theorem dX12_walk_160 : decode cX12_walk 160 = .ok (.iload 6, 2) := by decide +kernel
theorem dX12_walk_162 : decode cX12_walk 162 = .ok (.imul, 1) := by decide +kernel
theorem dX12_walk_163 : decode cX12_walk 163 = .ok (.iload_n 2, 1) := by decide +kernel
theorem dX12_walk_164 : decode cX12_walk 164 = .ok (.iadd, 1) := by decide +kernel
theorem dX12_walk_165 : decode cX12_walk 165 = .ok (.iaload, 1) := by decide +kernel
theorem dX12_walk_166 : decode cX12_walk 166 = .ok (.iload 5, 2) := by decide +kernel
theorem dX12_walk_168 : decode cX12_walk 168 = .ok (.if_icmp .ne 9, 3) := by decide +kernel
theorem dX12_walk_171 : decode cX12_walk 171 = .ok (.iinc 6 1, 3) := by decide +kernel
theorem dX12_walk_174 : decode cX12_walk 174 = .ok (.goto (-31), 3) := by decide +kernel
theorem dX12_walk_177 : decode cX12_walk 177 = .ok (.aload_n 0, 1) := by decide +kernel
theorem dX12_walk_178 : decode cX12_walk 178 = .ok (.getfield 134, 3) := by decide +kernel
theorem dX12_walk_181 : decode cX12_walk 181 = .ok (.iload_n 2, 1) := by decide +kernel
theorem dX12_walk_182 : decode cX12_walk 182 = .ok (.iload 6, 2) := by decide +kernel
theorem dX12_walk_184 : decode cX12_walk 184 = .ok (.iastore, 1) := by decide +kernel
theorem dX12_walk_185 : decode cX12_walk 185 = .ok (.iinc 2 1, 3) := by decide +kernel
theorem dX12_walk_188 : decode cX12_walk 188 = .ok (.aload_n 0, 1) := by decide +kernel
theorem dX12_walk_189 : decode cX12_walk 189 = .ok (.getfield 62, 3) := by decide +kernel
theorem dX12_walk_192 : decode cX12_walk 192 = .ok (.iload_n 2, 1) := by decide +kernel
theorem dX12_walk_193 : decode cX12_walk 193 = .ok (.iconst 1, 1) := by decide +kernel
theorem dX12_walk_194 : decode cX12_walk 194 = .ok (.isub, 1) := by decide +kernel
theorem dX12_walk_195 : decode cX12_walk 195 = .ok (.iload 5, 2) := by decide +kernel
theorem dX12_walk_197 : decode cX12_walk 197 = .ok (.iastore, 1) := by decide +kernel
theorem dX12_walk_198 : decode cX12_walk 198 = .ok (.aload_n 0, 1) := by decide +kernel
theorem dX12_walk_199 : decode cX12_walk 199 = .ok (.iload_n 2, 1) := by decide +kernel
theorem dX12_walk_200 : decode cX12_walk 200 = .ok (.iload_n 1, 1) := by decide +kernel
theorem dX12_walk_201 : decode cX12_walk 201 = .ok (.aload_n 0, 1) := by decide +kernel
theorem dX12_walk_202 : decode cX12_walk 202 = .ok (.getfield 19, 3) := by decide +kernel
theorem dX12_walk_205 : decode cX12_walk 205 = .ok (.iload 4, 2) := by decide +kernel
theorem dX12_walk_207 : decode cX12_walk 207 = .ok (.iaload, 1) := by decide +kernel
theorem dX12_walk_208 : decode cX12_walk 208 = .ok (.iload_n 2, 1) := by decide +kernel
theorem dX12_walk_209 : decode cX12_walk 209 = .ok (.if_icmp .ne 7, 3) := by decide +kernel
theorem dX12_walk_212 : decode cX12_walk 212 = .ok (.iconst 1, 1) := by decide +kernel
theorem dX12_walk_213 : decode cX12_walk 213 = .ok (.goto 4, 3) := by decide +kernel
theorem dX12_walk_216 : decode cX12_walk 216 = .ok (.iconst 0, 1) := by decide +kernel
theorem dX12_walk_217 : decode cX12_walk 217 = .ok (.invokevirtual 344, 3) := by decide +kernel
theorem dX12_walk_220 : decode cX12_walk 220 = .ok (.istore_n 3, 1) := by decide +kernel
theorem dX12_walk_221 : decode cX12_walk 221 = .ok (.aload_n 0, 1) := by decide +kernel
theorem dX12_walk_222 : decode cX12_walk 222 = .ok (.getfield 128, 3) := by decide +kernel
theorem dX12_walk_225 : decode cX12_walk 225 = .ok (.iload_n 2, 1) := by decide +kernel
theorem dX12_walk_226 : decode cX12_walk 226 = .ok (.iload 4, 2) := by decide +kernel
theorem dX12_walk_228 : decode cX12_walk 228 = .ok (.iastore, 1) := by decide +kernel
theorem dX12_walk_229 : decode cX12_walk 229 = .ok (.aload_n 0, 1) := by decide +kernel
theorem dX12_walk_230 : decode cX12_walk 230 = .ok (.getfield 131, 3) := by decide +kernel
theorem dX12_walk_233 : decode cX12_walk 233 = .ok (.iload_n 2, 1) := by decide +kernel
theorem dX12_walk_234 : decode cX12_walk 234 = .ok (.iload 6, 2) := by decide +kernel
theorem dX12_walk_236 : decode cX12_walk 236 = .ok (.iastore, 1) := by decide +kernel
theorem dX12_walk_237 : decode cX12_walk 237 = .ok (.aload_n 0, 1) := by decide +kernel
theorem dX12_walk_238 : decode cX12_walk 238 = .ok (.getfield 134, 3) := by decide +kernel
theorem dX12_walk_241 : decode cX12_walk 241 = .ok (.iload_n 2, 1) := by decide +kernel
theorem dX12_walk_242 : decode cX12_walk 242 = .ok (.iload_n 3, 1) := by decide +kernel
theorem dX12_walk_243 : decode cX12_walk 243 = .ok (.ifCond .eq 8, 3) := by decide +kernel
theorem dX12_walk_246 : decode cX12_walk 246 = .ok (.iload 6, 2) := by decide +kernel
theorem dX12_walk_248 : decode cX12_walk 248 = .ok (.goto 5, 3) := by decide +kernel
theorem dX12_walk_251 : decode cX12_walk 251 = .ok (.iload 4, 2) := by decide +kernel
theorem dX12_walk_253 : decode cX12_walk 253 = .ok (.iastore, 1) := by decide +kernel
theorem dX12_walk_254 : decode cX12_walk 254 = .ok (.goto (-183), 3) := by decide +kernel
theorem dX12_walk_257 : decode cX12_walk 257 = .ok (.return_, 1) := by decide +kernel
theorem j_Md_walk_257  {h : xH} {h0 : xH}  (hf : f_Md_walk_257 h = some h0)  : J mX12_walk true 0 0 257 xKn [] [] h (xEq none h0) := by
  unfold f_Md_walk_257 at hf
  exact J_rt dX12_walk_257 rfl (xq_v hf)
theorem j_Md_walk_253 {l1 : Int} {l2 : Int} {s1 : Int} {s2 : Int} {h : xH} {x : ((Int × xH) ⊕ xH)} {Q : xQ}  (hf : f_Md_walk_253 l1 l2 s1 s2 h = some x) (kb : ∀ (l2' : Int) (h' : xH), x = Sum.inl (l2', h') → J mX12_walk true 0 0 71 xKn [(0, xR 81), (1, xI l1), (2, xI l2')] [] h' Q) (ke : ∀  (h' : xH), x = (Sum.inr h') → J mX12_walk true 0 0 257 xKn [] [] h' Q) : J mX12_walk true 0 0 253 xKn [(0, xR 81), (1, xI l1), (2, xI l2)] [xI s2, xI s1, xR 120] h Q := by
  unfold f_Md_walk_253 at hf
  obtain ⟨hg, hf⟩ := xgd_e hf
  obtain ⟨h1, eh1, hf⟩ := xlet_e hf
  refine J_iast dX12_walk_253 (xK_r1 kO120) kO120 hg nA120 eh1 ?_
  refine J_goto (tgt := 71) dX12_walk_254 (by decide) ?_
  exact kb _ _ (xinl hf)
theorem j_Md_walk_217 {l1 : Int} {l2 : Int} {l4 : Int} {l6 : Int} {s1 : Int} {s2 : Int} {s3 : Int} {h : xH} {x : ((Int × xH) ⊕ xH)} {Q : xQ}  (hf : f_Md_walk_217 l1 l2 l4 l6 s1 s2 s3 h = some x) (kb : ∀ (l2' : Int) (h' : xH), x = Sum.inl (l2', h') → J mX12_walk true 0 0 71 xKn [(0, xR 81), (1, xI l1), (2, xI l2')] [] h' Q) (ke : ∀  (h' : xH), x = (Sum.inr h') → J mX12_walk true 0 0 257 xKn [] [] h' Q) : J mX12_walk true 0 0 217 xKn [(0, xR 81), (1, xI l1), (2, xI l2), (4, xI l4), (6, xI l6)] [xI s3, xI s2, xI s1, xR 81] h Q := by
  unfold f_Md_walk_217 at hf
  obtain ⟨r1, h2, hq, hf⟩ := xc2_e hf
  refine J_cVi (Mc := mX12_meets) [xI s1, xI s2, xI s3] dX12_walk_217 (fc_Md_meets.fit ⟨xbl rfl, xbl rfl⟩) rfl ⟨Or.inl xq1408, xq1410, xq107⟩ kO81 (ci := 12) rfl rfl (xbl rfl) (xbl rfl) (jm_Md_meets  hq) ?_
  refine J_istore_n (ls' := [(3, xI r1), (0, xR 81), (1, xI l1), (2, xI l2), (4, xI l4), (6, xI l6)]) dX12_walk_220 rfl (by decide) rfl rfl ?_
  refine J_aload_n 1 dX12_walk_221 rfl rfl ?_
  refine J_getRl (j := 50) xcf12 dX12_walk_222 kO81 (Or.inl xq1070) (by decide) (by decide) rf_81_50 ?_
  refine J_iload_n 3 dX12_walk_225 rfl rfl ?_
  refine J_iload 4 dX12_walk_226 rfl ?_
  obtain ⟨hg, hf⟩ := xgd_e hf
  obtain ⟨h3, eh3, hf⟩ := xlet_e hf
  refine J_iast dX12_walk_228 (xK_r1 kO118) kO118 hg nA118 eh3 ?_
  refine J_aload_n 1 dX12_walk_229 rfl rfl ?_
  refine J_getRl (j := 51) xcf12 dX12_walk_230 kO81 (Or.inl xq1071) (by decide) (by decide) rf_81_51 ?_
  refine J_iload_n 3 dX12_walk_233 rfl rfl ?_
  refine J_iload 5 dX12_walk_234 rfl ?_
  obtain ⟨hg, hf⟩ := xgd_e hf
  obtain ⟨h4, eh4, hf⟩ := xlet_e hf
  refine J_iast dX12_walk_236 (xK_r1 kO119) kO119 hg nA119 eh4 ?_
  refine J_aload_n 1 dX12_walk_237 rfl rfl ?_
  refine J_getRl (j := 52) xcf12 dX12_walk_238 kO81 (Or.inl xq1072) (by decide) (by decide) rf_81_52 ?_
  refine J_iload_n 3 dX12_walk_241 rfl rfl ?_
  refine J_iload_n 0 dX12_walk_242 rfl rfl ?_
  refine J_if_eq (tgt := 251) dX12_walk_243 (by decide) (fun hc => ?_) (fun hc => ?_)
  · have hf := xip hc hf
    refine J_iload 4 dX12_walk_251 rfl ?_
    refine J_sub [1, 2, 3] rfl ?_
    exact j_Md_walk_253  hf kb ke
  · have hf := xin' hc hf
    refine J_iload 5 dX12_walk_246 rfl ?_
    refine J_goto (tgt := 253) dX12_walk_248 (by decide) ?_
    refine J_sub [1, 2, 3] rfl ?_
    exact j_Md_walk_253  hf kb ke
theorem j_Md_walk_177 {l1 : Int} {l2 : Int} {l4 : Int} {l5 : Int} {l6 : Int} {h : xH} {x : ((Int × xH) ⊕ xH)} {Q : xQ}  (hf : f_Md_walk_177 l1 l2 l4 l5 l6 h = some x) (kb : ∀ (l2' : Int) (h' : xH), x = Sum.inl (l2', h') → J mX12_walk true 0 0 71 xKn [(0, xR 81), (1, xI l1), (2, xI l2')] [] h' Q) (ke : ∀  (h' : xH), x = (Sum.inr h') → J mX12_walk true 0 0 257 xKn [] [] h' Q) : J mX12_walk true 0 0 177 xKn [(0, xR 81), (1, xI l1), (2, xI l2), (4, xI l4), (5, xI l5), (6, xI l6)] [] h Q := by
  unfold f_Md_walk_177 at hf
  refine J_aload_n 0 dX12_walk_177 rfl rfl ?_
  refine J_getRl (j := 52) xcf12 dX12_walk_178 kO81 (Or.inl xq1072) (by decide) (by decide) rf_81_52 ?_
  refine J_iload_n 2 dX12_walk_181 rfl rfl ?_
  refine J_iload 5 dX12_walk_182 rfl ?_
  obtain ⟨hg, hf⟩ := xgd_e hf
  obtain ⟨h1, eh1, hf⟩ := xlet_e hf
  refine J_iast dX12_walk_184 (xK_r1 kO120) kO120 hg nA120 eh1 ?_
  obtain ⟨x2, ex2, hf⟩ := xlet_e hf
  refine J_iinc (ls' := [(2, xI x2), (0, xR 81), (1, xI l1), (4, xI l4), (5, xI l5), (6, xI l6)]) 2 dX12_walk_185 rfl (by decide) ex2 rfl ?_
  refine J_aload_n 1 dX12_walk_188 rfl rfl ?_
  refine J_getRl (j := 24) xcf12 dX12_walk_189 kO81 (Or.inl xq1044) (by decide) (by decide) rf_81_24 ?_
  refine J_iload_n 0 dX12_walk_192 rfl rfl ?_
  refine J_iconst dX12_walk_193 (by decide) ?_
  refine J_isub dX12_walk_194 ?_
  refine J_iload 4 dX12_walk_195 rfl ?_
  obtain ⟨hg, hf⟩ := xgd_e hf
  obtain ⟨h3, eh3, hf⟩ := xlet_e hf
  refine J_iast dX12_walk_197 (xK_r1 kO97) kO97 hg nA97 eh3 ?_
  refine J_aload_n 1 dX12_walk_198 rfl rfl ?_
  refine J_iload_n 0 dX12_walk_199 rfl rfl ?_
  refine J_iload_n 2 dX12_walk_200 rfl rfl ?_
  refine J_aload_n 1 dX12_walk_201 rfl rfl ?_
  refine J_getRl (j := 6) xcf12 dX12_walk_202 kO81 (Or.inl xq1026) (by decide) (by decide) rf_81_6 ?_
  refine J_iload 3 dX12_walk_205 rfl ?_
  obtain ⟨hg, hf⟩ := xgd_e hf
  refine J_iald dX12_walk_207 (xK_r1 kO85) kO85 hg nA85 ?_
  refine J_iload_n 0 dX12_walk_208 rfl rfl ?_
  refine J_ic_ne (tgt := 216) dX12_walk_209 (by decide) (fun hc => ?_) (fun hc => ?_)
  · have hf := xip hc hf
    refine J_iconst dX12_walk_212 (by decide) ?_
    refine J_goto (tgt := 217) dX12_walk_213 (by decide) ?_
    refine J_sub [1, 2, 0, 3, 5] rfl ?_
    exact j_Md_walk_217  hf kb ke
  · have hf := xin' hc hf
    refine J_iconst dX12_walk_216 (by decide) ?_
    refine J_sub [1, 2, 0, 3, 5] rfl ?_
    exact j_Md_walk_217  hf kb ke
theorem j_Md_walk_s143 {l1 : Int} {l2 : Int} {l4 : Int} {l5 : Int} {l6 : Int} {h : xH} {x : (Int ⊕ Int)} {Q : xQ}  (hf : f_Md_walk_s143 l1 l2 l4 l5 l6 h = some x) (kb : ∀ (l6' : Int), x = Sum.inl l6' → J mX12_walk true 0 0 143 xKn [(0, xR 81), (1, xI l1), (2, xI l2), (4, xI l4), (5, xI l5), (6, xI l6')] [] h Q) (ke : ∀ (l6' : Int), x = (Sum.inr l6') → J mX12_walk true 0 0 177 xKn [(0, xR 81), (1, xI l1), (2, xI l2), (4, xI l4), (5, xI l5), (6, xI l6')] [] h Q) : J mX12_walk true 0 0 143 xKn [(0, xR 81), (1, xI l1), (2, xI l2), (4, xI l4), (5, xI l5), (6, xI l6)] [] h Q := by
  unfold f_Md_walk_s143 at hf
  refine J_iload 5 dX12_walk_143 rfl ?_
  refine J_aload_n 0 dX12_walk_145 rfl rfl ?_
  refine J_getRl (j := 51) xcf12 dX12_walk_146 kO81 (Or.inl xq1071) (by decide) (by decide) rf_81_51 ?_
  refine J_iload_n 2 dX12_walk_149 rfl rfl ?_
  obtain ⟨hg, hf⟩ := xgd_e hf
  refine J_iald dX12_walk_150 (xK_r1 kO119) kO119 hg nA119 ?_
  refine J_ic_ge (tgt := 177) dX12_walk_151 (by decide) (fun hc => ?_) (fun hc => ?_)
  · have hf := xip hc hf
    refine J_aload_n 0 dX12_walk_154 rfl rfl ?_
    refine J_getRl (j := 7) xcf12 dX12_walk_155 kO81 (Or.inl xq1027) (by decide) (by decide) rf_81_7 ?_
    refine J_bip dX12_walk_158 (by decide) ?_
    refine J_iload 5 dX12_walk_160 rfl ?_
    refine J_imul dX12_walk_162 ?_
    refine J_iload_n 2 dX12_walk_163 rfl rfl ?_
    refine J_iadd dX12_walk_164 ?_
    obtain ⟨hg, hf⟩ := xgd_e hf
    refine J_iald dX12_walk_165 (xK_r1 kO86) kO86 hg nA86 ?_
    refine J_iload 4 dX12_walk_166 rfl ?_
    refine J_ic_ne (tgt := 177) dX12_walk_168 (by decide) (fun hc => ?_) (fun hc => ?_)
    · have hf := xip hc hf
      obtain ⟨x1, ex1, hf⟩ := xlet_e hf
      refine J_iinc (ls' := [(6, xI x1), (0, xR 81), (1, xI l1), (2, xI l2), (4, xI l4), (5, xI l5)]) 5 dX12_walk_171 rfl (by decide) ex1 rfl ?_
      refine J_goto (tgt := 143) dX12_walk_174 (by decide) ?_
      refine J_sub [1, 2, 3, 4, 5, 0] rfl ?_
      exact kb _ (xinl hf)
    · have hf := xin' hc hf
      exact ke _ (xinl hf)
  · have hf := xin' hc hf
    exact ke _ (xinl hf)
theorem j_Md_walk_143 {l1 : Int} {l2 : Int} {l4 : Int} {l5 : Int} {l6 : Int} {h : xH} {x : ((Int × xH) ⊕ xH)} {Q : xQ}  (hf : f_Md_walk_143 l1 l2 l4 l5 l6 h = some x) (kb : ∀ (l2' : Int) (h' : xH), x = Sum.inl (l2', h') → J mX12_walk true 0 0 71 xKn [(0, xR 81), (1, xI l1), (2, xI l2')] [] h' Q) (ke : ∀  (h' : xH), x = (Sum.inr h') → J mX12_walk true 0 0 257 xKn [] [] h' Q) : J mX12_walk true 0 0 143 xKn [(0, xR 81), (1, xI l1), (2, xI l2), (4, xI l4), (5, xI l5), (6, xI l6)] [] h Q := by
  unfold f_Md_walk_143 at hf
  obtain ⟨b0, hb0, hf⟩ := xc1_e hf
  refine xloop_ind (P := fun s : Int => J mX12_walk true 0 0 143 xKn [(0, xR 81), (1, xI l1), (2, xI l2), (4, xI l4), (5, xI l5), (6, xI s)] [] h Q) hb0 (fun s x1 hs ib ie => ?_)
  exact j_Md_walk_s143  hs (fun _ e => ib _ e) (fun _ e => by have := ie _ e; subst this; exact j_Md_walk_177  hf kb ke)
theorem j_Md_walk_108 {l1 : Int} {l2 : Int} {l4 : Int} {h : xH} {x : ((Int × xH) ⊕ xH)} {Q : xQ}  (hf : f_Md_walk_108 l1 l2 l4 h = some x) (kb : ∀ (l2' : Int) (h' : xH), x = Sum.inl (l2', h') → J mX12_walk true 0 0 71 xKn [(0, xR 81), (1, xI l1), (2, xI l2')] [] h' Q) (ke : ∀  (h' : xH), x = (Sum.inr h') → J mX12_walk true 0 0 257 xKn [] [] h' Q) : J mX12_walk true 0 0 108 xKn [(0, xR 81), (1, xI l1), (2, xI l2), (4, xI l4)] [] h Q := by
  unfold f_Md_walk_108 at hf
  refine J_iload 3 dX12_walk_108 rfl ?_
  refine J_aload_n 0 dX12_walk_110 rfl rfl ?_
  refine J_getRl (j := 51) xcf12 dX12_walk_111 kO81 (Or.inl xq1071) (by decide) (by decide) rf_81_51 ?_
  refine J_iload_n 2 dX12_walk_114 rfl rfl ?_
  obtain ⟨hg, hf⟩ := xgd_e hf
  refine J_iald dX12_walk_115 (xK_r1 kO119) kO119 hg nA119 ?_
  refine J_ic_lt (tgt := 125) dX12_walk_116 (by decide) (fun hc => ?_) (fun hc => ?_)
  · have hf := xip hc hf
    refine J_aload_n 0 dX12_walk_125 rfl rfl ?_
    refine J_getRl (j := 7) xcf12 dX12_walk_126 kO81 (Or.inl xq1027) (by decide) (by decide) rf_81_7 ?_
    refine J_bip dX12_walk_129 (by decide) ?_
    refine J_iload 3 dX12_walk_131 rfl ?_
    refine J_imul dX12_walk_133 ?_
    refine J_iload_n 2 dX12_walk_134 rfl rfl ?_
    refine J_iadd dX12_walk_135 ?_
    obtain ⟨hg, hf⟩ := xgd_e hf
    refine J_iald dX12_walk_136 (xK_r1 kO86) kO86 hg nA86 ?_
    obtain ⟨x1, ex1, hf⟩ := xlet_e hf
    refine J_istore (ls' := [(5, xI x1), (0, xR 81), (1, xI l1), (2, xI l2), (4, xI l4)]) dX12_walk_137 (by decide) ex1 rfl ?_
    refine J_iload 4 dX12_walk_139 rfl ?_
    refine J_istore (ls' := [(6, xI l4), (5, xI x1), (0, xR 81), (1, xI l1), (2, xI l2), (4, xI l4)]) dX12_walk_141 (by decide) rfl rfl ?_
    refine J_sub [2, 3, 4, 5, 1, 0] rfl ?_
    exact j_Md_walk_143  hf kb ke
  · have hf := xin' hc hf
    obtain ⟨x2, ex2, hf⟩ := xlet_e hf
    refine J_iinc (ls' := [(2, xI x2), (0, xR 81), (1, xI l1), (4, xI l4)]) 2 dX12_walk_119 rfl (by decide) ex2 rfl ?_
    refine J_goto (tgt := 71) dX12_walk_122 (by decide) ?_
    refine J_sub [1, 2, 0] rfl ?_
    exact kb _ _ (xinl hf)
theorem j_Md_walk_s71 {l1 : Int} {l2 : Int} {h : xH} {x : ((Int × xH) ⊕ xH)} {Q : xQ}  (hf : f_Md_walk_s71 l1 l2 h = some x) (kb : ∀ (l2' : Int) (h' : xH), x = Sum.inl (l2', h') → J mX12_walk true 0 0 71 xKn [(0, xR 81), (1, xI l1), (2, xI l2')] [] h' Q) (ke : ∀  (h' : xH), x = (Sum.inr h') → J mX12_walk true 0 0 257 xKn [] [] h' Q) : J mX12_walk true 0 0 71 xKn [(0, xR 81), (1, xI l1), (2, xI l2)] [] h Q := by
  unfold f_Md_walk_s71 at hf
  refine J_iload_n 2 dX12_walk_71 rfl rfl ?_
  refine J_if_lt (tgt := 257) dX12_walk_72 (by decide) (fun hc => ?_) (fun hc => ?_)
  · have hf := xip hc hf
    refine J_sub [] rfl ?_
    exact ke _ (xinl hf)
  · have hf := xin' hc hf
    refine J_aload_n 0 dX12_walk_75 rfl rfl ?_
    refine J_getRl (j := 52) xcf12 dX12_walk_76 kO81 (Or.inl xq1072) (by decide) (by decide) rf_81_52 ?_
    refine J_iload_n 2 dX12_walk_79 rfl rfl ?_
    obtain ⟨hg, hf⟩ := xgd_e hf
    refine J_iald dX12_walk_80 (xK_r1 kO120) kO120 hg nA120 ?_
    obtain ⟨x1, ex1, hf⟩ := xlet_e hf
    refine J_istore (ls' := [(4, xI x1), (0, xR 81), (1, xI l1), (2, xI l2)]) dX12_walk_81 (by decide) ex1 rfl ?_
    refine J_iload 0 dX12_walk_83 rfl ?_
    refine J_aload_n 1 dX12_walk_85 rfl rfl ?_
    refine J_getRl (j := 51) xcf12 dX12_walk_86 kO81 (Or.inl xq1071) (by decide) (by decide) rf_81_51 ?_
    refine J_iload_n 3 dX12_walk_89 rfl rfl ?_
    obtain ⟨hg, hf⟩ := xgd_e hf
    refine J_iald dX12_walk_90 (xK_r1 kO119) kO119 hg nA119 ?_
    refine J_ic_ge (tgt := 108) dX12_walk_91 (by decide) (fun hc => ?_) (fun hc => ?_)
    · have hf := xip hc hf
      refine J_aload_n 1 dX12_walk_94 rfl rfl ?_
      refine J_getRl (j := 6) xcf12 dX12_walk_95 kO81 (Or.inl xq1026) (by decide) (by decide) rf_81_6 ?_
      refine J_iload 0 dX12_walk_98 rfl ?_
      obtain ⟨hg, hf⟩ := xgd_e hf
      refine J_iald dX12_walk_100 (xK_r1 kO85) kO85 hg nA85 ?_
      refine J_iload_n 3 dX12_walk_101 rfl rfl ?_
      refine J_ic_ne (tgt := 108) dX12_walk_102 (by decide) (fun hc => ?_) (fun hc => ?_)
      · have hf := xip hc hf
        obtain ⟨x2, ex2, hf⟩ := xlet_e hf
        refine J_iinc (ls' := [(4, xI x2), (0, xR 81), (1, xI l1), (2, xI l2)]) 0 dX12_walk_105 rfl (by decide) ex2 rfl ?_
        refine J_sub [1, 2, 3, 0] rfl ?_
        exact j_Md_walk_108  hf kb ke
      · have hf := xin' hc hf
        refine J_sub [1, 2, 3, 0] rfl ?_
        exact j_Md_walk_108  hf kb ke
    · have hf := xin' hc hf
      refine J_sub [1, 2, 3, 0] rfl ?_
      exact j_Md_walk_108  hf kb ke
theorem j_Md_walk_71 {l1 : Int} {l2 : Int} {h : xH} {h0 : xH}  (hf : f_Md_walk_71 l1 l2 h = some h0)  : J mX12_walk true 0 0 71 xKn [(0, xR 81), (1, xI l1), (2, xI l2)] [] h (xEq none h0) := by
  unfold f_Md_walk_71 at hf
  obtain ⟨b0, hb0, hf⟩ := xc1_e hf
  refine xloop_ind (P := fun s : (Int × xH) => J mX12_walk true 0 0 71 xKn [(0, xR 81), (1, xI l1), (2, xI s.1)] [] s.2 (xEq none h0)) hb0 (fun s x1 hs ib ie => ?_)
  exact j_Md_walk_s71  hs (fun _ _ e => ib _ e) (fun _ e => by have := ie _ e; subst this; exact j_Md_walk_257  hf)
theorem j_Md_walk_70 {l1 : Int} {l2 : Int} {s1 : Int} {s2 : Int} {h : xH} {h0 : xH}  (hf : f_Md_walk_70 l1 l2 s1 s2 h = some h0)  : J mX12_walk true 0 0 70 xKn [(0, xR 81), (1, xI l1), (2, xI l2)] [xI s2, xI s1, xR 120] h (xEq none h0) := by
  unfold f_Md_walk_70 at hf
  obtain ⟨hg, hf⟩ := xgd_e hf
  obtain ⟨h1, eh1, hf⟩ := xlet_e hf
  refine J_iast dX12_walk_70 (xK_r1 kO120) kO120 hg nA120 eh1 ?_
  exact j_Md_walk_71  hf
theorem jm_Md_walk {l1 : Int} {h : xH} {h0 : xH}  (hf : f_Md_walk l1 h = some h0) : J mX12_walk true 0 0 0 xKn (xen 0 [xR 81, xI l1]) [] h (xEq none h0) := by
  unfold f_Md_walk at hf
  refine J_cong (ls2 := [(0, xR 81), (1, xI l1)]) (st2 := []) rfl rfl ?_
  refine J_aload_n 0 dX12_walk_0 rfl rfl ?_
  refine J_iconst dX12_walk_1 (by decide) ?_
  obtain ⟨h1, eh1, hf⟩ := xlet_e hf
  refine J_putI (j := 39) xcf12 dX12_walk_2 (xK_rg kO81) kO81 (Or.inl xq1059) (by decide) (by decide) eh1 ?_
  refine J_aload_n 0 dX12_walk_5 rfl rfl ?_
  refine J_iconst dX12_walk_6 (by decide) ?_
  obtain ⟨h2, eh2, hf⟩ := xlet_e hf
  refine J_putI (j := 40) xcf12 dX12_walk_7 (xK_rg kO81) kO81 (Or.inl xq1060) (by decide) (by decide) eh2 ?_
  refine J_aload_n 0 dX12_walk_10 rfl rfl ?_
  refine J_aload_n 0 dX12_walk_11 rfl rfl ?_
  refine J_getI (j := 23) xcf12 dX12_walk_12 (xK_rg kO81) kO81 (Or.inl xq1043) (by decide) (by decide) ?_
  obtain ⟨h3, eh3, hf⟩ := xlet_e hf
  refine J_putI (j := 47) xcf12 dX12_walk_15 (xK_rg kO81) kO81 (Or.inl xq1067) (by decide) (by decide) eh3 ?_
  refine J_aload_n 0 dX12_walk_18 rfl rfl ?_
  refine J_getI (j := 5) xcf12 dX12_walk_19 (xK_rg kO81) kO81 (Or.inl xq1025) (by decide) (by decide) ?_
  refine J_if_ne (tgt := 26) dX12_walk_22 (by decide) (fun hc => ?_) (fun hc => ?_)
  · have hf := xip hc hf
    exact J_rt dX12_walk_25 rfl (xq_v hf)
  · have hf := xin' hc hf
    refine J_iconst dX12_walk_26 (by decide) ?_
    refine J_istore_n (ls' := [(2, xI 0), (0, xR 81), (1, xI l1)]) dX12_walk_27 rfl (by decide) rfl rfl ?_
    refine J_aload_n 1 dX12_walk_28 rfl rfl ?_
    refine J_iconst dX12_walk_29 (by decide) ?_
    refine J_iload_n 2 dX12_walk_30 rfl rfl ?_
    refine J_iconst dX12_walk_31 (by decide) ?_
    obtain ⟨r4, h5, hq, hf⟩ := xc2_e hf
    refine J_cVi (Mc := mX12_meets) [xI 0, xI l1, xI 0] dX12_walk_32 (fc_Md_meets.fit ⟨xbl rfl, xbl rfl⟩) rfl ⟨Or.inl xq1408, xq1410, xq107⟩ kO81 (ci := 12) rfl rfl (xbl rfl) (xbl rfl) (jm_Md_meets  hq) ?_
    refine J_istore_n (ls' := [(3, xI r4), (2, xI 0), (0, xR 81), (1, xI l1)]) dX12_walk_35 rfl (by decide) rfl rfl ?_
    refine J_aload_n 2 dX12_walk_36 rfl rfl ?_
    refine J_getRl (j := 50) xcf12 dX12_walk_37 kO81 (Or.inl xq1070) (by decide) (by decide) rf_81_50 ?_
    refine J_iconst dX12_walk_40 (by decide) ?_
    refine J_iconst dX12_walk_41 (by decide) ?_
    obtain ⟨hg, hf⟩ := xgd_e hf
    obtain ⟨h6, eh6, hf⟩ := xlet_e hf
    refine J_iast dX12_walk_42 (xK_r1 kO118) kO118 hg nA118 eh6 ?_
    refine J_aload_n 2 dX12_walk_43 rfl rfl ?_
    refine J_getRl (j := 51) xcf12 dX12_walk_44 kO81 (Or.inl xq1071) (by decide) (by decide) rf_81_51 ?_
    refine J_iconst dX12_walk_47 (by decide) ?_
    refine J_aload_n 2 dX12_walk_48 rfl rfl ?_
    refine J_getI (j := 5) xcf12 dX12_walk_49 (xK_rg kO81) kO81 (Or.inl xq1025) (by decide) (by decide) ?_
    obtain ⟨hg, hf⟩ := xgd_e hf
    obtain ⟨h7, eh7, hf⟩ := xlet_e hf
    refine J_iast dX12_walk_52 (xK_r1 kO119) kO119 hg nA119 eh7 ?_
    refine J_aload_n 2 dX12_walk_53 rfl rfl ?_
    refine J_getRl (j := 52) xcf12 dX12_walk_54 kO81 (Or.inl xq1072) (by decide) (by decide) rf_81_52 ?_
    refine J_iconst dX12_walk_57 (by decide) ?_
    refine J_iload_n 0 dX12_walk_58 rfl rfl ?_
    refine J_if_eq (tgt := 69) dX12_walk_59 (by decide) (fun hc => ?_) (fun hc => ?_)
    · have hf := xip hc hf
      refine J_iconst dX12_walk_69 (by decide) ?_
      refine J_sub [2, 3, 1] rfl ?_
      exact j_Md_walk_70  hf
    · have hf := xin' hc hf
      refine J_aload_n 2 dX12_walk_62 rfl rfl ?_
      refine J_getI (j := 5) xcf12 dX12_walk_63 (xK_rg kO81) kO81 (Or.inl xq1025) (by decide) (by decide) ?_
      refine J_goto (tgt := 70) dX12_walk_66 (by decide) ?_
      refine J_sub [2, 3, 1] rfl ?_
      exact j_Md_walk_70  hf
theorem dX12_distanceTo_0 : decode cX12_distanceTo 0 = .ok (.aload_n 0, 1) := by decide +kernel
theorem dX12_distanceTo_1 : decode cX12_distanceTo 1 = .ok (.iload_n 1, 1) := by decide +kernel
theorem dX12_distanceTo_2 : decode cX12_distanceTo 2 = .ok (.invokevirtual 348, 3) := by decide +kernel
theorem dX12_distanceTo_5 : decode cX12_distanceTo 5 = .ok (.aload_n 0, 1) := by decide +kernel
theorem dX12_distanceTo_6 : decode cX12_distanceTo 6 = .ok (.invokevirtual 329, 3) := by decide +kernel
theorem dX12_distanceTo_9 : decode cX12_distanceTo 9 = .ok (.aload_n 0, 1) := by decide +kernel
theorem dX12_distanceTo_10 : decode cX12_distanceTo 10 = .ok (.getfield 68, 3) := by decide +kernel
theorem dX12_distanceTo_13 : decode cX12_distanceTo 13 = .ok (.iconst 0, 1) := by decide +kernel
theorem dX12_distanceTo_14 : decode cX12_distanceTo 14 = .ok (.iaload, 1) := by decide +kernel
theorem dX12_distanceTo_15 : decode cX12_distanceTo 15 = .ok (.ireturn, 1) := by decide +kernel
theorem jm_Md_distanceTo {l1 : Int} {h : xH} {r0 : Int} {h0 : xH}  (hf : f_Md_distanceTo l1 h = some (r0, h0)) : J mX12_distanceTo true 0 0 0 xKn (xen 0 [xR 81, xI l1]) [] h (xEq (some r0) h0) := by
  unfold f_Md_distanceTo at hf
  refine J_cong (ls2 := [(0, xR 81), (1, xI l1)]) (st2 := []) rfl rfl ?_
  refine J_aload_n 0 dX12_distanceTo_0 rfl rfl ?_
  refine J_iload_n 1 dX12_distanceTo_1 rfl rfl ?_
  obtain ⟨h1, hq, hf⟩ := xc1_e hf
  refine J_cVv (Mc := mX12_wordA) [xI l1] dX12_distanceTo_2 (fc_Md_wordA.fit ⟨xbl rfl, xbl rfl⟩) rfl ⟨Or.inl xq1428, xq1430, xq112⟩ kO81 (ci := 12) rfl rfl (xbl rfl) (xbl rfl) (jm_Md_wordA  hq) ?_
  refine J_aload_n 0 dX12_distanceTo_5 rfl rfl ?_
  obtain ⟨h2, hq, hf⟩ := xc1_e hf
  refine J_cVv (Mc := mX12_sums) [] dX12_distanceTo_6 (fc_Md_sums.fit ⟨xbl rfl, xbl rfl⟩) rfl ⟨Or.inl xq1366, xq1368, xq99⟩ kO81 (ci := 12) rfl rfl (xbl rfl) (xbl rfl) (jm_Md_sums  hq) ?_
  refine J_aload_n 0 dX12_distanceTo_9 rfl rfl ?_
  refine J_getRl (j := 26) xcf12 dX12_distanceTo_10 kO81 (Or.inl xq1046) (by decide) (by decide) rf_81_26 ?_
  refine J_iconst dX12_distanceTo_13 (by decide) ?_
  obtain ⟨hg, hf⟩ := xgd_e hf
  refine J_iald dX12_distanceTo_14 (xK_r1 kO99) kO99 hg nA99 ?_
  exact J_ireti dX12_distanceTo_15 rfl (xq_i hf)
theorem dX12_beginningTo_0 : decode cX12_beginningTo 0 = .ok (.aload_n 0, 1) := by decide +kernel
theorem dX12_beginningTo_1 : decode cX12_beginningTo 1 = .ok (.iload_n 1, 1) := by decide +kernel
theorem dX12_beginningTo_2 : decode cX12_beginningTo 2 = .ok (.invokevirtual 348, 3) := by decide +kernel
theorem dX12_beginningTo_5 : decode cX12_beginningTo 5 = .ok (.aload_n 0, 1) := by decide +kernel
theorem dX12_beginningTo_6 : decode cX12_beginningTo 6 = .ok (.getfield 228, 3) := by decide +kernel
theorem dX12_beginningTo_9 : decode cX12_beginningTo 9 = .ok (.istore_n 2, 1) := by decide +kernel
theorem dX12_beginningTo_10 : decode cX12_beginningTo 10 = .ok (.ldc_w 302, 3) := by decide +kernel
theorem dX12_beginningTo_13 : decode cX12_beginningTo 13 = .ok (.istore_n 3, 1) := by decide +kernel
theorem dX12_beginningTo_14 : decode cX12_beginningTo 14 = .ok (.iconst 0, 1) := by decide +kernel
theorem dX12_beginningTo_15 : decode cX12_beginningTo 15 = .ok (.istore 4, 2) := by decide +kernel
theorem dX12_beginningTo_17 : decode cX12_beginningTo 17 = .ok (.iload 4, 2) := by decide +kernel
theorem dX12_beginningTo_19 : decode cX12_beginningTo 19 = .ok (.iload_n 2, 1) := by decide +kernel
theorem dX12_beginningTo_20 : decode cX12_beginningTo 20 = .ok (.if_icmp .gt 40, 3) := by decide +kernel
theorem dX12_beginningTo_23 : decode cX12_beginningTo 23 = .ok (.aload_n 0, 1) := by decide +kernel
theorem dX12_beginningTo_24 : decode cX12_beginningTo 24 = .ok (.iload_n 2, 1) := by decide +kernel
theorem dX12_beginningTo_25 : decode cX12_beginningTo 25 = .ok (.putfield 228, 3) := by decide +kernel
theorem dX12_beginningTo_28 : decode cX12_beginningTo 28 = .ok (.aload_n 0, 1) := by decide +kernel
theorem dX12_beginningTo_29 : decode cX12_beginningTo 29 = .ok (.iload 4, 2) := by decide +kernel
theorem dX12_beginningTo_31 : decode cX12_beginningTo 31 = .ok (.invokevirtual 335, 3) := by decide +kernel
theorem dX12_beginningTo_34 : decode cX12_beginningTo 34 = .ok (.iload_n 3, 1) := by decide +kernel
theorem dX12_beginningTo_35 : decode cX12_beginningTo 35 = .ok (.aload_n 0, 1) := by decide +kernel
theorem dX12_beginningTo_36 : decode cX12_beginningTo 36 = .ok (.getfield 122, 3) := by decide +kernel
theorem dX12_beginningTo_39 : decode cX12_beginningTo 39 = .ok (.bipush 13, 2) := by decide +kernel
theorem dX12_beginningTo_41 : decode cX12_beginningTo 41 = .ok (.iload 4, 2) := by decide +kernel
theorem dX12_beginningTo_43 : decode cX12_beginningTo 43 = .ok (.imul, 1) := by decide +kernel
theorem dX12_beginningTo_44 : decode cX12_beginningTo 44 = .ok (.aload_n 0, 1) := by decide +kernel
theorem dX12_beginningTo_45 : decode cX12_beginningTo 45 = .ok (.getfield 231, 3) := by decide +kernel
theorem dX12_beginningTo_48 : decode cX12_beginningTo 48 = .ok (.iadd, 1) := by decide +kernel
theorem dX12_beginningTo_49 : decode cX12_beginningTo 49 = .ok (.iaload, 1) := by decide +kernel
theorem dX12_beginningTo_50 : decode cX12_beginningTo 50 = .ok (.invokestatic 250, 3) := by decide +kernel
theorem dX12_beginningTo_53 : decode cX12_beginningTo 53 = .ok (.istore_n 3, 1) := by decide +kernel
theorem dX12_beginningTo_54 : decode cX12_beginningTo 54 = .ok (.iinc 4 1, 3) := by decide +kernel
theorem dX12_beginningTo_57 : decode cX12_beginningTo 57 = .ok (.goto (-40), 3) := by decide +kernel
theorem dX12_beginningTo_60 : decode cX12_beginningTo 60 = .ok (.iload_n 3, 1) := by decide +kernel
theorem dX12_beginningTo_61 : decode cX12_beginningTo 61 = .ok (.ireturn, 1) := by decide +kernel
theorem j_Md_beginningTo_60 {l3 : Int} {h : xH} {r0 : Int} {h0 : xH}  (hf : f_Md_beginningTo_60 l3 h = some (r0, h0))  : J mX12_beginningTo true 0 0 60 xKn [(3, xI l3)] [] h (xEq (some r0) h0) := by
  unfold f_Md_beginningTo_60 at hf
  refine J_iload_n 0 dX12_beginningTo_60 rfl rfl ?_
  exact J_ireti dX12_beginningTo_61 rfl (xq_i hf)
theorem j_Md_beginningTo_s17 {l2 : Int} {l3 : Int} {l4 : Int} {h : xH} {x : ((Int × Int × xH) ⊕ (Int × xH))} {Q : xQ}  (hf : f_Md_beginningTo_s17 l2 l3 l4 h = some x) (kb : ∀ (l3' : Int) (l4' : Int) (h' : xH), x = Sum.inl (l3', l4', h') → J mX12_beginningTo true 0 0 17 xKn [(0, xR 81), (2, xI l2), (3, xI l3'), (4, xI l4')] [] h' Q) (ke : ∀ (l3' : Int) (h' : xH), x = (Sum.inr (l3', h')) → J mX12_beginningTo true 0 0 60 xKn [(3, xI l3')] [] h' Q) : J mX12_beginningTo true 0 0 17 xKn [(0, xR 81), (2, xI l2), (3, xI l3), (4, xI l4)] [] h Q := by
  unfold f_Md_beginningTo_s17 at hf
  refine J_iload 3 dX12_beginningTo_17 rfl ?_
  refine J_iload_n 1 dX12_beginningTo_19 rfl rfl ?_
  refine J_ic_gt (tgt := 60) dX12_beginningTo_20 (by decide) (fun hc => ?_) (fun hc => ?_)
  · have hf := xip hc hf
    refine J_sub [2] rfl ?_
    exact ke _ _ (xinl hf)
  · have hf := xin' hc hf
    refine J_aload_n 0 dX12_beginningTo_23 rfl rfl ?_
    refine J_iload_n 1 dX12_beginningTo_24 rfl rfl ?_
    obtain ⟨h1, eh1, hf⟩ := xlet_e hf
    refine J_putI (j := 22) xcf12 dX12_beginningTo_25 (xK_rg kO81) kO81 (Or.inl xq1042) (by decide) (by decide) eh1 ?_
    refine J_aload_n 0 dX12_beginningTo_28 rfl rfl ?_
    refine J_iload 3 dX12_beginningTo_29 rfl ?_
    obtain ⟨h2, hq, hf⟩ := xc1_e hf
    refine J_cVv (Mc := mX12_stateRow) [xI l4] dX12_beginningTo_31 (fc_Md_stateRow.fit ⟨xbl rfl, xbl rfl⟩) rfl ⟨Or.inl xq1412, xq1414, xq108⟩ kO81 (ci := 12) rfl rfl (xbl rfl) (xbl rfl) (jm_Md_stateRow  hq) ?_
    refine J_iload_n 2 dX12_beginningTo_34 rfl rfl ?_
    refine J_aload_n 0 dX12_beginningTo_35 rfl rfl ?_
    refine J_getRl (j := 48) xcf12 dX12_beginningTo_36 kO81 (Or.inl xq1068) (by decide) (by decide) rf_81_48 ?_
    refine J_bip dX12_beginningTo_39 (by decide) ?_
    refine J_iload 3 dX12_beginningTo_41 rfl ?_
    refine J_imul dX12_beginningTo_43 ?_
    refine J_aload_n 0 dX12_beginningTo_44 rfl rfl ?_
    refine J_getI (j := 23) xcf12 dX12_beginningTo_45 (xK_rg kO81) kO81 (Or.inl xq1043) (by decide) (by decide) ?_
    refine J_iadd dX12_beginningTo_48 ?_
    obtain ⟨hg, hf⟩ := xgd_e hf
    refine J_iald dX12_beginningTo_49 (xK_r1 kO116) kO116 hg nA116 ?_
    obtain ⟨r3, hq, hf⟩ := xc1_e hf
    refine J_cSi (Mc := mX12_min) [xI l3, xI (h2 116 (w32 ((w32 (13 * l4)) + (h2 81 23))))] dX12_beginningTo_50 (fc_Md_min.fit ⟨xbl rfl, xbl rfl⟩) rfl ⟨Or.inl xq1307, xq1308⟩ rfl (xbl rfl) (xbl rfl) (jm_Md_min  hq) ?_
    refine J_istore_n (ls' := [(3, xI r3), (0, xR 81), (2, xI l2), (4, xI l4)]) dX12_beginningTo_53 rfl (by decide) rfl rfl ?_
    obtain ⟨x4, ex4, hf⟩ := xlet_e hf
    refine J_iinc (ls' := [(4, xI x4), (3, xI r3), (0, xR 81), (2, xI l2)]) 3 dX12_beginningTo_54 rfl (by decide) ex4 rfl ?_
    refine J_goto (tgt := 17) dX12_beginningTo_57 (by decide) ?_
    refine J_sub [2, 3, 1, 0] rfl ?_
    exact kb _ _ _ (xinl hf)
theorem j_Md_beginningTo_17 {l2 : Int} {l3 : Int} {l4 : Int} {h : xH} {r0 : Int} {h0 : xH}  (hf : f_Md_beginningTo_17 l2 l3 l4 h = some (r0, h0))  : J mX12_beginningTo true 0 0 17 xKn [(0, xR 81), (2, xI l2), (3, xI l3), (4, xI l4)] [] h (xEq (some r0) h0) := by
  unfold f_Md_beginningTo_17 at hf
  obtain ⟨b0, hb0, hf⟩ := xc1_e hf
  refine xloop_ind (P := fun s : (Int × Int × xH) => J mX12_beginningTo true 0 0 17 xKn [(0, xR 81), (2, xI l2), (3, xI s.1), (4, xI s.2.1)] [] s.2.2 (xEq (some r0) h0)) hb0 (fun s x1 hs ib ie => ?_)
  exact j_Md_beginningTo_s17  hs (fun _ _ _ e => ib _ e) (fun _ _ e => by have := ie _ e; subst this; exact j_Md_beginningTo_60  hf)
theorem jm_Md_beginningTo {l1 : Int} {h : xH} {r0 : Int} {h0 : xH}  (hf : f_Md_beginningTo l1 h = some (r0, h0)) : J mX12_beginningTo true 0 0 0 xKn (xen 0 [xR 81, xI l1]) [] h (xEq (some r0) h0) := by
  unfold f_Md_beginningTo at hf
  refine J_cong (ls2 := [(0, xR 81), (1, xI l1)]) (st2 := []) rfl rfl ?_
  refine J_aload_n 0 dX12_beginningTo_0 rfl rfl ?_
  refine J_iload_n 1 dX12_beginningTo_1 rfl rfl ?_
  obtain ⟨h1, hq, hf⟩ := xc1_e hf
  refine J_cVv (Mc := mX12_wordA) [xI l1] dX12_beginningTo_2 (fc_Md_wordA.fit ⟨xbl rfl, xbl rfl⟩) rfl ⟨Or.inl xq1428, xq1430, xq112⟩ kO81 (ci := 12) rfl rfl (xbl rfl) (xbl rfl) (jm_Md_wordA  hq) ?_
  refine J_aload_n 0 dX12_beginningTo_5 rfl rfl ?_
  refine J_getI (j := 22) xcf12 dX12_beginningTo_6 (xK_rg kO81) kO81 (Or.inl xq1042) (by decide) (by decide) ?_
  obtain ⟨x2, ex2, hf⟩ := xlet_e hf
  refine J_istore_n (ls' := [(2, xI x2), (0, xR 81), (1, xI l1)]) dX12_beginningTo_9 rfl (by decide) ex2 rfl ?_
  refine J_ldcw (v := 1000000) dX12_beginningTo_10 xq1370 (by decide) ?_
  refine J_istore_n (ls' := [(3, xI 1000000), (2, xI x2), (0, xR 81), (1, xI l1)]) dX12_beginningTo_13 rfl (by decide) rfl rfl ?_
  refine J_iconst dX12_beginningTo_14 (by decide) ?_
  refine J_istore (ls' := [(4, xI 0), (3, xI 1000000), (2, xI x2), (0, xR 81), (1, xI l1)]) dX12_beginningTo_15 (by decide) rfl rfl ?_
  refine J_sub [3, 2, 1, 0] rfl ?_
  exact j_Md_beginningTo_17  hf
theorem dX12_isAhead_0 : decode cX12_isAhead 0 = .ok (.iload_n 2, 1) := by decide +kernel
theorem dX12_isAhead_1 : decode cX12_isAhead 1 = .ok (.iload_n 3, 1) := by decide +kernel
theorem dX12_isAhead_2 : decode cX12_isAhead 2 = .ok (.isub, 1) := by decide +kernel
theorem dX12_isAhead_3 : decode cX12_isAhead 3 = .ok (.istore 5, 2) := by decide +kernel
theorem dX12_isAhead_5 : decode cX12_isAhead 5 = .ok (.aload_n 0, 1) := by decide +kernel
theorem dX12_isAhead_6 : decode cX12_isAhead 6 = .ok (.getfield 149, 3) := by decide +kernel
theorem dX12_isAhead_9 : decode cX12_isAhead 9 = .ok (.iload 4, 2) := by decide +kernel
theorem dX12_isAhead_11 : decode cX12_isAhead 11 = .ok (.iaload, 1) := by decide +kernel
theorem dX12_isAhead_12 : decode cX12_isAhead 12 = .ok (.aload_n 0, 1) := by decide +kernel
theorem dX12_isAhead_13 : decode cX12_isAhead 13 = .ok (.getfield 152, 3) := by decide +kernel
theorem dX12_isAhead_16 : decode cX12_isAhead 16 = .ok (.iload 4, 2) := by decide +kernel
theorem dX12_isAhead_18 : decode cX12_isAhead 18 = .ok (.iaload, 1) := by decide +kernel
theorem dX12_isAhead_19 : decode cX12_isAhead 19 = .ok (.isub, 1) := by decide +kernel
theorem dX12_isAhead_20 : decode cX12_isAhead 20 = .ok (.istore 6, 2) := by decide +kernel
theorem dX12_isAhead_22 : decode cX12_isAhead 22 = .ok (.iload 5, 2) := by decide +kernel
theorem dX12_isAhead_24 : decode cX12_isAhead 24 = .ok (.iload 6, 2) := by decide +kernel
theorem dX12_isAhead_26 : decode cX12_isAhead 26 = .ok (.if_icmp .eq 16, 3) := by decide +kernel
theorem dX12_isAhead_29 : decode cX12_isAhead 29 = .ok (.iload 5, 2) := by decide +kernel
theorem dX12_isAhead_31 : decode cX12_isAhead 31 = .ok (.iload 6, 2) := by decide +kernel
theorem dX12_isAhead_33 : decode cX12_isAhead 33 = .ok (.if_icmp .ge 7, 3) := by decide +kernel
theorem dX12_isAhead_36 : decode cX12_isAhead 36 = .ok (.iconst 1, 1) := by decide +kernel
theorem dX12_isAhead_37 : decode cX12_isAhead 37 = .ok (.goto 4, 3) := by decide +kernel
theorem dX12_isAhead_40 : decode cX12_isAhead 40 = .ok (.iconst 0, 1) := by decide +kernel
theorem dX12_isAhead_41 : decode cX12_isAhead 41 = .ok (.ireturn, 1) := by decide +kernel
theorem dX12_isAhead_42 : decode cX12_isAhead 42 = .ok (.aload_n 0, 1) := by decide +kernel
theorem dX12_isAhead_43 : decode cX12_isAhead 43 = .ok (.getfield 25, 3) := by decide +kernel
theorem dX12_isAhead_46 : decode cX12_isAhead 46 = .ok (.iload_n 1, 1) := by decide +kernel
theorem dX12_isAhead_47 : decode cX12_isAhead 47 = .ok (.iaload, 1) := by decide +kernel
theorem dX12_isAhead_48 : decode cX12_isAhead 48 = .ok (.aload_n 0, 1) := by decide +kernel
theorem dX12_isAhead_49 : decode cX12_isAhead 49 = .ok (.getfield 25, 3) := by decide +kernel
theorem dX12_isAhead_52 : decode cX12_isAhead 52 = .ok (.aload_n 0, 1) := by decide +kernel
theorem dX12_isAhead_53 : decode cX12_isAhead 53 = .ok (.getfield 146, 3) := by decide +kernel
theorem dX12_isAhead_56 : decode cX12_isAhead 56 = .ok (.iload 4, 2) := by decide +kernel
theorem dX12_isAhead_58 : decode cX12_isAhead 58 = .ok (.iaload, 1) := by decide +kernel
theorem dX12_isAhead_59 : decode cX12_isAhead 59 = .ok (.iaload, 1) := by decide +kernel
theorem dX12_isAhead_60 : decode cX12_isAhead 60 = .ok (.if_icmp .eq 30, 3) := by decide +kernel
theorem dX12_isAhead_63 : decode cX12_isAhead 63 = .ok (.aload_n 0, 1) := by decide +kernel
theorem dX12_isAhead_64 : decode cX12_isAhead 64 = .ok (.getfield 25, 3) := by decide +kernel
theorem dX12_isAhead_67 : decode cX12_isAhead 67 = .ok (.iload_n 1, 1) := by decide +kernel
theorem dX12_isAhead_68 : decode cX12_isAhead 68 = .ok (.iaload, 1) := by decide +kernel
theorem dX12_isAhead_69 : decode cX12_isAhead 69 = .ok (.aload_n 0, 1) := by decide +kernel
theorem dX12_isAhead_70 : decode cX12_isAhead 70 = .ok (.getfield 25, 3) := by decide +kernel
theorem dX12_isAhead_73 : decode cX12_isAhead 73 = .ok (.aload_n 0, 1) := by decide +kernel
theorem dX12_isAhead_74 : decode cX12_isAhead 74 = .ok (.getfield 146, 3) := by decide +kernel
theorem dX12_isAhead_77 : decode cX12_isAhead 77 = .ok (.iload 4, 2) := by decide +kernel
theorem dX12_isAhead_79 : decode cX12_isAhead 79 = .ok (.iaload, 1) := by decide +kernel
theorem dX12_isAhead_80 : decode cX12_isAhead 80 = .ok (.iaload, 1) := by decide +kernel
theorem dX12_isAhead_81 : decode cX12_isAhead 81 = .ok (.if_icmp .le 7, 3) := by decide +kernel
theorem dX12_isAhead_84 : decode cX12_isAhead 84 = .ok (.iconst 1, 1) := by decide +kernel
theorem dX12_isAhead_85 : decode cX12_isAhead 85 = .ok (.goto 4, 3) := by decide +kernel
theorem dX12_isAhead_88 : decode cX12_isAhead 88 = .ok (.iconst 0, 1) := by decide +kernel
theorem dX12_isAhead_89 : decode cX12_isAhead 89 = .ok (.ireturn, 1) := by decide +kernel
theorem dX12_isAhead_90 : decode cX12_isAhead 90 = .ok (.iload_n 1, 1) := by decide +kernel
theorem dX12_isAhead_91 : decode cX12_isAhead 91 = .ok (.aload_n 0, 1) := by decide +kernel
theorem dX12_isAhead_92 : decode cX12_isAhead 92 = .ok (.getfield 146, 3) := by decide +kernel
theorem dX12_isAhead_95 : decode cX12_isAhead 95 = .ok (.iload 4, 2) := by decide +kernel
theorem dX12_isAhead_97 : decode cX12_isAhead 97 = .ok (.iaload, 1) := by decide +kernel
theorem dX12_isAhead_98 : decode cX12_isAhead 98 = .ok (.if_icmp .ge 7, 3) := by decide +kernel
theorem dX12_isAhead_101 : decode cX12_isAhead 101 = .ok (.iconst 1, 1) := by decide +kernel
theorem dX12_isAhead_102 : decode cX12_isAhead 102 = .ok (.goto 4, 3) := by decide +kernel
theorem dX12_isAhead_105 : decode cX12_isAhead 105 = .ok (.iconst 0, 1) := by decide +kernel
theorem dX12_isAhead_106 : decode cX12_isAhead 106 = .ok (.ireturn, 1) := by decide +kernel
theorem jm_Md_isAhead {l1 : Int} {l2 : Int} {l3 : Int} {l4 : Int} {h : xH} {r0 : Int}  (hf : f_Md_isAhead l1 l2 l3 l4 h = some r0) : J mX12_isAhead true 0 0 0 xKn (xen 0 [xR 81, xI l1, xI l2, xI l3, xI l4]) [] h (xEq (some r0) h) := by
  unfold f_Md_isAhead at hf
  refine J_cong (ls2 := [(0, xR 81), (1, xI l1), (2, xI l2), (3, xI l3), (4, xI l4)]) (st2 := []) rfl rfl ?_
  refine J_iload_n 2 dX12_isAhead_0 rfl rfl ?_
  refine J_iload_n 3 dX12_isAhead_1 rfl rfl ?_
  refine J_isub dX12_isAhead_2 ?_
  obtain ⟨x1, ex1, hf⟩ := xlet_e hf
  refine J_istore (ls' := [(5, xI x1), (0, xR 81), (1, xI l1), (2, xI l2), (3, xI l3), (4, xI l4)]) dX12_isAhead_3 (by decide) ex1 rfl ?_
  refine J_aload_n 1 dX12_isAhead_5 rfl rfl ?_
  refine J_getRl (j := 59) xcf12 dX12_isAhead_6 kO81 (Or.inl xq1079) (by decide) (by decide) rf_81_59 ?_
  refine J_iload 5 dX12_isAhead_9 rfl ?_
  obtain ⟨hg, hf⟩ := xgd_e hf
  refine J_iald dX12_isAhead_11 (xK_r1 kO125) kO125 hg nA125 ?_
  refine J_aload_n 1 dX12_isAhead_12 rfl rfl ?_
  refine J_getRl (j := 60) xcf12 dX12_isAhead_13 kO81 (Or.inl xq1080) (by decide) (by decide) rf_81_60 ?_
  refine J_iload 5 dX12_isAhead_16 rfl ?_
  obtain ⟨hg, hf⟩ := xgd_e hf
  refine J_iald dX12_isAhead_18 (xK_r1 kO126) kO126 hg nA126 ?_
  refine J_isub dX12_isAhead_19 ?_
  obtain ⟨x2, ex2, hf⟩ := xlet_e hf
  refine J_istore (ls' := [(6, xI x2), (5, xI x1), (0, xR 81), (1, xI l1), (2, xI l2), (3, xI l3), (4, xI l4)]) dX12_isAhead_20 (by decide) ex2 rfl ?_
  refine J_iload 1 dX12_isAhead_22 rfl ?_
  refine J_iload 0 dX12_isAhead_24 rfl ?_
  refine J_ic_eq (tgt := 42) dX12_isAhead_26 (by decide) (fun hc => ?_) (fun hc => ?_)
  · have hf := xip hc hf
    refine J_aload_n 2 dX12_isAhead_42 rfl rfl ?_
    refine J_getRl (j := 8) xcf12 dX12_isAhead_43 kO81 (Or.inl xq1028) (by decide) (by decide) rf_81_8 ?_
    refine J_iload_n 3 dX12_isAhead_46 rfl rfl ?_
    obtain ⟨hg, hf⟩ := xgd_e hf
    refine J_iald dX12_isAhead_47 (xK_r1 kO87) kO87 hg nA87 ?_
    refine J_aload_n 2 dX12_isAhead_48 rfl rfl ?_
    refine J_getRl (j := 8) xcf12 dX12_isAhead_49 kO81 (Or.inl xq1028) (by decide) (by decide) rf_81_8 ?_
    refine J_aload_n 2 dX12_isAhead_52 rfl rfl ?_
    refine J_getRl (j := 58) xcf12 dX12_isAhead_53 kO81 (Or.inl xq1078) (by decide) (by decide) rf_81_58 ?_
    refine J_iload 6 dX12_isAhead_56 rfl ?_
    obtain ⟨hg, hf⟩ := xgd_e hf
    refine J_iald dX12_isAhead_58 (xK_r1 kO124) kO124 hg nA124 ?_
    obtain ⟨hg, hf⟩ := xgd_e hf
    refine J_iald dX12_isAhead_59 (xK_r1 kO87) kO87 hg nA87 ?_
    refine J_ic_eq (tgt := 90) dX12_isAhead_60 (by decide) (fun hc => ?_) (fun hc => ?_)
    · have hf := xip hc hf
      refine J_iload_n 3 dX12_isAhead_90 rfl rfl ?_
      refine J_aload_n 2 dX12_isAhead_91 rfl rfl ?_
      refine J_getRl (j := 58) xcf12 dX12_isAhead_92 kO81 (Or.inl xq1078) (by decide) (by decide) rf_81_58 ?_
      refine J_iload 6 dX12_isAhead_95 rfl ?_
      obtain ⟨hg, hf⟩ := xgd_e hf
      refine J_iald dX12_isAhead_97 (xK_r1 kO124) kO124 hg nA124 ?_
      refine J_ic_ge (tgt := 105) dX12_isAhead_98 (by decide) (fun hc => ?_) (fun hc => ?_)
      · have hf := xip hc hf
        refine J_iconst dX12_isAhead_101 (by decide) ?_
        refine J_goto (tgt := 106) dX12_isAhead_102 (by decide) ?_
        exact J_iretz dX12_isAhead_106 rfl (by decide) (xq_p hf)
      · have hf := xin' hc hf
        refine J_iconst dX12_isAhead_105 (by decide) ?_
        exact J_iretz dX12_isAhead_106 rfl (by decide) (xq_p hf)
    · have hf := xin' hc hf
      refine J_aload_n 2 dX12_isAhead_63 rfl rfl ?_
      refine J_getRl (j := 8) xcf12 dX12_isAhead_64 kO81 (Or.inl xq1028) (by decide) (by decide) rf_81_8 ?_
      refine J_iload_n 3 dX12_isAhead_67 rfl rfl ?_
      obtain ⟨hg, hf⟩ := xgd_e hf
      refine J_iald dX12_isAhead_68 (xK_r1 kO87) kO87 hg nA87 ?_
      refine J_aload_n 2 dX12_isAhead_69 rfl rfl ?_
      refine J_getRl (j := 8) xcf12 dX12_isAhead_70 kO81 (Or.inl xq1028) (by decide) (by decide) rf_81_8 ?_
      refine J_aload_n 2 dX12_isAhead_73 rfl rfl ?_
      refine J_getRl (j := 58) xcf12 dX12_isAhead_74 kO81 (Or.inl xq1078) (by decide) (by decide) rf_81_58 ?_
      refine J_iload 6 dX12_isAhead_77 rfl ?_
      obtain ⟨hg, hf⟩ := xgd_e hf
      refine J_iald dX12_isAhead_79 (xK_r1 kO124) kO124 hg nA124 ?_
      obtain ⟨hg, hf⟩ := xgd_e hf
      refine J_iald dX12_isAhead_80 (xK_r1 kO87) kO87 hg nA87 ?_
      refine J_ic_le (tgt := 88) dX12_isAhead_81 (by decide) (fun hc => ?_) (fun hc => ?_)
      · have hf := xip hc hf
        refine J_iconst dX12_isAhead_84 (by decide) ?_
        refine J_goto (tgt := 89) dX12_isAhead_85 (by decide) ?_
        exact J_iretz dX12_isAhead_89 rfl (by decide) (xq_p hf)
      · have hf := xin' hc hf
        refine J_iconst dX12_isAhead_88 (by decide) ?_
        exact J_iretz dX12_isAhead_89 rfl (by decide) (xq_p hf)
  · have hf := xin' hc hf
    refine J_iload 1 dX12_isAhead_29 rfl ?_
    refine J_iload 0 dX12_isAhead_31 rfl ?_
    refine J_ic_ge (tgt := 40) dX12_isAhead_33 (by decide) (fun hc => ?_) (fun hc => ?_)
    · have hf := xip hc hf
      refine J_iconst dX12_isAhead_36 (by decide) ?_
      refine J_goto (tgt := 41) dX12_isAhead_37 (by decide) ?_
      exact J_iretz dX12_isAhead_41 rfl (by decide) (xq_p hf)
    · have hf := xin' hc hf
      refine J_iconst dX12_isAhead_40 (by decide) ?_
      exact J_iretz dX12_isAhead_41 rfl (by decide) (xq_p hf)
theorem dX12_tries_0 : decode cX12_tries 0 = .ok (.aload_n 0, 1) := by decide +kernel
theorem dX12_tries_1 : decode cX12_tries 1 = .ok (.iconst 0, 1) := by decide +kernel
theorem dX12_tries_2 : decode cX12_tries 2 = .ok (.putfield 351, 3) := by decide +kernel
theorem dX12_tries_5 : decode cX12_tries 5 = .ok (.iconst 0, 1) := by decide +kernel
theorem dX12_tries_6 : decode cX12_tries 6 = .ok (.istore_n 3, 1) := by decide +kernel
theorem dX12_tries_7 : decode cX12_tries 7 = .ok (.iload_n 3, 1) := by decide +kernel
theorem dX12_tries_8 : decode cX12_tries 8 = .ok (.aload_n 0, 1) := by decide +kernel
theorem dX12_tries_9 : decode cX12_tries 9 = .ok (.getfield 234, 3) := by decide +kernel
theorem dX12_tries_12 : decode cX12_tries 12 = .ok (.if_icmp .ge 163, 3) := by decide +kernel
theorem dX12_tries_15 : decode cX12_tries 15 = .ok (.iload_n 2, 1) := by decide +kernel
theorem dX12_tries_16 : decode cX12_tries 16 = .ok (.ifCond .eq 11, 3) := by decide +kernel
theorem dX12_tries_19 : decode cX12_tries 19 = .ok (.aload_n 0, 1) := by decide +kernel
theorem dX12_tries_20 : decode cX12_tries 20 = .ok (.iload_n 3, 1) := by decide +kernel
theorem dX12_tries_21 : decode cX12_tries 21 = .ok (.invokevirtual 354, 3) := by decide +kernel
theorem dX12_tries_24 : decode cX12_tries 24 = .ok (.goto 8, 3) := by decide +kernel
theorem dX12_tries_27 : decode cX12_tries 27 = .ok (.aload_n 0, 1) := by decide +kernel
theorem dX12_tries_28 : decode cX12_tries 28 = .ok (.iload_n 3, 1) := by decide +kernel
theorem dX12_tries_29 : decode cX12_tries 29 = .ok (.invokevirtual 357, 3) := by decide +kernel
theorem dX12_tries_32 : decode cX12_tries 32 = .ok (.istore 4, 2) := by decide +kernel
theorem dX12_tries_34 : decode cX12_tries 34 = .ok (.iload 4, 2) := by decide +kernel
theorem dX12_tries_36 : decode cX12_tries 36 = .ok (.iload_n 1, 1) := by decide +kernel
theorem dX12_tries_37 : decode cX12_tries 37 = .ok (.if_icmp .le 6, 3) := by decide +kernel
theorem dX12_tries_40 : decode cX12_tries 40 = .ok (.goto 129, 3) := by decide +kernel
theorem dX12_tries_43 : decode cX12_tries 43 = .ok (.aload_n 0, 1) := by decide +kernel
theorem dX12_tries_44 : decode cX12_tries 44 = .ok (.aload_n 0, 1) := by decide +kernel
theorem dX12_tries_45 : decode cX12_tries 45 = .ok (.getfield 25, 3) := by decide +kernel
theorem dX12_tries_48 : decode cX12_tries 48 = .ok (.iload_n 3, 1) := by decide +kernel
theorem dX12_tries_49 : decode cX12_tries 49 = .ok (.iaload, 1) := by decide +kernel
theorem dX12_tries_50 : decode cX12_tries 50 = .ok (.invokevirtual 360, 3) := by decide +kernel
theorem dX12_tries_53 : decode cX12_tries 53 = .ok (.istore 5, 2) := by decide +kernel
theorem dX12_tries_55 : decode cX12_tries 55 = .ok (.aload_n 0, 1) := by decide +kernel
theorem dX12_tries_56 : decode cX12_tries 56 = .ok (.dup, 1) := by decide +kernel
theorem dX12_tries_57 : decode cX12_tries 57 = .ok (.getfield 351, 3) := by decide +kernel
theorem dX12_tries_60 : decode cX12_tries 60 = .ok (.dup_x1, 1) := by decide +kernel
theorem dX12_tries_61 : decode cX12_tries 61 = .ok (.iconst 1, 1) := by decide +kernel
theorem dX12_tries_62 : decode cX12_tries 62 = .ok (.iadd, 1) := by decide +kernel
theorem dX12_tries_63 : decode cX12_tries 63 = .ok (.putfield 351, 3) := by decide +kernel
theorem dX12_tries_66 : decode cX12_tries 66 = .ok (.istore 6, 2) := by decide +kernel
theorem dX12_tries_68 : decode cX12_tries 68 = .ok (.iload 6, 2) := by decide +kernel
theorem dX12_tries_70 : decode cX12_tries 70 = .ok (.ifCond .le 73, 3) := by decide +kernel
theorem dX12_tries_73 : decode cX12_tries 73 = .ok (.aload_n 0, 1) := by decide +kernel
theorem dX12_tries_74 : decode cX12_tries 74 = .ok (.iload_n 3, 1) := by decide +kernel
theorem dX12_tries_75 : decode cX12_tries 75 = .ok (.iload 4, 2) := by decide +kernel
theorem dX12_tries_77 : decode cX12_tries 77 = .ok (.iload 5, 2) := by decide +kernel
theorem dX12_tries_79 : decode cX12_tries 79 = .ok (.iload 6, 2) := by decide +kernel
theorem dX12_tries_81 : decode cX12_tries 81 = .ok (.iconst 1, 1) := by decide +kernel
theorem dX12_tries_82 : decode cX12_tries 82 = .ok (.isub, 1) := by decide +kernel
theorem dX12_tries_83 : decode cX12_tries 83 = .ok (.invokevirtual 363, 3) := by decide +kernel
theorem dX12_tries_86 : decode cX12_tries 86 = .ok (.ifCond .eq 57, 3) := by decide +kernel
theorem dX12_tries_89 : decode cX12_tries 89 = .ok (.aload_n 0, 1) := by decide +kernel
theorem dX12_tries_90 : decode cX12_tries 90 = .ok (.getfield 146, 3) := by decide +kernel
theorem dX12_tries_93 : decode cX12_tries 93 = .ok (.iload 6, 2) := by decide +kernel
theorem dX12_tries_95 : decode cX12_tries 95 = .ok (.aload_n 0, 1) := by decide +kernel
theorem dX12_tries_96 : decode cX12_tries 96 = .ok (.getfield 146, 3) := by decide +kernel
theorem dX12_tries_99 : decode cX12_tries 99 = .ok (.iload 6, 2) := by decide +kernel
theorem dX12_tries_101 : decode cX12_tries 101 = .ok (.iconst 1, 1) := by decide +kernel
theorem dX12_tries_102 : decode cX12_tries 102 = .ok (.isub, 1) := by decide +kernel
theorem dX12_tries_103 : decode cX12_tries 103 = .ok (.iaload, 1) := by decide +kernel
theorem dX12_tries_104 : decode cX12_tries 104 = .ok (.iastore, 1) := by decide +kernel
theorem dX12_tries_105 : decode cX12_tries 105 = .ok (.aload_n 0, 1) := by decide +kernel
theorem dX12_tries_106 : decode cX12_tries 106 = .ok (.getfield 149, 3) := by decide +kernel
theorem dX12_tries_109 : decode cX12_tries 109 = .ok (.iload 6, 2) := by decide +kernel
theorem dX12_tries_111 : decode cX12_tries 111 = .ok (.aload_n 0, 1) := by decide +kernel
theorem dX12_tries_112 : decode cX12_tries 112 = .ok (.getfield 149, 3) := by decide +kernel
theorem dX12_tries_115 : decode cX12_tries 115 = .ok (.iload 6, 2) := by decide +kernel
theorem dX12_tries_117 : decode cX12_tries 117 = .ok (.iconst 1, 1) := by decide +kernel
theorem dX12_tries_118 : decode cX12_tries 118 = .ok (.isub, 1) := by decide +kernel
theorem dX12_tries_119 : decode cX12_tries 119 = .ok (.iaload, 1) := by decide +kernel
theorem dX12_tries_120 : decode cX12_tries 120 = .ok (.iastore, 1) := by decide +kernel
theorem dX12_tries_121 : decode cX12_tries 121 = .ok (.aload_n 0, 1) := by decide +kernel
theorem dX12_tries_122 : decode cX12_tries 122 = .ok (.getfield 152, 3) := by decide +kernel
theorem dX12_tries_125 : decode cX12_tries 125 = .ok (.iload 6, 2) := by decide +kernel
theorem dX12_tries_127 : decode cX12_tries 127 = .ok (.aload_n 0, 1) := by decide +kernel
theorem dX12_tries_128 : decode cX12_tries 128 = .ok (.getfield 152, 3) := by decide +kernel
theorem dX12_tries_131 : decode cX12_tries 131 = .ok (.iload 6, 2) := by decide +kernel
theorem dX12_tries_133 : decode cX12_tries 133 = .ok (.iconst 1, 1) := by decide +kernel
theorem dX12_tries_134 : decode cX12_tries 134 = .ok (.isub, 1) := by decide +kernel
theorem dX12_tries_135 : decode cX12_tries 135 = .ok (.iaload, 1) := by decide +kernel
theorem dX12_tries_136 : decode cX12_tries 136 = .ok (.iastore, 1) := by decide +kernel
theorem dX12_tries_137 : decode cX12_tries 137 = .ok (.iinc 6 (-1), 3) := by decide +kernel
theorem dX12_tries_140 : decode cX12_tries 140 = .ok (.goto (-72), 3) := by decide +kernel
theorem dX12_tries_143 : decode cX12_tries 143 = .ok (.aload_n 0, 1) := by decide +kernel
theorem dX12_tries_144 : decode cX12_tries 144 = .ok (.getfield 146, 3) := by decide +kernel
theorem dX12_tries_147 : decode cX12_tries 147 = .ok (.iload 6, 2) := by decide +kernel
theorem dX12_tries_149 : decode cX12_tries 149 = .ok (.iload_n 3, 1) := by decide +kernel
theorem dX12_tries_150 : decode cX12_tries 150 = .ok (.iastore, 1) := by decide +kernel
theorem dX12_tries_151 : decode cX12_tries 151 = .ok (.aload_n 0, 1) := by decide +kernel
theorem dX12_tries_152 : decode cX12_tries 152 = .ok (.getfield 149, 3) := by decide +kernel
theorem dX12_tries_155 : decode cX12_tries 155 = .ok (.iload 6, 2) := by decide +kernel
theorem dX12_tries_157 : decode cX12_tries 157 = .ok (.iload 4, 2) := by decide +kernel
theorem dX12_tries_159 : decode cX12_tries 159 = .ok (.iastore, 1) := by decide +kernel
theorem dX12_tries_160 : decode cX12_tries 160 = .ok (.aload_n 0, 1) := by decide +kernel
theorem dX12_tries_161 : decode cX12_tries 161 = .ok (.getfield 152, 3) := by decide +kernel
theorem dX12_tries_164 : decode cX12_tries 164 = .ok (.iload 6, 2) := by decide +kernel
theorem dX12_tries_166 : decode cX12_tries 166 = .ok (.iload 5, 2) := by decide +kernel
theorem dX12_tries_168 : decode cX12_tries 168 = .ok (.iastore, 1) := by decide +kernel
theorem dX12_tries_169 : decode cX12_tries 169 = .ok (.iinc 3 1, 3) := by decide +kernel
theorem dX12_tries_172 : decode cX12_tries 172 = .ok (.goto (-165), 3) := by decide +kernel
theorem dX12_tries_175 : decode cX12_tries 175 = .ok (.return_, 1) := by decide +kernel
theorem j_Md_tries_175  {h : xH} {h0 : xH}  (hf : f_Md_tries_175 h = some h0)  : J mX12_tries true 0 0 175 xKn [] [] h (xEq none h0) := by
  unfold f_Md_tries_175 at hf
  exact J_rt dX12_tries_175 rfl (xq_v hf)
theorem j_Md_tries_169 {l1 : Int} {l2 : Int} {l3 : Int} {h : xH} {x : ((Int × xH) ⊕ xH)} {Q : xQ}  (hf : f_Md_tries_169 l1 l2 l3 h = some x) (kb : ∀ (l3' : Int) (h' : xH), x = Sum.inl (l3', h') → J mX12_tries true 0 0 7 xKn [(0, xR 81), (1, xI l1), (2, xI l2), (3, xI l3')] [] h' Q) (ke : ∀  (h' : xH), x = (Sum.inr h') → J mX12_tries true 0 0 175 xKn [] [] h' Q) : J mX12_tries true 0 0 169 xKn [(0, xR 81), (1, xI l1), (2, xI l2), (3, xI l3)] [] h Q := by
  unfold f_Md_tries_169 at hf
  obtain ⟨x1, ex1, hf⟩ := xlet_e hf
  refine J_iinc (ls' := [(3, xI x1), (0, xR 81), (1, xI l1), (2, xI l2)]) 3 dX12_tries_169 rfl (by decide) ex1 rfl ?_
  refine J_goto (tgt := 7) dX12_tries_172 (by decide) ?_
  refine J_sub [1, 2, 3, 0] rfl ?_
  exact kb _ _ (xinl hf)
theorem j_Md_tries_143 {l1 : Int} {l2 : Int} {l3 : Int} {l4 : Int} {l5 : Int} {l6 : Int} {h : xH} {x : ((Int × xH) ⊕ xH)} {Q : xQ}  (hf : f_Md_tries_143 l1 l2 l3 l4 l5 l6 h = some x) (kb : ∀ (l3' : Int) (h' : xH), x = Sum.inl (l3', h') → J mX12_tries true 0 0 7 xKn [(0, xR 81), (1, xI l1), (2, xI l2), (3, xI l3')] [] h' Q) (ke : ∀  (h' : xH), x = (Sum.inr h') → J mX12_tries true 0 0 175 xKn [] [] h' Q) : J mX12_tries true 0 0 143 xKn [(0, xR 81), (1, xI l1), (2, xI l2), (3, xI l3), (4, xI l4), (5, xI l5), (6, xI l6)] [] h Q := by
  unfold f_Md_tries_143 at hf
  refine J_aload_n 0 dX12_tries_143 rfl rfl ?_
  refine J_getRl (j := 58) xcf12 dX12_tries_144 kO81 (Or.inl xq1078) (by decide) (by decide) rf_81_58 ?_
  refine J_iload 6 dX12_tries_147 rfl ?_
  refine J_iload_n 3 dX12_tries_149 rfl rfl ?_
  obtain ⟨hg, hf⟩ := xgd_e hf
  obtain ⟨h1, eh1, hf⟩ := xlet_e hf
  refine J_iast dX12_tries_150 (xK_r1 kO124) kO124 hg nA124 eh1 ?_
  refine J_aload_n 0 dX12_tries_151 rfl rfl ?_
  refine J_getRl (j := 59) xcf12 dX12_tries_152 kO81 (Or.inl xq1079) (by decide) (by decide) rf_81_59 ?_
  refine J_iload 6 dX12_tries_155 rfl ?_
  refine J_iload 4 dX12_tries_157 rfl ?_
  obtain ⟨hg, hf⟩ := xgd_e hf
  obtain ⟨h2, eh2, hf⟩ := xlet_e hf
  refine J_iast dX12_tries_159 (xK_r1 kO125) kO125 hg nA125 eh2 ?_
  refine J_aload_n 0 dX12_tries_160 rfl rfl ?_
  refine J_getRl (j := 60) xcf12 dX12_tries_161 kO81 (Or.inl xq1080) (by decide) (by decide) rf_81_60 ?_
  refine J_iload 6 dX12_tries_164 rfl ?_
  refine J_iload 5 dX12_tries_166 rfl ?_
  obtain ⟨hg, hf⟩ := xgd_e hf
  obtain ⟨h3, eh3, hf⟩ := xlet_e hf
  refine J_iast dX12_tries_168 (xK_r1 kO126) kO126 hg nA126 eh3 ?_
  refine J_sub [0, 1, 2, 3] rfl ?_
  exact j_Md_tries_169  hf kb ke
theorem j_Md_tries_s68 {l1 : Int} {l2 : Int} {l3 : Int} {l4 : Int} {l5 : Int} {l6 : Int} {h : xH} {x : ((Int × xH) ⊕ (Int × xH))} {Q : xQ}  (hf : f_Md_tries_s68 l1 l2 l3 l4 l5 l6 h = some x) (kb : ∀ (l6' : Int) (h' : xH), x = Sum.inl (l6', h') → J mX12_tries true 0 0 68 xKn [(0, xR 81), (1, xI l1), (2, xI l2), (3, xI l3), (4, xI l4), (5, xI l5), (6, xI l6')] [] h' Q) (ke : ∀ (l6' : Int) (h' : xH), x = (Sum.inr (l6', h')) → J mX12_tries true 0 0 143 xKn [(0, xR 81), (1, xI l1), (2, xI l2), (3, xI l3), (4, xI l4), (5, xI l5), (6, xI l6')] [] h' Q) : J mX12_tries true 0 0 68 xKn [(0, xR 81), (1, xI l1), (2, xI l2), (3, xI l3), (4, xI l4), (5, xI l5), (6, xI l6)] [] h Q := by
  unfold f_Md_tries_s68 at hf
  refine J_iload 6 dX12_tries_68 rfl ?_
  refine J_if_le (tgt := 143) dX12_tries_70 (by decide) (fun hc => ?_) (fun hc => ?_)
  · have hf := xip hc hf
    refine J_aload_n 0 dX12_tries_73 rfl rfl ?_
    refine J_iload_n 3 dX12_tries_74 rfl rfl ?_
    refine J_iload 4 dX12_tries_75 rfl ?_
    refine J_iload 5 dX12_tries_77 rfl ?_
    refine J_iload 6 dX12_tries_79 rfl ?_
    refine J_iconst dX12_tries_81 (by decide) ?_
    refine J_isub dX12_tries_82 ?_
    obtain ⟨r1, hq, hf⟩ := xc1_e hf
    refine J_cVi (Mc := mX12_isAhead) [xI l3, xI l4, xI l5, xI (w32 (l6 - 1))] dX12_tries_83 (fc_Md_isAhead.fit ⟨xbl rfl, xbl rfl⟩) rfl ⟨Or.inl xq1444, xq1446, xq115⟩ kO81 (ci := 12) rfl rfl (xbl rfl) (xbl rfl) (jm_Md_isAhead  hq) ?_
    refine J_if_eq (tgt := 143) dX12_tries_86 (by decide) (fun hc => ?_) (fun hc => ?_)
    · have hf := xip hc hf
      exact ke _ _ (xinl hf)
    · have hf := xin' hc hf
      refine J_aload_n 0 dX12_tries_89 rfl rfl ?_
      refine J_getRl (j := 58) xcf12 dX12_tries_90 kO81 (Or.inl xq1078) (by decide) (by decide) rf_81_58 ?_
      refine J_iload 6 dX12_tries_93 rfl ?_
      refine J_aload_n 0 dX12_tries_95 rfl rfl ?_
      refine J_getRl (j := 58) xcf12 dX12_tries_96 kO81 (Or.inl xq1078) (by decide) (by decide) rf_81_58 ?_
      refine J_iload 6 dX12_tries_99 rfl ?_
      refine J_iconst dX12_tries_101 (by decide) ?_
      refine J_isub dX12_tries_102 ?_
      obtain ⟨hg, hf⟩ := xgd_e hf
      refine J_iald dX12_tries_103 (xK_r1 kO124) kO124 hg nA124 ?_
      obtain ⟨hg, hf⟩ := xgd_e hf
      obtain ⟨h2, eh2, hf⟩ := xlet_e hf
      refine J_iast dX12_tries_104 (xK_r1 kO124) kO124 hg nA124 eh2 ?_
      refine J_aload_n 0 dX12_tries_105 rfl rfl ?_
      refine J_getRl (j := 59) xcf12 dX12_tries_106 kO81 (Or.inl xq1079) (by decide) (by decide) rf_81_59 ?_
      refine J_iload 6 dX12_tries_109 rfl ?_
      refine J_aload_n 0 dX12_tries_111 rfl rfl ?_
      refine J_getRl (j := 59) xcf12 dX12_tries_112 kO81 (Or.inl xq1079) (by decide) (by decide) rf_81_59 ?_
      refine J_iload 6 dX12_tries_115 rfl ?_
      refine J_iconst dX12_tries_117 (by decide) ?_
      refine J_isub dX12_tries_118 ?_
      obtain ⟨hg, hf⟩ := xgd_e hf
      refine J_iald dX12_tries_119 (xK_r1 kO125) kO125 hg nA125 ?_
      obtain ⟨hg, hf⟩ := xgd_e hf
      obtain ⟨h3, eh3, hf⟩ := xlet_e hf
      refine J_iast dX12_tries_120 (xK_r1 kO125) kO125 hg nA125 eh3 ?_
      refine J_aload_n 0 dX12_tries_121 rfl rfl ?_
      refine J_getRl (j := 60) xcf12 dX12_tries_122 kO81 (Or.inl xq1080) (by decide) (by decide) rf_81_60 ?_
      refine J_iload 6 dX12_tries_125 rfl ?_
      refine J_aload_n 0 dX12_tries_127 rfl rfl ?_
      refine J_getRl (j := 60) xcf12 dX12_tries_128 kO81 (Or.inl xq1080) (by decide) (by decide) rf_81_60 ?_
      refine J_iload 6 dX12_tries_131 rfl ?_
      refine J_iconst dX12_tries_133 (by decide) ?_
      refine J_isub dX12_tries_134 ?_
      obtain ⟨hg, hf⟩ := xgd_e hf
      refine J_iald dX12_tries_135 (xK_r1 kO126) kO126 hg nA126 ?_
      obtain ⟨hg, hf⟩ := xgd_e hf
      obtain ⟨h4, eh4, hf⟩ := xlet_e hf
      refine J_iast dX12_tries_136 (xK_r1 kO126) kO126 hg nA126 eh4 ?_
      obtain ⟨x5, ex5, hf⟩ := xlet_e hf
      refine J_iinc (ls' := [(6, xI x5), (0, xR 81), (1, xI l1), (2, xI l2), (3, xI l3), (4, xI l4), (5, xI l5)]) 6 dX12_tries_137 rfl (by decide) ex5 rfl ?_
      refine J_goto (tgt := 68) dX12_tries_140 (by decide) ?_
      refine J_sub [1, 2, 3, 4, 5, 6, 0] rfl ?_
      exact kb _ _ (xinl hf)
  · have hf := xin' hc hf
    exact ke _ _ (xinl hf)
theorem j_Md_tries_68 {l1 : Int} {l2 : Int} {l3 : Int} {l4 : Int} {l5 : Int} {l6 : Int} {h : xH} {x : ((Int × xH) ⊕ xH)} {Q : xQ}  (hf : f_Md_tries_68 l1 l2 l3 l4 l5 l6 h = some x) (kb : ∀ (l3' : Int) (h' : xH), x = Sum.inl (l3', h') → J mX12_tries true 0 0 7 xKn [(0, xR 81), (1, xI l1), (2, xI l2), (3, xI l3')] [] h' Q) (ke : ∀  (h' : xH), x = (Sum.inr h') → J mX12_tries true 0 0 175 xKn [] [] h' Q) : J mX12_tries true 0 0 68 xKn [(0, xR 81), (1, xI l1), (2, xI l2), (3, xI l3), (4, xI l4), (5, xI l5), (6, xI l6)] [] h Q := by
  unfold f_Md_tries_68 at hf
  obtain ⟨b0, hb0, hf⟩ := xc1_e hf
  refine xloop_ind (P := fun s : (Int × xH) => J mX12_tries true 0 0 68 xKn [(0, xR 81), (1, xI l1), (2, xI l2), (3, xI l3), (4, xI l4), (5, xI l5), (6, xI s.1)] [] s.2 Q) hb0 (fun s x1 hs ib ie => ?_)
  exact j_Md_tries_s68  hs (fun _ _ e => ib _ e) (fun _ _ e => by have := ie _ e; subst this; exact j_Md_tries_143  hf kb ke)
theorem j_Md_tries_32 {l1 : Int} {l2 : Int} {l3 : Int} {s0 : Int} {h : xH} {x : ((Int × xH) ⊕ xH)} {Q : xQ}  (hf : f_Md_tries_32 l1 l2 l3 s0 h = some x) (kb : ∀ (l3' : Int) (h' : xH), x = Sum.inl (l3', h') → J mX12_tries true 0 0 7 xKn [(0, xR 81), (1, xI l1), (2, xI l2), (3, xI l3')] [] h' Q) (ke : ∀  (h' : xH), x = (Sum.inr h') → J mX12_tries true 0 0 175 xKn [] [] h' Q) : J mX12_tries true 0 0 32 xKn [(0, xR 81), (1, xI l1), (2, xI l2), (3, xI l3)] [xI s0] h Q := by
  unfold f_Md_tries_32 at hf
  refine J_istore (ls' := [(4, xI s0), (0, xR 81), (1, xI l1), (2, xI l2), (3, xI l3)]) dX12_tries_32 (by decide) rfl rfl ?_
  refine J_iload 0 dX12_tries_34 rfl ?_
  refine J_iload_n 2 dX12_tries_36 rfl rfl ?_
  refine J_ic_le (tgt := 43) dX12_tries_37 (by decide) (fun hc => ?_) (fun hc => ?_)
  · have hf := xip hc hf
    refine J_goto (tgt := 169) dX12_tries_40 (by decide) ?_
    refine J_sub [1, 2, 3, 4] rfl ?_
    exact j_Md_tries_169  hf kb ke
  · have hf := xin' hc hf
    refine J_aload_n 1 dX12_tries_43 rfl rfl ?_
    refine J_aload_n 1 dX12_tries_44 rfl rfl ?_
    refine J_getRl (j := 8) xcf12 dX12_tries_45 kO81 (Or.inl xq1028) (by decide) (by decide) rf_81_8 ?_
    refine J_iload_n 4 dX12_tries_48 rfl rfl ?_
    obtain ⟨hg, hf⟩ := xgd_e hf
    refine J_iald dX12_tries_49 (xK_r1 kO87) kO87 hg nA87 ?_
    obtain ⟨r1, hq, hf⟩ := xc1_e hf
    refine J_cVi (Mc := mX12_share) [xI (h 87 l3)] dX12_tries_50 (fc_Md_share.fit ⟨xbl rfl, xbl rfl⟩) rfl ⟨Or.inl xq1436, xq1438, xq114⟩ kO81 (ci := 12) rfl rfl (xbl rfl) (xbl rfl) (jm_Md_share  hq) ?_
    refine J_istore (ls' := [(5, xI r1), (4, xI s0), (0, xR 81), (1, xI l1), (2, xI l2), (3, xI l3)]) dX12_tries_53 (by decide) rfl rfl ?_
    refine J_aload_n 2 dX12_tries_55 rfl rfl ?_
    refine J_dup dX12_tries_56 rfl ?_
    refine J_getI (j := 57) xcf12 dX12_tries_57 (xK_rg kO81) kO81 (Or.inl xq1077) (by decide) (by decide) ?_
    refine J_dupx1 dX12_tries_60 rfl rfl ?_
    refine J_iconst dX12_tries_61 (by decide) ?_
    refine J_iadd dX12_tries_62 ?_
    obtain ⟨h2, eh2, hf⟩ := xlet_e hf
    refine J_putI (j := 57) xcf12 dX12_tries_63 (xK_rg kO81) kO81 (Or.inl xq1077) (by decide) (by decide) eh2 ?_
    obtain ⟨x3, ex3, hf⟩ := xlet_e hf
    refine J_istore (ls' := [(6, xI x3), (5, xI r1), (4, xI s0), (0, xR 81), (1, xI l1), (2, xI l2), (3, xI l3)]) dX12_tries_66 (by decide) ex3 rfl ?_
    refine J_sub [3, 4, 5, 6, 2, 1, 0] rfl ?_
    exact j_Md_tries_68  hf kb ke
theorem j_Md_tries_s7 {l1 : Int} {l2 : Int} {l3 : Int} {h : xH} {x : ((Int × xH) ⊕ xH)} {Q : xQ}  (hf : f_Md_tries_s7 l1 l2 l3 h = some x) (kb : ∀ (l3' : Int) (h' : xH), x = Sum.inl (l3', h') → J mX12_tries true 0 0 7 xKn [(0, xR 81), (1, xI l1), (2, xI l2), (3, xI l3')] [] h' Q) (ke : ∀  (h' : xH), x = (Sum.inr h') → J mX12_tries true 0 0 175 xKn [] [] h' Q) : J mX12_tries true 0 0 7 xKn [(0, xR 81), (1, xI l1), (2, xI l2), (3, xI l3)] [] h Q := by
  unfold f_Md_tries_s7 at hf
  refine J_iload_n 3 dX12_tries_7 rfl rfl ?_
  refine J_aload_n 0 dX12_tries_8 rfl rfl ?_
  refine J_getI (j := 5) xcf12 dX12_tries_9 (xK_rg kO81) kO81 (Or.inl xq1025) (by decide) (by decide) ?_
  refine J_ic_ge (tgt := 175) dX12_tries_12 (by decide) (fun hc => ?_) (fun hc => ?_)
  · have hf := xip hc hf
    refine J_iload_n 2 dX12_tries_15 rfl rfl ?_
    refine J_if_eq (tgt := 27) dX12_tries_16 (by decide) (fun hc => ?_) (fun hc => ?_)
    · have hf := xip hc hf
      refine J_aload_n 0 dX12_tries_27 rfl rfl ?_
      refine J_iload_n 3 dX12_tries_28 rfl rfl ?_
      obtain ⟨r1, h2, hq, hf⟩ := xc2_e hf
      refine J_cVi (Mc := mX12_distanceTo) [xI l3] dX12_tries_29 (fc_Md_distanceTo.fit ⟨xbl rfl, xbl rfl⟩) rfl ⟨Or.inl xq1432, xq1434, xq113⟩ kO81 (ci := 12) rfl rfl (xbl rfl) (xbl rfl) (jm_Md_distanceTo  hq) ?_
      exact j_Md_tries_32  hf kb ke
    · have hf := xin' hc hf
      refine J_aload_n 0 dX12_tries_19 rfl rfl ?_
      refine J_iload_n 3 dX12_tries_20 rfl rfl ?_
      obtain ⟨r3, h4, hq, hf⟩ := xc2_e hf
      refine J_cVi (Mc := mX12_beginningTo) [xI l3] dX12_tries_21 (fc_Md_beginningTo.fit ⟨xbl rfl, xbl rfl⟩) rfl ⟨Or.inl xq1424, xq1426, xq111⟩ kO81 (ci := 12) rfl rfl (xbl rfl) (xbl rfl) (jm_Md_beginningTo  hq) ?_
      refine J_goto (tgt := 32) dX12_tries_24 (by decide) ?_
      exact j_Md_tries_32  hf kb ke
  · have hf := xin' hc hf
    refine J_sub [] rfl ?_
    exact ke _ (xinl hf)
theorem j_Md_tries_7 {l1 : Int} {l2 : Int} {l3 : Int} {h : xH} {h0 : xH}  (hf : f_Md_tries_7 l1 l2 l3 h = some h0)  : J mX12_tries true 0 0 7 xKn [(0, xR 81), (1, xI l1), (2, xI l2), (3, xI l3)] [] h (xEq none h0) := by
  unfold f_Md_tries_7 at hf
  obtain ⟨b0, hb0, hf⟩ := xc1_e hf
  refine xloop_ind (P := fun s : (Int × xH) => J mX12_tries true 0 0 7 xKn [(0, xR 81), (1, xI l1), (2, xI l2), (3, xI s.1)] [] s.2 (xEq none h0)) hb0 (fun s x1 hs ib ie => ?_)
  exact j_Md_tries_s7  hs (fun _ _ e => ib _ e) (fun _ e => by have := ie _ e; subst this; exact j_Md_tries_175  hf)
theorem jm_Md_tries {l1 : Int} {l2 : Int} {h : xH} {h0 : xH}  (hf : f_Md_tries l1 l2 h = some h0) : J mX12_tries true 0 0 0 xKn (xen 0 [xR 81, xI l1, xI l2]) [] h (xEq none h0) := by
  unfold f_Md_tries at hf
  refine J_cong (ls2 := [(0, xR 81), (1, xI l1), (2, xI l2)]) (st2 := []) rfl rfl ?_
  refine J_aload_n 0 dX12_tries_0 rfl rfl ?_
  refine J_iconst dX12_tries_1 (by decide) ?_
  obtain ⟨h1, eh1, hf⟩ := xlet_e hf
  refine J_putI (j := 57) xcf12 dX12_tries_2 (xK_rg kO81) kO81 (Or.inl xq1077) (by decide) (by decide) eh1 ?_
  refine J_iconst dX12_tries_5 (by decide) ?_
  refine J_istore_n (ls' := [(3, xI 0), (0, xR 81), (1, xI l1), (2, xI l2)]) dX12_tries_6 rfl (by decide) rfl rfl ?_
  refine J_sub [1, 2, 3, 0] rfl ?_
  exact j_Md_tries_7  hf
theorem dX12_keeps_0 : decode cX12_keeps 0 = .ok (.aload_n 0, 1) := by decide +kernel
theorem dX12_keeps_1 : decode cX12_keeps 1 = .ok (.iload_n 1, 1) := by decide +kernel
theorem dX12_keeps_2 : decode cX12_keeps 2 = .ok (.aload_n 0, 1) := by decide +kernel
theorem dX12_keeps_3 : decode cX12_keeps 3 = .ok (.getfield 351, 3) := by decide +kernel
theorem dX12_keeps_6 : decode cX12_keeps 6 = .ok (.invokestatic 250, 3) := by decide +kernel
theorem dX12_keeps_9 : decode cX12_keeps 9 = .ok (.putfield 278, 3) := by decide +kernel
theorem dX12_keeps_12 : decode cX12_keeps 12 = .ok (.iconst 0, 1) := by decide +kernel
theorem dX12_keeps_13 : decode cX12_keeps 13 = .ok (.istore_n 2, 1) := by decide +kernel
theorem dX12_keeps_14 : decode cX12_keeps 14 = .ok (.iload_n 2, 1) := by decide +kernel
theorem dX12_keeps_15 : decode cX12_keeps 15 = .ok (.aload_n 0, 1) := by decide +kernel
theorem dX12_keeps_16 : decode cX12_keeps 16 = .ok (.getfield 278, 3) := by decide +kernel
theorem dX12_keeps_19 : decode cX12_keeps 19 = .ok (.if_icmp .ge 45, 3) := by decide +kernel
theorem dX12_keeps_22 : decode cX12_keeps 22 = .ok (.aload_n 0, 1) := by decide +kernel
theorem dX12_keeps_23 : decode cX12_keeps 23 = .ok (.getfield 137, 3) := by decide +kernel
theorem dX12_keeps_26 : decode cX12_keeps 26 = .ok (.iload_n 2, 1) := by decide +kernel
theorem dX12_keeps_27 : decode cX12_keeps 27 = .ok (.aload_n 0, 1) := by decide +kernel
theorem dX12_keeps_28 : decode cX12_keeps 28 = .ok (.getfield 146, 3) := by decide +kernel
theorem dX12_keeps_31 : decode cX12_keeps 31 = .ok (.iload_n 2, 1) := by decide +kernel
theorem dX12_keeps_32 : decode cX12_keeps 32 = .ok (.iaload, 1) := by decide +kernel
theorem dX12_keeps_33 : decode cX12_keeps 33 = .ok (.iastore, 1) := by decide +kernel
theorem dX12_keeps_34 : decode cX12_keeps 34 = .ok (.aload_n 0, 1) := by decide +kernel
theorem dX12_keeps_35 : decode cX12_keeps 35 = .ok (.getfield 140, 3) := by decide +kernel
theorem dX12_keeps_38 : decode cX12_keeps 38 = .ok (.iload_n 2, 1) := by decide +kernel
theorem dX12_keeps_39 : decode cX12_keeps 39 = .ok (.aload_n 0, 1) := by decide +kernel
theorem dX12_keeps_40 : decode cX12_keeps 40 = .ok (.getfield 149, 3) := by decide +kernel
theorem dX12_keeps_43 : decode cX12_keeps 43 = .ok (.iload_n 2, 1) := by decide +kernel
theorem dX12_keeps_44 : decode cX12_keeps 44 = .ok (.iaload, 1) := by decide +kernel
theorem dX12_keeps_45 : decode cX12_keeps 45 = .ok (.iastore, 1) := by decide +kernel
theorem dX12_keeps_46 : decode cX12_keeps 46 = .ok (.aload_n 0, 1) := by decide +kernel
theorem dX12_keeps_47 : decode cX12_keeps 47 = .ok (.getfield 143, 3) := by decide +kernel
theorem dX12_keeps_50 : decode cX12_keeps 50 = .ok (.iload_n 2, 1) := by decide +kernel
theorem dX12_keeps_51 : decode cX12_keeps 51 = .ok (.aload_n 0, 1) := by decide +kernel
theorem dX12_keeps_52 : decode cX12_keeps 52 = .ok (.getfield 152, 3) := by decide +kernel
theorem dX12_keeps_55 : decode cX12_keeps 55 = .ok (.iload_n 2, 1) := by decide +kernel
theorem dX12_keeps_56 : decode cX12_keeps 56 = .ok (.iaload, 1) := by decide +kernel
theorem dX12_keeps_57 : decode cX12_keeps 57 = .ok (.iastore, 1) := by decide +kernel
theorem dX12_keeps_58 : decode cX12_keeps 58 = .ok (.iinc 2 1, 3) := by decide +kernel
theorem dX12_keeps_61 : decode cX12_keeps 61 = .ok (.goto (-47), 3) := by decide +kernel
theorem dX12_keeps_64 : decode cX12_keeps 64 = .ok (.aload_n 0, 1) := by decide +kernel
theorem dX12_keeps_65 : decode cX12_keeps 65 = .ok (.getfield 278, 3) := by decide +kernel
theorem dX12_keeps_68 : decode cX12_keeps 68 = .ok (.ireturn, 1) := by decide +kernel
theorem j_Md_keeps_64  {h : xH} {r0 : Int} {h0 : xH}  (hf : f_Md_keeps_64 h = some (r0, h0))  : J mX12_keeps true 0 0 64 xKn [(0, xR 81)] [] h (xEq (some r0) h0) := by
  unfold f_Md_keeps_64 at hf
  refine J_aload_n 0 dX12_keeps_64 rfl rfl ?_
  refine J_getI (j := 53) xcf12 dX12_keeps_65 (xK_rg kO81) kO81 (Or.inl xq1073) (by decide) (by decide) ?_
  exact J_ireti dX12_keeps_68 rfl (xq_i hf)
theorem j_Md_keeps_s14 {l2 : Int} {h : xH} {x : ((Int × xH) ⊕ xH)} {Q : xQ}  (hf : f_Md_keeps_s14 l2 h = some x) (kb : ∀ (l2' : Int) (h' : xH), x = Sum.inl (l2', h') → J mX12_keeps true 0 0 14 xKn [(0, xR 81), (2, xI l2')] [] h' Q) (ke : ∀  (h' : xH), x = (Sum.inr h') → J mX12_keeps true 0 0 64 xKn [(0, xR 81)] [] h' Q) : J mX12_keeps true 0 0 14 xKn [(0, xR 81), (2, xI l2)] [] h Q := by
  unfold f_Md_keeps_s14 at hf
  refine J_iload_n 1 dX12_keeps_14 rfl rfl ?_
  refine J_aload_n 0 dX12_keeps_15 rfl rfl ?_
  refine J_getI (j := 53) xcf12 dX12_keeps_16 (xK_rg kO81) kO81 (Or.inl xq1073) (by decide) (by decide) ?_
  refine J_ic_ge (tgt := 64) dX12_keeps_19 (by decide) (fun hc => ?_) (fun hc => ?_)
  · have hf := xip hc hf
    refine J_aload_n 0 dX12_keeps_22 rfl rfl ?_
    refine J_getRl (j := 54) xcf12 dX12_keeps_23 kO81 (Or.inl xq1074) (by decide) (by decide) rf_81_54 ?_
    refine J_iload_n 1 dX12_keeps_26 rfl rfl ?_
    refine J_aload_n 0 dX12_keeps_27 rfl rfl ?_
    refine J_getRl (j := 58) xcf12 dX12_keeps_28 kO81 (Or.inl xq1078) (by decide) (by decide) rf_81_58 ?_
    refine J_iload_n 1 dX12_keeps_31 rfl rfl ?_
    obtain ⟨hg, hf⟩ := xgd_e hf
    refine J_iald dX12_keeps_32 (xK_r1 kO124) kO124 hg nA124 ?_
    obtain ⟨hg, hf⟩ := xgd_e hf
    obtain ⟨h1, eh1, hf⟩ := xlet_e hf
    refine J_iast dX12_keeps_33 (xK_r1 kO121) kO121 hg nA121 eh1 ?_
    refine J_aload_n 0 dX12_keeps_34 rfl rfl ?_
    refine J_getRl (j := 55) xcf12 dX12_keeps_35 kO81 (Or.inl xq1075) (by decide) (by decide) rf_81_55 ?_
    refine J_iload_n 1 dX12_keeps_38 rfl rfl ?_
    refine J_aload_n 0 dX12_keeps_39 rfl rfl ?_
    refine J_getRl (j := 59) xcf12 dX12_keeps_40 kO81 (Or.inl xq1079) (by decide) (by decide) rf_81_59 ?_
    refine J_iload_n 1 dX12_keeps_43 rfl rfl ?_
    obtain ⟨hg, hf⟩ := xgd_e hf
    refine J_iald dX12_keeps_44 (xK_r1 kO125) kO125 hg nA125 ?_
    obtain ⟨hg, hf⟩ := xgd_e hf
    obtain ⟨h2, eh2, hf⟩ := xlet_e hf
    refine J_iast dX12_keeps_45 (xK_r1 kO122) kO122 hg nA122 eh2 ?_
    refine J_aload_n 0 dX12_keeps_46 rfl rfl ?_
    refine J_getRl (j := 56) xcf12 dX12_keeps_47 kO81 (Or.inl xq1076) (by decide) (by decide) rf_81_56 ?_
    refine J_iload_n 1 dX12_keeps_50 rfl rfl ?_
    refine J_aload_n 0 dX12_keeps_51 rfl rfl ?_
    refine J_getRl (j := 60) xcf12 dX12_keeps_52 kO81 (Or.inl xq1080) (by decide) (by decide) rf_81_60 ?_
    refine J_iload_n 1 dX12_keeps_55 rfl rfl ?_
    obtain ⟨hg, hf⟩ := xgd_e hf
    refine J_iald dX12_keeps_56 (xK_r1 kO126) kO126 hg nA126 ?_
    obtain ⟨hg, hf⟩ := xgd_e hf
    obtain ⟨h3, eh3, hf⟩ := xlet_e hf
    refine J_iast dX12_keeps_57 (xK_r1 kO123) kO123 hg nA123 eh3 ?_
    obtain ⟨x4, ex4, hf⟩ := xlet_e hf
    refine J_iinc (ls' := [(2, xI x4), (0, xR 81)]) 1 dX12_keeps_58 rfl (by decide) ex4 rfl ?_
    refine J_goto (tgt := 14) dX12_keeps_61 (by decide) ?_
    refine J_sub [1, 0] rfl ?_
    exact kb _ _ (xinl hf)
  · have hf := xin' hc hf
    refine J_sub [0] rfl ?_
    exact ke _ (xinl hf)
theorem j_Md_keeps_14 {l2 : Int} {h : xH} {r0 : Int} {h0 : xH}  (hf : f_Md_keeps_14 l2 h = some (r0, h0))  : J mX12_keeps true 0 0 14 xKn [(0, xR 81), (2, xI l2)] [] h (xEq (some r0) h0) := by
  unfold f_Md_keeps_14 at hf
  obtain ⟨b0, hb0, hf⟩ := xc1_e hf
  refine xloop_ind (P := fun s : (Int × xH) => J mX12_keeps true 0 0 14 xKn [(0, xR 81), (2, xI s.1)] [] s.2 (xEq (some r0) h0)) hb0 (fun s x1 hs ib ie => ?_)
  exact j_Md_keeps_s14  hs (fun _ _ e => ib _ e) (fun _ e => by have := ie _ e; subst this; exact j_Md_keeps_64  hf)
theorem jm_Md_keeps {l1 : Int} {h : xH} {r0 : Int} {h0 : xH}  (hf : f_Md_keeps l1 h = some (r0, h0)) : J mX12_keeps true 0 0 0 xKn (xen 0 [xR 81, xI l1]) [] h (xEq (some r0) h0) := by
  unfold f_Md_keeps at hf
  refine J_cong (ls2 := [(0, xR 81), (1, xI l1)]) (st2 := []) rfl rfl ?_
  refine J_aload_n 0 dX12_keeps_0 rfl rfl ?_
  refine J_iload_n 1 dX12_keeps_1 rfl rfl ?_
  refine J_aload_n 0 dX12_keeps_2 rfl rfl ?_
  refine J_getI (j := 57) xcf12 dX12_keeps_3 (xK_rg kO81) kO81 (Or.inl xq1077) (by decide) (by decide) ?_
  obtain ⟨r1, hq, hf⟩ := xc1_e hf
  refine J_cSi (Mc := mX12_min) [xI l1, xI (h 81 57)] dX12_keeps_6 (fc_Md_min.fit ⟨xbl rfl, xbl rfl⟩) rfl ⟨Or.inl xq1307, xq1308⟩ rfl (xbl rfl) (xbl rfl) (jm_Md_min  hq) ?_
  obtain ⟨h2, eh2, hf⟩ := xlet_e hf
  refine J_putI (j := 53) xcf12 dX12_keeps_9 (xK_rg kO81) kO81 (Or.inl xq1073) (by decide) (by decide) eh2 ?_
  refine J_iconst dX12_keeps_12 (by decide) ?_
  refine J_istore_n (ls' := [(2, xI 0), (0, xR 81), (1, xI l1)]) dX12_keeps_13 rfl (by decide) rfl rfl ?_
  refine J_sub [1, 0] rfl ?_
  exact j_Md_keeps_14  hf
