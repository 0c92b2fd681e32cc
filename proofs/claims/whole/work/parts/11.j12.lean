/-! the machine follows the functions -/
theorem dX12_forge_0 : decode cX12_forge 0 = .ok (.iload_n 1, 1) := by decide +kernel
theorem dX12_forge_1 : decode cX12_forge 1 = .ok (.iconst 0, 1) := by decide +kernel
theorem dX12_forge_2 : decode cX12_forge 2 = .ok (.bipush 7, 2) := by decide +kernel
theorem dX12_forge_4 : decode cX12_forge 4 = .ok (.invokestatic 215, 3) := by decide +kernel
theorem dX12_forge_7 : decode cX12_forge 7 = .ok (.ifCond .eq 24, 3) := by decide +kernel
theorem dX12_forge_10 : decode cX12_forge 10 = .ok (.iload_n 2, 1) := by decide +kernel
theorem dX12_forge_11 : decode cX12_forge 11 = .ok (.iconst 0, 1) := by decide +kernel
theorem dX12_forge_12 : decode cX12_forge 12 = .ok (.bipush 8, 2) := by decide +kernel
theorem dX12_forge_14 : decode cX12_forge 14 = .ok (.invokestatic 215, 3) := by decide +kernel
theorem dX12_forge_17 : decode cX12_forge 17 = .ok (.ifCond .eq 14, 3) := by decide +kernel
theorem dX12_forge_20 : decode cX12_forge 20 = .ok (.iload_n 3, 1) := by decide +kernel
theorem dX12_forge_21 : decode cX12_forge 21 = .ok (.bipush (-100), 2) := by decide +kernel
theorem dX12_forge_23 : decode cX12_forge 23 = .ok (.bipush 100, 2) := by decide +kernel
theorem dX12_forge_25 : decode cX12_forge 25 = .ok (.invokestatic 215, 3) := by decide +kernel
theorem dX12_forge_28 : decode cX12_forge 28 = .ok (.ifCond .ne 9, 3) := by decide +kernel
theorem dX12_forge_31 : decode cX12_forge 31 = .ok (.aload_n 0, 1) := by decide +kernel
theorem dX12_forge_32 : decode cX12_forge 32 = .ok (.iconst 1, 1) := by decide +kernel
theorem dX12_forge_33 : decode cX12_forge 33 = .ok (.invokevirtual 402, 3) := by decide +kernel
theorem dX12_forge_36 : decode cX12_forge 36 = .ok (.ireturn, 1) := by decide +kernel
theorem dX12_forge_37 : decode cX12_forge 37 = .ok (.aload_n 0, 1) := by decide +kernel
theorem dX12_forge_38 : decode cX12_forge 38 = .ok (.getfield 203, 3) := by decide +kernel
theorem dX12_forge_41 : decode cX12_forge 41 = .ok (.iload_n 1, 1) := by decide +kernel
theorem dX12_forge_42 : decode cX12_forge 42 = .ok (.iaload, 1) := by decide +kernel
theorem dX12_forge_43 : decode cX12_forge 43 = .ok (.istore 4, 2) := by decide +kernel
theorem dX12_forge_45 : decode cX12_forge 45 = .ok (.iload_n 2, 1) := by decide +kernel
theorem dX12_forge_46 : decode cX12_forge 46 = .ok (.iconst 3, 1) := by decide +kernel
theorem dX12_forge_47 : decode cX12_forge 47 = .ok (.if_icmp .le 8, 3) := by decide +kernel
theorem dX12_forge_50 : decode cX12_forge 50 = .ok (.iload_n 2, 1) := by decide +kernel
theorem dX12_forge_51 : decode cX12_forge 51 = .ok (.iconst 5, 1) := by decide +kernel
theorem dX12_forge_52 : decode cX12_forge 52 = .ok (.if_icmp .ne 39, 3) := by decide +kernel
theorem dX12_forge_55 : decode cX12_forge 55 = .ok (.iload 4, 2) := by decide +kernel
theorem dX12_forge_57 : decode cX12_forge 57 = .ok (.ifCond .ne 10, 3) := by decide +kernel
theorem dX12_forge_60 : decode cX12_forge 60 = .ok (.aload_n 0, 1) := by decide +kernel
theorem dX12_forge_61 : decode cX12_forge 61 = .ok (.bipush 10, 2) := by decide +kernel
theorem dX12_forge_63 : decode cX12_forge 63 = .ok (.invokevirtual 402, 3) := by decide +kernel
theorem dX12_forge_66 : decode cX12_forge 66 = .ok (.ireturn, 1) := by decide +kernel
theorem dX12_forge_67 : decode cX12_forge 67 = .ok (.iload 4, 2) := by decide +kernel
theorem dX12_forge_69 : decode cX12_forge 69 = .ok (.iload_n 2, 1) := by decide +kernel
theorem dX12_forge_70 : decode cX12_forge 70 = .ok (.iconst 5, 1) := by decide +kernel
theorem dX12_forge_71 : decode cX12_forge 71 = .ok (.if_icmp .ne 7, 3) := by decide +kernel
theorem dX12_forge_74 : decode cX12_forge 74 = .ok (.iconst 1, 1) := by decide +kernel
theorem dX12_forge_75 : decode cX12_forge 75 = .ok (.goto 6, 3) := by decide +kernel
theorem dX12_forge_78 : decode cX12_forge 78 = .ok (.iload_n 2, 1) := by decide +kernel
theorem dX12_forge_79 : decode cX12_forge 79 = .ok (.iconst 1, 1) := by decide +kernel
theorem dX12_forge_80 : decode cX12_forge 80 = .ok (.iadd, 1) := by decide +kernel
theorem dX12_forge_81 : decode cX12_forge 81 = .ok (.if_icmp .eq 10, 3) := by decide +kernel
theorem dX12_forge_84 : decode cX12_forge 84 = .ok (.aload_n 0, 1) := by decide +kernel
theorem dX12_forge_85 : decode cX12_forge 85 = .ok (.bipush 11, 2) := by decide +kernel
theorem dX12_forge_87 : decode cX12_forge 87 = .ok (.invokevirtual 402, 3) := by decide +kernel
theorem dX12_forge_90 : decode cX12_forge 90 = .ok (.ireturn, 1) := by decide +kernel
theorem dX12_forge_91 : decode cX12_forge 91 = .ok (.iload_n 2, 1) := by decide +kernel
theorem dX12_forge_92 : decode cX12_forge 92 = .ok (.tableswitch 248 0 7 #[48, 48, 48, 48, 89, 108, 186, 225], 48) := by decide +kernel
theorem dX12_forge_140 : decode cX12_forge 140 = .ok (.iload_n 3, 1) := by decide +kernel
theorem dX12_forge_141 : decode cX12_forge 141 = .ok (.iconst 0, 1) := by decide +kernel
theorem dX12_forge_142 : decode cX12_forge 142 = .ok (.aload_n 0, 1) := by decide +kernel
theorem dX12_forge_143 : decode cX12_forge 143 = .ok (.getfield 206, 3) := by decide +kernel
theorem dX12_forge_146 : decode cX12_forge 146 = .ok (.iload_n 1, 1) := by decide +kernel
theorem dX12_forge_147 : decode cX12_forge 147 = .ok (.iaload, 1) := by decide +kernel
theorem dX12_forge_148 : decode cX12_forge 148 = .ok (.iconst 1, 1) := by decide +kernel
theorem dX12_forge_149 : decode cX12_forge 149 = .ok (.isub, 1) := by decide +kernel
theorem dX12_forge_150 : decode cX12_forge 150 = .ok (.invokestatic 215, 3) := by decide +kernel
theorem dX12_forge_153 : decode cX12_forge 153 = .ok (.ifCond .eq 21, 3) := by decide +kernel
theorem dX12_forge_156 : decode cX12_forge 156 = .ok (.aload_n 0, 1) := by decide +kernel
theorem dX12_forge_157 : decode cX12_forge 157 = .ok (.aload_n 0, 1) := by decide +kernel
theorem dX12_forge_158 : decode cX12_forge 158 = .ok (.getfield 209, 3) := by decide +kernel
theorem dX12_forge_161 : decode cX12_forge 161 = .ok (.bipush 26, 2) := by decide +kernel
theorem dX12_forge_163 : decode cX12_forge 163 = .ok (.iload_n 1, 1) := by decide +kernel
theorem dX12_forge_164 : decode cX12_forge 164 = .ok (.imul, 1) := by decide +kernel
theorem dX12_forge_165 : decode cX12_forge 165 = .ok (.iload_n 3, 1) := by decide +kernel
theorem dX12_forge_166 : decode cX12_forge 166 = .ok (.iadd, 1) := by decide +kernel
theorem dX12_forge_167 : decode cX12_forge 167 = .ok (.iaload, 1) := by decide +kernel
theorem dX12_forge_168 : decode cX12_forge 168 = .ok (.invokevirtual 405, 3) := by decide +kernel
theorem dX12_forge_171 : decode cX12_forge 171 = .ok (.goto 9, 3) := by decide +kernel
theorem dX12_forge_174 : decode cX12_forge 174 = .ok (.aload_n 0, 1) := by decide +kernel
theorem dX12_forge_175 : decode cX12_forge 175 = .ok (.bipush 12, 2) := by decide +kernel
theorem dX12_forge_177 : decode cX12_forge 177 = .ok (.invokevirtual 402, 3) := by decide +kernel
theorem dX12_forge_180 : decode cX12_forge 180 = .ok (.ireturn, 1) := by decide +kernel
theorem dX12_forge_181 : decode cX12_forge 181 = .ok (.iload_n 3, 1) := by decide +kernel
theorem dX12_forge_182 : decode cX12_forge 182 = .ok (.ifCond .ge 12, 3) := by decide +kernel
theorem dX12_forge_185 : decode cX12_forge 185 = .ok (.aload_n 0, 1) := by decide +kernel
theorem dX12_forge_186 : decode cX12_forge 186 = .ok (.bipush 13, 2) := by decide +kernel
theorem dX12_forge_188 : decode cX12_forge 188 = .ok (.invokevirtual 402, 3) := by decide +kernel
theorem dX12_forge_191 : decode cX12_forge 191 = .ok (.goto 8, 3) := by decide +kernel
theorem dX12_forge_194 : decode cX12_forge 194 = .ok (.aload_n 0, 1) := by decide +kernel
theorem dX12_forge_195 : decode cX12_forge 195 = .ok (.iload_n 3, 1) := by decide +kernel
theorem dX12_forge_196 : decode cX12_forge 196 = .ok (.invokevirtual 405, 3) := by decide +kernel
theorem dX12_forge_199 : decode cX12_forge 199 = .ok (.ireturn, 1) := by decide +kernel
theorem dX12_forge_200 : decode cX12_forge 200 = .ok (.iload_n 3, 1) := by decide +kernel
theorem dX12_forge_201 : decode cX12_forge 201 = .ok (.ifCond .lt 23, 3) := by decide +kernel
theorem dX12_forge_204 : decode cX12_forge 204 = .ok (.iconst 1, 1) := by decide +kernel
theorem dX12_forge_205 : decode cX12_forge 205 = .ok (.iload_n 3, 1) := by decide +kernel
theorem dX12_forge_206 : decode cX12_forge 206 = .ok (.iadd, 1) := by decide +kernel
theorem dX12_forge_207 : decode cX12_forge 207 = .ok (.aload_n 0, 1) := by decide +kernel
theorem dX12_forge_208 : decode cX12_forge 208 = .ok (.getfield 206, 3) := by decide +kernel
theorem dX12_forge_211 : decode cX12_forge 211 = .ok (.iload_n 1, 1) := by decide +kernel
theorem dX12_forge_212 : decode cX12_forge 212 = .ok (.iaload, 1) := by decide +kernel
theorem dX12_forge_213 : decode cX12_forge 213 = .ok (.if_icmp .gt 11, 3) := by decide +kernel
theorem dX12_forge_216 : decode cX12_forge 216 = .ok (.iload_n 3, 1) := by decide +kernel
theorem dX12_forge_217 : decode cX12_forge 217 = .ok (.iload_n 3, 1) := by decide +kernel
theorem dX12_forge_218 : decode cX12_forge 218 = .ok (.iadd, 1) := by decide +kernel
theorem dX12_forge_219 : decode cX12_forge 219 = .ok (.bipush 6, 2) := by decide +kernel
theorem dX12_forge_221 : decode cX12_forge 221 = .ok (.if_icmp .le 10, 3) := by decide +kernel
theorem dX12_forge_224 : decode cX12_forge 224 = .ok (.aload_n 0, 1) := by decide +kernel
theorem dX12_forge_225 : decode cX12_forge 225 = .ok (.bipush 12, 2) := by decide +kernel
theorem dX12_forge_227 : decode cX12_forge 227 = .ok (.invokevirtual 402, 3) := by decide +kernel
theorem dX12_forge_230 : decode cX12_forge 230 = .ok (.ireturn, 1) := by decide +kernel
theorem dX12_forge_231 : decode cX12_forge 231 = .ok (.iconst 0, 1) := by decide +kernel
theorem dX12_forge_232 : decode cX12_forge 232 = .ok (.istore 5, 2) := by decide +kernel
theorem dX12_forge_234 : decode cX12_forge 234 = .ok (.iconst 0, 1) := by decide +kernel
theorem dX12_forge_235 : decode cX12_forge 235 = .ok (.istore 6, 2) := by decide +kernel
theorem dX12_forge_237 : decode cX12_forge 237 = .ok (.iload 6, 2) := by decide +kernel
theorem dX12_forge_239 : decode cX12_forge 239 = .ok (.iload_n 3, 1) := by decide +kernel
theorem dX12_forge_240 : decode cX12_forge 240 = .ok (.if_icmp .ge 31, 3) := by decide +kernel
theorem dX12_forge_243 : decode cX12_forge 243 = .ok (.iload 5, 2) := by decide +kernel
theorem dX12_forge_245 : decode cX12_forge 245 = .ok (.bipush 97, 2) := by decide +kernel
theorem dX12_forge_247 : decode cX12_forge 247 = .ok (.aload_n 0, 1) := by decide +kernel
theorem dX12_forge_248 : decode cX12_forge 248 = .ok (.getfield 209, 3) := by decide +kernel
theorem dX12_forge_251 : decode cX12_forge 251 = .ok (.bipush 26, 2) := by decide +kernel
theorem dX12_forge_253 : decode cX12_forge 253 = .ok (.iload_n 1, 1) := by decide +kernel
theorem dX12_forge_254 : decode cX12_forge 254 = .ok (.imul, 1) := by decide +kernel
theorem dX12_forge_255 : decode cX12_forge 255 = .ok (.iconst 1, 1) := by decide +kernel
theorem dX12_forge_256 : decode cX12_forge 256 = .ok (.iadd, 1) := by decide +kernel
theorem dX12_forge_257 : decode cX12_forge 257 = .ok (.iload 6, 2) := by decide +kernel
theorem dX12_forge_259 : decode cX12_forge 259 = .ok (.iadd, 1) := by decide +kernel
theorem dX12_forge_260 : decode cX12_forge 260 = .ok (.iaload, 1) := by decide +kernel
theorem dX12_forge_261 : decode cX12_forge 261 = .ok (.iadd, 1) := by decide +kernel
theorem dX12_forge_262 : decode cX12_forge 262 = .ok (.iadd, 1) := by decide +kernel
theorem dX12_forge_263 : decode cX12_forge 263 = .ok (.istore 5, 2) := by decide +kernel
theorem dX12_forge_265 : decode cX12_forge 265 = .ok (.iinc 6 1, 3) := by decide +kernel
theorem dX12_forge_268 : decode cX12_forge 268 = .ok (.goto (-31), 3) := by decide +kernel
theorem dX12_forge_271 : decode cX12_forge 271 = .ok (.aload_n 0, 1) := by decide +kernel
theorem dX12_forge_272 : decode cX12_forge 272 = .ok (.iload 5, 2) := by decide +kernel
theorem dX12_forge_274 : decode cX12_forge 274 = .ok (.invokevirtual 405, 3) := by decide +kernel
theorem dX12_forge_277 : decode cX12_forge 277 = .ok (.ireturn, 1) := by decide +kernel
theorem dX12_forge_278 : decode cX12_forge 278 = .ok (.iload 4, 2) := by decide +kernel
theorem dX12_forge_280 : decode cX12_forge 280 = .ok (.ifCond .ne 11, 3) := by decide +kernel
theorem dX12_forge_283 : decode cX12_forge 283 = .ok (.aload_n 0, 1) := by decide +kernel
theorem dX12_forge_284 : decode cX12_forge 284 = .ok (.iconst 0, 1) := by decide +kernel
theorem dX12_forge_285 : decode cX12_forge 285 = .ok (.invokevirtual 405, 3) := by decide +kernel
theorem dX12_forge_288 : decode cX12_forge 288 = .ok (.goto 28, 3) := by decide +kernel
theorem dX12_forge_291 : decode cX12_forge 291 = .ok (.iload 4, 2) := by decide +kernel
theorem dX12_forge_293 : decode cX12_forge 293 = .ok (.iconst 2, 1) := by decide +kernel
theorem dX12_forge_294 : decode cX12_forge 294 = .ok (.if_icmp .ne 16, 3) := by decide +kernel
theorem dX12_forge_297 : decode cX12_forge 297 = .ok (.aload_n 0, 1) := by decide +kernel
theorem dX12_forge_298 : decode cX12_forge 298 = .ok (.aload_n 0, 1) := by decide +kernel
theorem dX12_forge_299 : decode cX12_forge 299 = .ok (.getfield 206, 3) := by decide +kernel
theorem dX12_forge_302 : decode cX12_forge 302 = .ok (.iload_n 1, 1) := by decide +kernel
theorem dX12_forge_303 : decode cX12_forge 303 = .ok (.iaload, 1) := by decide +kernel
theorem dX12_forge_304 : decode cX12_forge 304 = .ok (.invokevirtual 405, 3) := by decide +kernel
theorem dX12_forge_307 : decode cX12_forge 307 = .ok (.goto 9, 3) := by decide +kernel
theorem dX12_forge_310 : decode cX12_forge 310 = .ok (.aload_n 0, 1) := by decide +kernel
theorem dX12_forge_311 : decode cX12_forge 311 = .ok (.bipush 14, 2) := by decide +kernel
theorem dX12_forge_313 : decode cX12_forge 313 = .ok (.invokevirtual 402, 3) := by decide +kernel
theorem dX12_forge_316 : decode cX12_forge 316 = .ok (.ireturn, 1) := by decide +kernel
theorem dX12_forge_317 : decode cX12_forge 317 = .ok (.iload_n 3, 1) := by decide +kernel
theorem dX12_forge_318 : decode cX12_forge 318 = .ok (.ifCond .ne 12, 3) := by decide +kernel
theorem dX12_forge_321 : decode cX12_forge 321 = .ok (.aload_n 0, 1) := by decide +kernel
theorem dX12_forge_322 : decode cX12_forge 322 = .ok (.bipush 15, 2) := by decide +kernel
theorem dX12_forge_324 : decode cX12_forge 324 = .ok (.invokevirtual 402, 3) := by decide +kernel
theorem dX12_forge_327 : decode cX12_forge 327 = .ok (.goto 12, 3) := by decide +kernel
theorem dX12_forge_330 : decode cX12_forge 330 = .ok (.aload_n 0, 1) := by decide +kernel
theorem dX12_forge_331 : decode cX12_forge 331 = .ok (.sipush 1000, 3) := by decide +kernel
theorem dX12_forge_334 : decode cX12_forge 334 = .ok (.iload_n 3, 1) := by decide +kernel
theorem dX12_forge_335 : decode cX12_forge 335 = .ok (.idiv, 1) := by decide +kernel
theorem dX12_forge_336 : decode cX12_forge 336 = .ok (.invokevirtual 405, 3) := by decide +kernel
theorem dX12_forge_339 : decode cX12_forge 339 = .ok (.ireturn, 1) := by decide +kernel
theorem dX12_forge_340 : decode cX12_forge 340 = .ok (.aload_n 0, 1) := by decide +kernel
theorem dX12_forge_341 : decode cX12_forge 341 = .ok (.bipush 10, 2) := by decide +kernel
theorem dX12_forge_343 : decode cX12_forge 343 = .ok (.invokevirtual 402, 3) := by decide +kernel
theorem dX12_forge_346 : decode cX12_forge 346 = .ok (.ireturn, 1) := by decide +kernel
theorem j_Md_forge_271 {l5 : Int} {h : xH} {r0 : Int} {h0 : xH}  (hf : f_Md_forge_271 l5 h = some (r0, h0))  : J mX12_forge true 0 0 271 xKn [(0, xR 81), (5, xI l5)] [] h (xEq (some r0) h0) := by
  unfold f_Md_forge_271 at hf
  refine J_aload_n 0 dX12_forge_271 rfl rfl ?_
  refine J_iload 1 dX12_forge_272 rfl ?_
  obtain ⟨r1, h2, hq, hf⟩ := xc2_e hf
  refine J_cVi (Mc := mX12_done) [xI l5] dX12_forge_274 (fc_Md_done.fit ⟨xbl rfl, xbl rfl⟩) rfl ⟨Or.inl xq1518, xq1520, xq123⟩ kO81 (ci := 12) rfl rfl (xbl rfl) (xbl rfl) (jm_Md_done  hq) ?_
  exact J_ireti dX12_forge_277 rfl (xq_i hf)
theorem j_Md_forge_s237 {l1 : Int} {l3 : Int} {l5 : Int} {l6 : Int} {h : xH} {x : ((Int × Int) ⊕ Int)} {Q : xQ}  (hf : f_Md_forge_s237 l1 l3 l5 l6 h = some x) (kb : ∀ (l5' : Int) (l6' : Int), x = Sum.inl (l5', l6') → J mX12_forge true 0 0 237 xKn [(0, xR 81), (1, xI l1), (3, xI l3), (5, xI l5'), (6, xI l6')] [] h Q) (ke : ∀ (l5' : Int), x = (Sum.inr l5') → J mX12_forge true 0 0 271 xKn [(0, xR 81), (5, xI l5')] [] h Q) : J mX12_forge true 0 0 237 xKn [(0, xR 81), (1, xI l1), (3, xI l3), (5, xI l5), (6, xI l6)] [] h Q := by
  unfold f_Md_forge_s237 at hf
  refine J_iload 4 dX12_forge_237 rfl ?_
  refine J_iload_n 2 dX12_forge_239 rfl rfl ?_
  refine J_ic_ge (tgt := 271) dX12_forge_240 (by decide) (fun hc => ?_) (fun hc => ?_)
  · have hf := xip hc hf
    refine J_iload 3 dX12_forge_243 rfl ?_
    refine J_bip dX12_forge_245 (by decide) ?_
    refine J_aload_n 0 dX12_forge_247 rfl rfl ?_
    refine J_getRl (j := 81) xcf12 dX12_forge_248 kO81 (Or.inl xq1101) (by decide) (by decide) rf_81_81 ?_
    refine J_bip dX12_forge_251 (by decide) ?_
    refine J_iload_n 1 dX12_forge_253 rfl rfl ?_
    refine J_imul dX12_forge_254 ?_
    refine J_iconst dX12_forge_255 (by decide) ?_
    refine J_iadd dX12_forge_256 ?_
    refine J_iload 4 dX12_forge_257 rfl ?_
    refine J_iadd dX12_forge_259 ?_
    obtain ⟨hg, hf⟩ := xgd_e hf
    refine J_iald dX12_forge_260 (xK_r1 kO144) kO144 hg nA144 ?_
    refine J_iadd dX12_forge_261 ?_
    refine J_iadd dX12_forge_262 ?_
    obtain ⟨x1, ex1, hf⟩ := xlet_e hf
    refine J_istore (ls' := [(5, xI x1), (0, xR 81), (1, xI l1), (3, xI l3), (6, xI l6)]) dX12_forge_263 (by decide) ex1 rfl ?_
    obtain ⟨x2, ex2, hf⟩ := xlet_e hf
    refine J_iinc (ls' := [(6, xI x2), (5, xI x1), (0, xR 81), (1, xI l1), (3, xI l3)]) 4 dX12_forge_265 rfl (by decide) ex2 rfl ?_
    refine J_goto (tgt := 237) dX12_forge_268 (by decide) ?_
    refine J_sub [2, 3, 4, 1, 0] rfl ?_
    exact kb _ _ (xinl hf)
  · have hf := xin' hc hf
    refine J_sub [0, 3] rfl ?_
    exact ke _ (xinl hf)
theorem j_Md_forge_237 {l1 : Int} {l3 : Int} {l5 : Int} {l6 : Int} {h : xH} {r0 : Int} {h0 : xH}  (hf : f_Md_forge_237 l1 l3 l5 l6 h = some (r0, h0))  : J mX12_forge true 0 0 237 xKn [(0, xR 81), (1, xI l1), (3, xI l3), (5, xI l5), (6, xI l6)] [] h (xEq (some r0) h0) := by
  unfold f_Md_forge_237 at hf
  obtain ⟨b0, hb0, hf⟩ := xc1_e hf
  refine xloop_ind (P := fun s : (Int × Int) => J mX12_forge true 0 0 237 xKn [(0, xR 81), (1, xI l1), (3, xI l3), (5, xI s.1), (6, xI s.2)] [] h (xEq (some r0) h0)) hb0 (fun s x1 hs ib ie => ?_)
  exact j_Md_forge_s237  hs (fun _ _ e => ib _ e) (fun _ e => by have := ie _ e; subst this; exact j_Md_forge_271  hf)
theorem j_Md_forge_224  {h : xH} {r0 : Int} {h0 : xH}  (hf : f_Md_forge_224 h = some (r0, h0))  : J mX12_forge true 0 0 224 xKn [(0, xR 81)] [] h (xEq (some r0) h0) := by
  unfold f_Md_forge_224 at hf
  refine J_aload_n 0 dX12_forge_224 rfl rfl ?_
  refine J_bip dX12_forge_225 (by decide) ?_
  obtain ⟨r1, h2, hq, hf⟩ := xc2_e hf
  refine J_cVi (Mc := mX12_refused) [xI 12] dX12_forge_227 (fc_Md_refused.fit ⟨xbl rfl, xbl rfl⟩) rfl ⟨Or.inl xq1514, xq1516, xq122⟩ kO81 (ci := 12) rfl rfl (xbl rfl) (xbl rfl) (jm_Md_refused  hq) ?_
  exact J_ireti dX12_forge_230 rfl (xq_i hf)
theorem j_Md_forge_140 {l1 : Int} {l3 : Int} {h : xH} {r0 : Int} {h0 : xH}  (hf : f_Md_forge_140 l1 l3 h = some (r0, h0))  : J mX12_forge true 0 0 140 xKn [(0, xR 81), (1, xI l1), (3, xI l3)] [] h (xEq (some r0) h0) := by
  unfold f_Md_forge_140 at hf
  refine J_iload_n 2 dX12_forge_140 rfl rfl ?_
  refine J_iconst dX12_forge_141 (by decide) ?_
  refine J_aload_n 0 dX12_forge_142 rfl rfl ?_
  refine J_getRl (j := 80) xcf12 dX12_forge_143 kO81 (Or.inl xq1100) (by decide) (by decide) rf_81_80 ?_
  refine J_iload_n 1 dX12_forge_146 rfl rfl ?_
  obtain ⟨hg, hf⟩ := xgd_e hf
  refine J_iald dX12_forge_147 (xK_r1 kO143) kO143 hg nA143 ?_
  refine J_iconst dX12_forge_148 (by decide) ?_
  refine J_isub dX12_forge_149 ?_
  obtain ⟨r1, hq, hf⟩ := xc1_e hf
  refine J_cSi (Mc := mX12_in) [xI l3, xI 0, xI (w32 ((h 143 l1) - 1))] dX12_forge_150 (fc_Md_in.fit ⟨xbl rfl, xbl rfl⟩) rfl ⟨Or.inl xq1283, xq1284⟩ rfl (xbl rfl) (xbl rfl) (jm_Md_in  hq) ?_
  refine J_if_eq (tgt := 174) dX12_forge_153 (by decide) (fun hc => ?_) (fun hc => ?_)
  · have hf := xip hc hf
    refine J_aload_n 0 dX12_forge_174 rfl rfl ?_
    refine J_bip dX12_forge_175 (by decide) ?_
    obtain ⟨r2, h3, hq, hf⟩ := xc2_e hf
    refine J_cVi (Mc := mX12_refused) [xI 12] dX12_forge_177 (fc_Md_refused.fit ⟨xbl rfl, xbl rfl⟩) rfl ⟨Or.inl xq1514, xq1516, xq122⟩ kO81 (ci := 12) rfl rfl (xbl rfl) (xbl rfl) (jm_Md_refused  hq) ?_
    exact J_ireti dX12_forge_180 rfl (xq_i hf)
  · have hf := xin' hc hf
    refine J_aload_n 0 dX12_forge_156 rfl rfl ?_
    refine J_aload_n 0 dX12_forge_157 rfl rfl ?_
    refine J_getRl (j := 81) xcf12 dX12_forge_158 kO81 (Or.inl xq1101) (by decide) (by decide) rf_81_81 ?_
    refine J_bip dX12_forge_161 (by decide) ?_
    refine J_iload_n 1 dX12_forge_163 rfl rfl ?_
    refine J_imul dX12_forge_164 ?_
    refine J_iload_n 2 dX12_forge_165 rfl rfl ?_
    refine J_iadd dX12_forge_166 ?_
    obtain ⟨hg, hf⟩ := xgd_e hf
    refine J_iald dX12_forge_167 (xK_r1 kO144) kO144 hg nA144 ?_
    obtain ⟨r4, h5, hq, hf⟩ := xc2_e hf
    refine J_cVi (Mc := mX12_done) [xI (h 144 (w32 ((w32 (26 * l1)) + l3)))] dX12_forge_168 (fc_Md_done.fit ⟨xbl rfl, xbl rfl⟩) rfl ⟨Or.inl xq1518, xq1520, xq123⟩ kO81 (ci := 12) rfl rfl (xbl rfl) (xbl rfl) (jm_Md_done  hq) ?_
    refine J_goto (tgt := 180) dX12_forge_171 (by decide) ?_
    exact J_ireti dX12_forge_180 rfl (xq_i hf)
theorem j_Md_forge_91 {l1 : Int} {l2 : Int} {l3 : Int} {l4 : Int} {h : xH} {r0 : Int} {h0 : xH}  (hf : f_Md_forge_91 l1 l2 l3 l4 h = some (r0, h0))  : J mX12_forge true 0 0 91 xKn [(0, xR 81), (1, xI l1), (2, xI l2), (3, xI l3), (4, xI l4)] [] h (xEq (some r0) h0) := by
  unfold f_Md_forge_91 at hf
  refine J_iload_n 2 dX12_forge_91 rfl rfl ?_
  refine J_by (c := l2 = 0) (fun hc0 => ?_) (fun hc0 => ?_)
  · have hf := xip hc0 hf
    refine J_tswIn (tgt := 140) dX12_forge_92 0 hc0 (by decide) (by decide) rfl (by decide) ?_
    refine J_sub [0, 1, 3] rfl ?_
    exact j_Md_forge_140  hf
  · have hf := xin' hc0 hf
    refine J_by (c := l2 = 1) (fun hc1 => ?_) (fun hc1 => ?_)
    · have hf := xip hc1 hf
      refine J_tswIn (tgt := 140) dX12_forge_92 1 hc1 (by decide) (by decide) rfl (by decide) ?_
      refine J_sub [0, 1, 3] rfl ?_
      exact j_Md_forge_140  hf
    · have hf := xin' hc1 hf
      refine J_by (c := l2 = 2) (fun hc2 => ?_) (fun hc2 => ?_)
      · have hf := xip hc2 hf
        refine J_tswIn (tgt := 140) dX12_forge_92 2 hc2 (by decide) (by decide) rfl (by decide) ?_
        refine J_sub [0, 1, 3] rfl ?_
        exact j_Md_forge_140  hf
      · have hf := xin' hc2 hf
        refine J_by (c := l2 = 3) (fun hc3 => ?_) (fun hc3 => ?_)
        · have hf := xip hc3 hf
          refine J_tswIn (tgt := 140) dX12_forge_92 3 hc3 (by decide) (by decide) rfl (by decide) ?_
          refine J_sub [0, 1, 3] rfl ?_
          exact j_Md_forge_140  hf
        · have hf := xin' hc3 hf
          refine J_by (c := l2 = 4) (fun hc4 => ?_) (fun hc4 => ?_)
          · have hf := xip hc4 hf
            refine J_tswIn (tgt := 181) dX12_forge_92 4 hc4 (by decide) (by decide) rfl (by decide) ?_
            refine J_iload_n 3 dX12_forge_181 rfl rfl ?_
            refine J_if_ge (tgt := 194) dX12_forge_182 (by decide) (fun hc => ?_) (fun hc => ?_)
            · have hf := xip hc hf
              refine J_aload_n 0 dX12_forge_185 rfl rfl ?_
              refine J_bip dX12_forge_186 (by decide) ?_
              obtain ⟨r1, h2, hq, hf⟩ := xc2_e hf
              refine J_cVi (Mc := mX12_refused) [xI 13] dX12_forge_188 (fc_Md_refused.fit ⟨xbl rfl, xbl rfl⟩) rfl ⟨Or.inl xq1514, xq1516, xq122⟩ kO81 (ci := 12) rfl rfl (xbl rfl) (xbl rfl) (jm_Md_refused  hq) ?_
              refine J_goto (tgt := 199) dX12_forge_191 (by decide) ?_
              exact J_ireti dX12_forge_199 rfl (xq_i hf)
            · have hf := xin' hc hf
              refine J_aload_n 0 dX12_forge_194 rfl rfl ?_
              refine J_iload_n 3 dX12_forge_195 rfl rfl ?_
              obtain ⟨r3, h4, hq, hf⟩ := xc2_e hf
              refine J_cVi (Mc := mX12_done) [xI l3] dX12_forge_196 (fc_Md_done.fit ⟨xbl rfl, xbl rfl⟩) rfl ⟨Or.inl xq1518, xq1520, xq123⟩ kO81 (ci := 12) rfl rfl (xbl rfl) (xbl rfl) (jm_Md_done  hq) ?_
              exact J_ireti dX12_forge_199 rfl (xq_i hf)
          · have hf := xin' hc4 hf
            refine J_by (c := l2 = 5) (fun hc5 => ?_) (fun hc5 => ?_)
            · have hf := xip hc5 hf
              refine J_tswIn (tgt := 200) dX12_forge_92 5 hc5 (by decide) (by decide) rfl (by decide) ?_
              refine J_iload_n 3 dX12_forge_200 rfl rfl ?_
              refine J_if_lt (tgt := 224) dX12_forge_201 (by decide) (fun hc => ?_) (fun hc => ?_)
              · have hf := xip hc hf
                refine J_sub [0] rfl ?_
                exact j_Md_forge_224  hf
              · have hf := xin' hc hf
                refine J_iconst dX12_forge_204 (by decide) ?_
                refine J_iload_n 3 dX12_forge_205 rfl rfl ?_
                refine J_iadd dX12_forge_206 ?_
                refine J_aload_n 0 dX12_forge_207 rfl rfl ?_
                refine J_getRl (j := 80) xcf12 dX12_forge_208 kO81 (Or.inl xq1100) (by decide) (by decide) rf_81_80 ?_
                refine J_iload_n 1 dX12_forge_211 rfl rfl ?_
                obtain ⟨hg, hf⟩ := xgd_e hf
                refine J_iald dX12_forge_212 (xK_r1 kO143) kO143 hg nA143 ?_
                refine J_ic_gt (tgt := 224) dX12_forge_213 (by decide) (fun hc => ?_) (fun hc => ?_)
                · have hf := xip hc hf
                  refine J_sub [0] rfl ?_
                  exact j_Md_forge_224  hf
                · have hf := xin' hc hf
                  refine J_iload_n 3 dX12_forge_216 rfl rfl ?_
                  refine J_iload_n 3 dX12_forge_217 rfl rfl ?_
                  refine J_iadd dX12_forge_218 ?_
                  refine J_bip dX12_forge_219 (by decide) ?_
                  refine J_ic_le (tgt := 231) dX12_forge_221 (by decide) (fun hc => ?_) (fun hc => ?_)
                  · have hf := xip hc hf
                    refine J_sub [0] rfl ?_
                    exact j_Md_forge_224  hf
                  · have hf := xin' hc hf
                    refine J_iconst dX12_forge_231 (by decide) ?_
                    refine J_istore (ls' := [(5, xI 0), (0, xR 81), (1, xI l1), (2, xI l2), (3, xI l3), (4, xI l4)]) dX12_forge_232 (by decide) rfl rfl ?_
                    refine J_iconst dX12_forge_234 (by decide) ?_
                    refine J_istore (ls' := [(6, xI 0), (5, xI 0), (0, xR 81), (1, xI l1), (2, xI l2), (3, xI l3), (4, xI l4)]) dX12_forge_235 (by decide) rfl rfl ?_
                    refine J_sub [2, 3, 5, 1, 0] rfl ?_
                    exact j_Md_forge_237  hf
            · have hf := xin' hc5 hf
              refine J_by (c := l2 = 6) (fun hc6 => ?_) (fun hc6 => ?_)
              · have hf := xip hc6 hf
                refine J_tswIn (tgt := 278) dX12_forge_92 6 hc6 (by decide) (by decide) rfl (by decide) ?_
                refine J_iload 4 dX12_forge_278 rfl ?_
                refine J_if_ne (tgt := 291) dX12_forge_280 (by decide) (fun hc => ?_) (fun hc => ?_)
                · have hf := xip hc hf
                  refine J_aload_n 0 dX12_forge_283 rfl rfl ?_
                  refine J_iconst dX12_forge_284 (by decide) ?_
                  obtain ⟨r5, h6, hq, hf⟩ := xc2_e hf
                  refine J_cVi (Mc := mX12_done) [xI 0] dX12_forge_285 (fc_Md_done.fit ⟨xbl rfl, xbl rfl⟩) rfl ⟨Or.inl xq1518, xq1520, xq123⟩ kO81 (ci := 12) rfl rfl (xbl rfl) (xbl rfl) (jm_Md_done  hq) ?_
                  refine J_goto (tgt := 316) dX12_forge_288 (by decide) ?_
                  exact J_ireti dX12_forge_316 rfl (xq_i hf)
                · have hf := xin' hc hf
                  refine J_iload 4 dX12_forge_291 rfl ?_
                  refine J_iconst dX12_forge_293 (by decide) ?_
                  refine J_ic_ne (tgt := 310) dX12_forge_294 (by decide) (fun hc => ?_) (fun hc => ?_)
                  · have hf := xip hc hf
                    refine J_aload_n 0 dX12_forge_297 rfl rfl ?_
                    refine J_aload_n 0 dX12_forge_298 rfl rfl ?_
                    refine J_getRl (j := 80) xcf12 dX12_forge_299 kO81 (Or.inl xq1100) (by decide) (by decide) rf_81_80 ?_
                    refine J_iload_n 1 dX12_forge_302 rfl rfl ?_
                    obtain ⟨hg, hf⟩ := xgd_e hf
                    refine J_iald dX12_forge_303 (xK_r1 kO143) kO143 hg nA143 ?_
                    obtain ⟨r7, h8, hq, hf⟩ := xc2_e hf
                    refine J_cVi (Mc := mX12_done) [xI (h 143 l1)] dX12_forge_304 (fc_Md_done.fit ⟨xbl rfl, xbl rfl⟩) rfl ⟨Or.inl xq1518, xq1520, xq123⟩ kO81 (ci := 12) rfl rfl (xbl rfl) (xbl rfl) (jm_Md_done  hq) ?_
                    refine J_goto (tgt := 316) dX12_forge_307 (by decide) ?_
                    exact J_ireti dX12_forge_316 rfl (xq_i hf)
                  · have hf := xin' hc hf
                    refine J_aload_n 0 dX12_forge_310 rfl rfl ?_
                    refine J_bip dX12_forge_311 (by decide) ?_
                    obtain ⟨r9, h10, hq, hf⟩ := xc2_e hf
                    refine J_cVi (Mc := mX12_refused) [xI 14] dX12_forge_313 (fc_Md_refused.fit ⟨xbl rfl, xbl rfl⟩) rfl ⟨Or.inl xq1514, xq1516, xq122⟩ kO81 (ci := 12) rfl rfl (xbl rfl) (xbl rfl) (jm_Md_refused  hq) ?_
                    exact J_ireti dX12_forge_316 rfl (xq_i hf)
              · have hf := xin' hc6 hf
                refine J_by (c := l2 = 7) (fun hc7 => ?_) (fun hc7 => ?_)
                · have hf := xip hc7 hf
                  refine J_tswIn (tgt := 317) dX12_forge_92 7 hc7 (by decide) (by decide) rfl (by decide) ?_
                  refine J_iload_n 3 dX12_forge_317 rfl rfl ?_
                  refine J_if_ne (tgt := 330) dX12_forge_318 (by decide) (fun hc => ?_) (fun hc => ?_)
                  · have hf := xip hc hf
                    refine J_aload_n 0 dX12_forge_321 rfl rfl ?_
                    refine J_bip dX12_forge_322 (by decide) ?_
                    obtain ⟨r11, h12, hq, hf⟩ := xc2_e hf
                    refine J_cVi (Mc := mX12_refused) [xI 15] dX12_forge_324 (fc_Md_refused.fit ⟨xbl rfl, xbl rfl⟩) rfl ⟨Or.inl xq1514, xq1516, xq122⟩ kO81 (ci := 12) rfl rfl (xbl rfl) (xbl rfl) (jm_Md_refused  hq) ?_
                    refine J_goto (tgt := 339) dX12_forge_327 (by decide) ?_
                    exact J_ireti dX12_forge_339 rfl (xq_i hf)
                  · have hf := xin' hc hf
                    refine J_aload_n 0 dX12_forge_330 rfl rfl ?_
                    refine J_sip dX12_forge_331 (by decide) ?_
                    refine J_iload_n 3 dX12_forge_334 rfl rfl ?_
                    obtain ⟨hy, hf⟩ := xgp_e hf
                    refine J_idiv dX12_forge_335 hy ?_
                    obtain ⟨r13, h14, hq, hf⟩ := xc2_e hf
                    refine J_cVi (Mc := mX12_done) [xI (xdiv 1000 l3)] dX12_forge_336 (fc_Md_done.fit ⟨xbl rfl, xbl rfl⟩) rfl ⟨Or.inl xq1518, xq1520, xq123⟩ kO81 (ci := 12) rfl rfl (xbl rfl) (xbl rfl) (jm_Md_done  hq) ?_
                    exact J_ireti dX12_forge_339 rfl (xq_i hf)
                · have hf := xin' hc7 hf
                  refine J_tswOut (tgt := 340) dX12_forge_92 (by omega) (by decide) ?_
                  refine J_aload_n 0 dX12_forge_340 rfl rfl ?_
                  refine J_bip dX12_forge_341 (by decide) ?_
                  obtain ⟨r15, h16, hq, hf⟩ := xc2_e hf
                  refine J_cVi (Mc := mX12_refused) [xI 10] dX12_forge_343 (fc_Md_refused.fit ⟨xbl rfl, xbl rfl⟩) rfl ⟨Or.inl xq1514, xq1516, xq122⟩ kO81 (ci := 12) rfl rfl (xbl rfl) (xbl rfl) (jm_Md_refused  hq) ?_
                  exact J_ireti dX12_forge_346 rfl (xq_i hf)
theorem j_Md_forge_81 {l1 : Int} {l2 : Int} {l3 : Int} {l4 : Int} {s0 : Int} {s1 : Int} {h : xH} {r0 : Int} {h0 : xH}  (hf : f_Md_forge_81 l1 l2 l3 l4 s0 s1 h = some (r0, h0))  : J mX12_forge true 0 0 81 xKn [(0, xR 81), (1, xI l1), (2, xI l2), (3, xI l3), (4, xI l4)] [xI s1, xI s0] h (xEq (some r0) h0) := by
  unfold f_Md_forge_81 at hf
  refine J_ic_eq (tgt := 91) dX12_forge_81 (by decide) (fun hc => ?_) (fun hc => ?_)
  · have hf := xip hc hf
    exact j_Md_forge_91  hf
  · have hf := xin' hc hf
    refine J_aload_n 0 dX12_forge_84 rfl rfl ?_
    refine J_bip dX12_forge_85 (by decide) ?_
    obtain ⟨r1, h2, hq, hf⟩ := xc2_e hf
    refine J_cVi (Mc := mX12_refused) [xI 11] dX12_forge_87 (fc_Md_refused.fit ⟨xbl rfl, xbl rfl⟩) rfl ⟨Or.inl xq1514, xq1516, xq122⟩ kO81 (ci := 12) rfl rfl (xbl rfl) (xbl rfl) (jm_Md_refused  hq) ?_
    exact J_ireti dX12_forge_90 rfl (xq_i hf)
theorem j_Md_forge_55 {l1 : Int} {l2 : Int} {l3 : Int} {l4 : Int} {h : xH} {r0 : Int} {h0 : xH}  (hf : f_Md_forge_55 l1 l2 l3 l4 h = some (r0, h0))  : J mX12_forge true 0 0 55 xKn [(0, xR 81), (1, xI l1), (2, xI l2), (3, xI l3), (4, xI l4)] [] h (xEq (some r0) h0) := by
  unfold f_Md_forge_55 at hf
  refine J_iload 4 dX12_forge_55 rfl ?_
  refine J_if_ne (tgt := 67) dX12_forge_57 (by decide) (fun hc => ?_) (fun hc => ?_)
  · have hf := xip hc hf
    refine J_aload_n 0 dX12_forge_60 rfl rfl ?_
    refine J_bip dX12_forge_61 (by decide) ?_
    obtain ⟨r1, h2, hq, hf⟩ := xc2_e hf
    refine J_cVi (Mc := mX12_refused) [xI 10] dX12_forge_63 (fc_Md_refused.fit ⟨xbl rfl, xbl rfl⟩) rfl ⟨Or.inl xq1514, xq1516, xq122⟩ kO81 (ci := 12) rfl rfl (xbl rfl) (xbl rfl) (jm_Md_refused  hq) ?_
    exact J_ireti dX12_forge_66 rfl (xq_i hf)
  · have hf := xin' hc hf
    refine J_iload 4 dX12_forge_67 rfl ?_
    refine J_iload_n 2 dX12_forge_69 rfl rfl ?_
    refine J_iconst dX12_forge_70 (by decide) ?_
    refine J_ic_ne (tgt := 78) dX12_forge_71 (by decide) (fun hc => ?_) (fun hc => ?_)
    · have hf := xip hc hf
      refine J_iconst dX12_forge_74 (by decide) ?_
      refine J_goto (tgt := 81) dX12_forge_75 (by decide) ?_
      exact j_Md_forge_81  hf
    · have hf := xin' hc hf
      refine J_iload_n 2 dX12_forge_78 rfl rfl ?_
      refine J_iconst dX12_forge_79 (by decide) ?_
      refine J_iadd dX12_forge_80 ?_
      exact j_Md_forge_81  hf
theorem j_Md_forge_31  {h : xH} {r0 : Int} {h0 : xH}  (hf : f_Md_forge_31 h = some (r0, h0))  : J mX12_forge true 0 0 31 xKn [(0, xR 81)] [] h (xEq (some r0) h0) := by
  unfold f_Md_forge_31 at hf
  refine J_aload_n 0 dX12_forge_31 rfl rfl ?_
  refine J_iconst dX12_forge_32 (by decide) ?_
  obtain ⟨r1, h2, hq, hf⟩ := xc2_e hf
  refine J_cVi (Mc := mX12_refused) [xI 1] dX12_forge_33 (fc_Md_refused.fit ⟨xbl rfl, xbl rfl⟩) rfl ⟨Or.inl xq1514, xq1516, xq122⟩ kO81 (ci := 12) rfl rfl (xbl rfl) (xbl rfl) (jm_Md_refused  hq) ?_
  exact J_ireti dX12_forge_36 rfl (xq_i hf)
theorem jm_Md_forge {l1 : Int} {l2 : Int} {l3 : Int} {h : xH} {r0 : Int} {h0 : xH}  (hf : f_Md_forge l1 l2 l3 h = some (r0, h0)) : J mX12_forge true 0 0 0 xKn (xen 0 [xR 81, xI l1, xI l2, xI l3]) [] h (xEq (some r0) h0) := by
  unfold f_Md_forge at hf
  refine J_cong (ls2 := [(0, xR 81), (1, xI l1), (2, xI l2), (3, xI l3)]) (st2 := []) rfl rfl ?_
  refine J_iload_n 1 dX12_forge_0 rfl rfl ?_
  refine J_iconst dX12_forge_1 (by decide) ?_
  refine J_bip dX12_forge_2 (by decide) ?_
  obtain ⟨r1, hq, hf⟩ := xc1_e hf
  refine J_cSi (Mc := mX12_in) [xI l1, xI 0, xI 7] dX12_forge_4 (fc_Md_in.fit ⟨xbl rfl, xbl rfl⟩) rfl ⟨Or.inl xq1283, xq1284⟩ rfl (xbl rfl) (xbl rfl) (jm_Md_in  hq) ?_
  refine J_if_eq (tgt := 31) dX12_forge_7 (by decide) (fun hc => ?_) (fun hc => ?_)
  · have hf := xip hc hf
    refine J_sub [0] rfl ?_
    exact j_Md_forge_31  hf
  · have hf := xin' hc hf
    refine J_iload_n 2 dX12_forge_10 rfl rfl ?_
    refine J_iconst dX12_forge_11 (by decide) ?_
    refine J_bip dX12_forge_12 (by decide) ?_
    obtain ⟨r2, hq, hf⟩ := xc1_e hf
    refine J_cSi (Mc := mX12_in) [xI l2, xI 0, xI 8] dX12_forge_14 (fc_Md_in.fit ⟨xbl rfl, xbl rfl⟩) rfl ⟨Or.inl xq1283, xq1284⟩ rfl (xbl rfl) (xbl rfl) (jm_Md_in  hq) ?_
    refine J_if_eq (tgt := 31) dX12_forge_17 (by decide) (fun hc => ?_) (fun hc => ?_)
    · have hf := xip hc hf
      refine J_sub [0] rfl ?_
      exact j_Md_forge_31  hf
    · have hf := xin' hc hf
      refine J_iload_n 3 dX12_forge_20 rfl rfl ?_
      refine J_bip dX12_forge_21 (by decide) ?_
      refine J_bip dX12_forge_23 (by decide) ?_
      obtain ⟨r3, hq, hf⟩ := xc1_e hf
      refine J_cSi (Mc := mX12_in) [xI l3, xI (-100), xI 100] dX12_forge_25 (fc_Md_in.fit ⟨xbl rfl, xbl rfl⟩) rfl ⟨Or.inl xq1283, xq1284⟩ rfl (xbl rfl) (xbl rfl) (jm_Md_in  hq) ?_
      refine J_if_ne (tgt := 37) dX12_forge_28 (by decide) (fun hc => ?_) (fun hc => ?_)
      · have hf := xip hc hf
        refine J_sub [0] rfl ?_
        exact j_Md_forge_31  hf
      · have hf := xin' hc hf
        refine J_aload_n 0 dX12_forge_37 rfl rfl ?_
        refine J_getRl (j := 79) xcf12 dX12_forge_38 kO81 (Or.inl xq1099) (by decide) (by decide) rf_81_79 ?_
        refine J_iload_n 1 dX12_forge_41 rfl rfl ?_
        obtain ⟨hg, hf⟩ := xgd_e hf
        refine J_iald dX12_forge_42 (xK_r1 kO142) kO142 hg nA142 ?_
        obtain ⟨x4, ex4, hf⟩ := xlet_e hf
        refine J_istore (ls' := [(4, xI x4), (0, xR 81), (1, xI l1), (2, xI l2), (3, xI l3)]) dX12_forge_43 (by decide) ex4 rfl ?_
        refine J_iload_n 3 dX12_forge_45 rfl rfl ?_
        refine J_iconst dX12_forge_46 (by decide) ?_
        refine J_ic_le (tgt := 55) dX12_forge_47 (by decide) (fun hc => ?_) (fun hc => ?_)
        · have hf := xip hc hf
          refine J_iload_n 3 dX12_forge_50 rfl rfl ?_
          refine J_iconst dX12_forge_51 (by decide) ?_
          refine J_ic_ne (tgt := 91) dX12_forge_52 (by decide) (fun hc => ?_) (fun hc => ?_)
          · have hf := xip hc hf
            refine J_sub [1, 2, 3, 4, 0] rfl ?_
            exact j_Md_forge_55  hf
          · have hf := xin' hc hf
            refine J_sub [1, 2, 3, 4, 0] rfl ?_
            exact j_Md_forge_91  hf
        · have hf := xin' hc hf
          refine J_sub [1, 2, 3, 4, 0] rfl ?_
          exact j_Md_forge_55  hf
theorem dX12_status_0 : decode cX12_status 0 = .ok (.aload_n 0, 1) := by decide +kernel
theorem dX12_status_1 : decode cX12_status 1 = .ok (.getfield 399, 3) := by decide +kernel
theorem dX12_status_4 : decode cX12_status 4 = .ok (.ireturn, 1) := by decide +kernel
theorem jm_Md_status  {h : xH} {r0 : Int}  (hf : f_Md_status h = some r0) : J mX12_status true 0 0 0 xKn (xen 0 [xR 81]) [] h (xEq (some r0) h) := by
  unfold f_Md_status at hf
  refine J_cong (ls2 := [(0, xR 81)]) (st2 := []) rfl rfl ?_
  refine J_aload_n 0 dX12_status_0 rfl rfl ?_
  refine J_getI (j := 82) xcf12 dX12_status_1 (xK_rg kO81) kO81 (Or.inl xq1102) (by decide) (by decide) ?_
  exact J_ireti dX12_status_4 rfl (xq_p hf)
theorem dL_law_16 : decode code 16 = .ok (.iconst 0, 1) := by decide +kernel
theorem dL_law_17 : decode code 17 = .ok (.istore_n 3, 1) := by decide +kernel
theorem dL_law_18 : decode code 18 = .ok (.iload_n 3, 1) := by decide +kernel
theorem dL_law_19 : decode code 19 = .ok (.aload_n 0, 1) := by decide +kernel
theorem dL_law_20 : decode code 20 = .ok (.arraylength, 1) := by decide +kernel
theorem dL_law_21 : decode code 21 = .ok (.iconst 5, 1) := by decide +kernel
theorem dL_law_22 : decode code 22 = .ok (.isub, 1) := by decide +kernel
theorem dL_law_23 : decode code 23 = .ok (.if_icmp .gt 769, 3) := by decide +kernel
theorem dL_law_26 : decode code 26 = .ok (.aload_n 0, 1) := by decide +kernel
theorem dL_law_27 : decode code 27 = .ok (.iload_n 3, 1) := by decide +kernel
theorem dL_law_28 : decode code 28 = .ok (.iaload, 1) := by decide +kernel
theorem dL_law_29 : decode code 29 = .ok (.bipush 31, 2) := by decide +kernel
theorem dL_law_31 : decode code 31 = .ok (.iand, 1) := by decide +kernel
theorem dL_law_32 : decode code 32 = .ok (.tableswitch 754 0 23 #[112, 175, 198, 211, 224, 257, 280, 333, 356, 379, 392, 425, 448, 471, 494, 527, 560, 573, 586, 599, 622, 655, 698, 741], 112) := by decide +kernel
theorem dL_law_144 : decode code 144 = .ok (.aload_n 1, 1) := by decide +kernel
theorem dL_law_145 : decode code 145 = .ok (.aload_n 0, 1) := by decide +kernel
theorem dL_law_146 : decode code 146 = .ok (.iload_n 3, 1) := by decide +kernel
theorem dL_law_147 : decode code 147 = .ok (.iconst 1, 1) := by decide +kernel
theorem dL_law_148 : decode code 148 = .ok (.iadd, 1) := by decide +kernel
theorem dL_law_149 : decode code 149 = .ok (.iaload, 1) := by decide +kernel
theorem dL_law_150 : decode code 150 = .ok (.aload_n 0, 1) := by decide +kernel
theorem dL_law_151 : decode code 151 = .ok (.iload_n 3, 1) := by decide +kernel
theorem dL_law_152 : decode code 152 = .ok (.iconst 2, 1) := by decide +kernel
theorem dL_law_153 : decode code 153 = .ok (.iadd, 1) := by decide +kernel
theorem dL_law_154 : decode code 154 = .ok (.iaload, 1) := by decide +kernel
theorem dL_law_155 : decode code 155 = .ok (.i2l, 1) := by decide +kernel
theorem dL_law_156 : decode code 156 = .ok (.bipush 32, 2) := by decide +kernel
theorem dL_law_158 : decode code 158 = .ok (.lshl, 1) := by decide +kernel
theorem dL_law_159 : decode code 159 = .ok (.aload_n 0, 1) := by decide +kernel
theorem dL_law_160 : decode code 160 = .ok (.iload_n 3, 1) := by decide +kernel
theorem dL_law_161 : decode code 161 = .ok (.iconst 3, 1) := by decide +kernel
theorem dL_law_162 : decode code 162 = .ok (.iadd, 1) := by decide +kernel
theorem dL_law_163 : decode code 163 = .ok (.iaload, 1) := by decide +kernel
theorem dL_law_164 : decode code 164 = .ok (.i2l, 1) := by decide +kernel
theorem dL_law_165 : decode code 165 = .ok (.ldc2_w 13, 3) := by decide +kernel
theorem dL_law_168 : decode code 168 = .ok (.land, 1) := by decide +kernel
theorem dL_law_169 : decode code 169 = .ok (.lor, 1) := by decide +kernel
theorem dL_law_170 : decode code 170 = .ok (.invokevirtual 15, 3) := by decide +kernel
theorem dL_law_173 : decode code 173 = .ok (.aload_n 2, 1) := by decide +kernel
theorem dL_law_174 : decode code 174 = .ok (.aload_n 0, 1) := by decide +kernel
theorem dL_law_175 : decode code 175 = .ok (.iload_n 3, 1) := by decide +kernel
theorem dL_law_176 : decode code 176 = .ok (.iconst 1, 1) := by decide +kernel
theorem dL_law_177 : decode code 177 = .ok (.iadd, 1) := by decide +kernel
theorem dL_law_178 : decode code 178 = .ok (.iaload, 1) := by decide +kernel
theorem dL_law_179 : decode code 179 = .ok (.aload_n 0, 1) := by decide +kernel
theorem dL_law_180 : decode code 180 = .ok (.iload_n 3, 1) := by decide +kernel
theorem dL_law_181 : decode code 181 = .ok (.iconst 2, 1) := by decide +kernel
theorem dL_law_182 : decode code 182 = .ok (.iadd, 1) := by decide +kernel
theorem dL_law_183 : decode code 183 = .ok (.iaload, 1) := by decide +kernel
theorem dL_law_184 : decode code 184 = .ok (.i2l, 1) := by decide +kernel
theorem dL_law_185 : decode code 185 = .ok (.bipush 32, 2) := by decide +kernel
theorem dL_law_187 : decode code 187 = .ok (.lshl, 1) := by decide +kernel
theorem dL_law_188 : decode code 188 = .ok (.aload_n 0, 1) := by decide +kernel
theorem dL_law_189 : decode code 189 = .ok (.iload_n 3, 1) := by decide +kernel
theorem dL_law_190 : decode code 190 = .ok (.iconst 3, 1) := by decide +kernel
theorem dL_law_191 : decode code 191 = .ok (.iadd, 1) := by decide +kernel
theorem dL_law_192 : decode code 192 = .ok (.iaload, 1) := by decide +kernel
theorem dL_law_193 : decode code 193 = .ok (.i2l, 1) := by decide +kernel
theorem dL_law_194 : decode code 194 = .ok (.ldc2_w 13, 3) := by decide +kernel
theorem dL_law_197 : decode code 197 = .ok (.land, 1) := by decide +kernel
theorem dL_law_198 : decode code 198 = .ok (.lor, 1) := by decide +kernel
theorem dL_law_199 : decode code 199 = .ok (.invokevirtual 19, 3) := by decide +kernel
theorem dL_law_202 : decode code 202 = .ok (.if_icmp .eq 584, 3) := by decide +kernel
theorem dL_law_205 : decode code 205 = .ok (.iconst 0, 1) := by decide +kernel
theorem dL_law_206 : decode code 206 = .ok (.ireturn, 1) := by decide +kernel
theorem dL_law_207 : decode code 207 = .ok (.aload_n 1, 1) := by decide +kernel
theorem dL_law_208 : decode code 208 = .ok (.aload_n 0, 1) := by decide +kernel
theorem dL_law_209 : decode code 209 = .ok (.iload_n 3, 1) := by decide +kernel
theorem dL_law_210 : decode code 210 = .ok (.iconst 1, 1) := by decide +kernel
theorem dL_law_211 : decode code 211 = .ok (.iadd, 1) := by decide +kernel
theorem dL_law_212 : decode code 212 = .ok (.iaload, 1) := by decide +kernel
theorem dL_law_213 : decode code 213 = .ok (.invokevirtual 20, 3) := by decide +kernel
theorem dL_law_216 : decode code 216 = .ok (.aload_n 2, 1) := by decide +kernel
theorem dL_law_217 : decode code 217 = .ok (.aload_n 0, 1) := by decide +kernel
theorem dL_law_218 : decode code 218 = .ok (.iload_n 3, 1) := by decide +kernel
theorem dL_law_219 : decode code 219 = .ok (.iconst 1, 1) := by decide +kernel
theorem dL_law_220 : decode code 220 = .ok (.iadd, 1) := by decide +kernel
theorem dL_law_221 : decode code 221 = .ok (.iaload, 1) := by decide +kernel
theorem dL_law_222 : decode code 222 = .ok (.invokevirtual 24, 3) := by decide +kernel
theorem dL_law_225 : decode code 225 = .ok (.if_icmp .eq 561, 3) := by decide +kernel
theorem dL_law_228 : decode code 228 = .ok (.iconst 0, 1) := by decide +kernel
theorem dL_law_229 : decode code 229 = .ok (.ireturn, 1) := by decide +kernel
theorem dL_law_230 : decode code 230 = .ok (.aload_n 1, 1) := by decide +kernel
theorem dL_law_231 : decode code 231 = .ok (.invokevirtual 25, 3) := by decide +kernel
theorem dL_law_234 : decode code 234 = .ok (.aload_n 2, 1) := by decide +kernel
theorem dL_law_235 : decode code 235 = .ok (.invokevirtual 29, 3) := by decide +kernel
theorem dL_law_238 : decode code 238 = .ok (.if_icmp .eq 548, 3) := by decide +kernel
theorem dL_law_241 : decode code 241 = .ok (.iconst 0, 1) := by decide +kernel
theorem dL_law_242 : decode code 242 = .ok (.ireturn, 1) := by decide +kernel
theorem dL_law_243 : decode code 243 = .ok (.aload_n 1, 1) := by decide +kernel
theorem dL_law_244 : decode code 244 = .ok (.invokevirtual 30, 3) := by decide +kernel
theorem dL_law_247 : decode code 247 = .ok (.aload_n 2, 1) := by decide +kernel
theorem dL_law_248 : decode code 248 = .ok (.invokevirtual 33, 3) := by decide +kernel
theorem dL_law_251 : decode code 251 = .ok (.if_icmp .eq 535, 3) := by decide +kernel
theorem dL_law_254 : decode code 254 = .ok (.iconst 0, 1) := by decide +kernel
theorem dL_law_255 : decode code 255 = .ok (.ireturn, 1) := by decide +kernel
theorem dL_law_256 : decode code 256 = .ok (.aload_n 1, 1) := by decide +kernel
theorem dL_law_257 : decode code 257 = .ok (.aload_n 0, 1) := by decide +kernel
theorem dL_law_258 : decode code 258 = .ok (.iload_n 3, 1) := by decide +kernel
theorem dL_law_259 : decode code 259 = .ok (.iconst 1, 1) := by decide +kernel
theorem dL_law_260 : decode code 260 = .ok (.iadd, 1) := by decide +kernel
theorem dL_law_261 : decode code 261 = .ok (.iaload, 1) := by decide +kernel
theorem dL_law_262 : decode code 262 = .ok (.aload_n 0, 1) := by decide +kernel
theorem dL_law_263 : decode code 263 = .ok (.iload_n 3, 1) := by decide +kernel
theorem dL_law_264 : decode code 264 = .ok (.iconst 2, 1) := by decide +kernel
theorem dL_law_265 : decode code 265 = .ok (.iadd, 1) := by decide +kernel
theorem dL_law_266 : decode code 266 = .ok (.iaload, 1) := by decide +kernel
theorem dL_law_267 : decode code 267 = .ok (.invokevirtual 34, 3) := by decide +kernel
theorem dL_law_270 : decode code 270 = .ok (.aload_n 2, 1) := by decide +kernel
theorem dL_law_271 : decode code 271 = .ok (.aload_n 0, 1) := by decide +kernel
theorem dL_law_272 : decode code 272 = .ok (.iload_n 3, 1) := by decide +kernel
theorem dL_law_273 : decode code 273 = .ok (.iconst 1, 1) := by decide +kernel
theorem dL_law_274 : decode code 274 = .ok (.iadd, 1) := by decide +kernel
theorem dL_law_275 : decode code 275 = .ok (.iaload, 1) := by decide +kernel
theorem dL_law_276 : decode code 276 = .ok (.aload_n 0, 1) := by decide +kernel
theorem dL_law_277 : decode code 277 = .ok (.iload_n 3, 1) := by decide +kernel
theorem dL_law_278 : decode code 278 = .ok (.iconst 2, 1) := by decide +kernel
theorem dL_law_279 : decode code 279 = .ok (.iadd, 1) := by decide +kernel
theorem dL_law_280 : decode code 280 = .ok (.iaload, 1) := by decide +kernel
theorem dL_law_281 : decode code 281 = .ok (.invokevirtual 38, 3) := by decide +kernel
theorem dL_law_284 : decode code 284 = .ok (.if_icmp .eq 502, 3) := by decide +kernel
theorem dL_law_287 : decode code 287 = .ok (.iconst 0, 1) := by decide +kernel
theorem dL_law_288 : decode code 288 = .ok (.ireturn, 1) := by decide +kernel
theorem dL_law_289 : decode code 289 = .ok (.aload_n 1, 1) := by decide +kernel
theorem dL_law_290 : decode code 290 = .ok (.aload_n 0, 1) := by decide +kernel
theorem dL_law_291 : decode code 291 = .ok (.iload_n 3, 1) := by decide +kernel
theorem dL_law_292 : decode code 292 = .ok (.iconst 1, 1) := by decide +kernel
theorem dL_law_293 : decode code 293 = .ok (.iadd, 1) := by decide +kernel
theorem dL_law_294 : decode code 294 = .ok (.iaload, 1) := by decide +kernel
theorem dL_law_295 : decode code 295 = .ok (.invokevirtual 39, 3) := by decide +kernel
theorem dL_law_298 : decode code 298 = .ok (.aload_n 2, 1) := by decide +kernel
theorem dL_law_299 : decode code 299 = .ok (.aload_n 0, 1) := by decide +kernel
theorem dL_law_300 : decode code 300 = .ok (.iload_n 3, 1) := by decide +kernel
theorem dL_law_301 : decode code 301 = .ok (.iconst 1, 1) := by decide +kernel
theorem dL_law_302 : decode code 302 = .ok (.iadd, 1) := by decide +kernel
theorem dL_law_303 : decode code 303 = .ok (.iaload, 1) := by decide +kernel
theorem dL_law_304 : decode code 304 = .ok (.invokevirtual 42, 3) := by decide +kernel
theorem dL_law_307 : decode code 307 = .ok (.if_icmp .eq 479, 3) := by decide +kernel
theorem dL_law_310 : decode code 310 = .ok (.iconst 0, 1) := by decide +kernel
theorem dL_law_311 : decode code 311 = .ok (.ireturn, 1) := by decide +kernel
theorem dL_law_312 : decode code 312 = .ok (.aload_n 1, 1) := by decide +kernel
theorem dL_law_313 : decode code 313 = .ok (.aload_n 0, 1) := by decide +kernel
theorem dL_law_314 : decode code 314 = .ok (.iload_n 3, 1) := by decide +kernel
theorem dL_law_315 : decode code 315 = .ok (.iconst 1, 1) := by decide +kernel
theorem dL_law_316 : decode code 316 = .ok (.iadd, 1) := by decide +kernel
theorem dL_law_317 : decode code 317 = .ok (.iaload, 1) := by decide +kernel
theorem dL_law_318 : decode code 318 = .ok (.aload_n 0, 1) := by decide +kernel
theorem dL_law_319 : decode code 319 = .ok (.iload_n 3, 1) := by decide +kernel
theorem dL_law_320 : decode code 320 = .ok (.iconst 2, 1) := by decide +kernel
theorem dL_law_321 : decode code 321 = .ok (.iadd, 1) := by decide +kernel
theorem dL_law_322 : decode code 322 = .ok (.iaload, 1) := by decide +kernel
theorem dL_law_323 : decode code 323 = .ok (.aload_n 0, 1) := by decide +kernel
theorem dL_law_324 : decode code 324 = .ok (.iload_n 3, 1) := by decide +kernel
theorem dL_law_325 : decode code 325 = .ok (.iconst 3, 1) := by decide +kernel
theorem dL_law_326 : decode code 326 = .ok (.iadd, 1) := by decide +kernel
theorem dL_law_327 : decode code 327 = .ok (.iaload, 1) := by decide +kernel
theorem dL_law_328 : decode code 328 = .ok (.aload_n 0, 1) := by decide +kernel
theorem dL_law_329 : decode code 329 = .ok (.iload_n 3, 1) := by decide +kernel
theorem dL_law_330 : decode code 330 = .ok (.iconst 4, 1) := by decide +kernel
theorem dL_law_331 : decode code 331 = .ok (.iadd, 1) := by decide +kernel
theorem dL_law_332 : decode code 332 = .ok (.iaload, 1) := by decide +kernel
theorem dL_law_333 : decode code 333 = .ok (.invokevirtual 43, 3) := by decide +kernel
theorem dL_law_336 : decode code 336 = .ok (.aload_n 2, 1) := by decide +kernel
theorem dL_law_337 : decode code 337 = .ok (.aload_n 0, 1) := by decide +kernel
theorem dL_law_338 : decode code 338 = .ok (.iload_n 3, 1) := by decide +kernel
theorem dL_law_339 : decode code 339 = .ok (.iconst 1, 1) := by decide +kernel
theorem dL_law_340 : decode code 340 = .ok (.iadd, 1) := by decide +kernel
theorem dL_law_341 : decode code 341 = .ok (.iaload, 1) := by decide +kernel
theorem dL_law_342 : decode code 342 = .ok (.aload_n 0, 1) := by decide +kernel
theorem dL_law_343 : decode code 343 = .ok (.iload_n 3, 1) := by decide +kernel
theorem dL_law_344 : decode code 344 = .ok (.iconst 2, 1) := by decide +kernel
theorem dL_law_345 : decode code 345 = .ok (.iadd, 1) := by decide +kernel
theorem dL_law_346 : decode code 346 = .ok (.iaload, 1) := by decide +kernel
theorem dL_law_347 : decode code 347 = .ok (.aload_n 0, 1) := by decide +kernel
theorem dL_law_348 : decode code 348 = .ok (.iload_n 3, 1) := by decide +kernel
theorem dL_law_349 : decode code 349 = .ok (.iconst 3, 1) := by decide +kernel
theorem dL_law_350 : decode code 350 = .ok (.iadd, 1) := by decide +kernel
theorem dL_law_351 : decode code 351 = .ok (.iaload, 1) := by decide +kernel
theorem dL_law_352 : decode code 352 = .ok (.aload_n 0, 1) := by decide +kernel
theorem dL_law_353 : decode code 353 = .ok (.iload_n 3, 1) := by decide +kernel
theorem dL_law_354 : decode code 354 = .ok (.iconst 4, 1) := by decide +kernel
theorem dL_law_355 : decode code 355 = .ok (.iadd, 1) := by decide +kernel
theorem dL_law_356 : decode code 356 = .ok (.iaload, 1) := by decide +kernel
theorem dL_law_357 : decode code 357 = .ok (.invokevirtual 47, 3) := by decide +kernel
theorem dL_law_360 : decode code 360 = .ok (.if_icmp .eq 426, 3) := by decide +kernel
theorem dL_law_363 : decode code 363 = .ok (.iconst 0, 1) := by decide +kernel
theorem dL_law_364 : decode code 364 = .ok (.ireturn, 1) := by decide +kernel
theorem dL_law_365 : decode code 365 = .ok (.aload_n 1, 1) := by decide +kernel
theorem dL_law_366 : decode code 366 = .ok (.aload_n 0, 1) := by decide +kernel
theorem dL_law_367 : decode code 367 = .ok (.iload_n 3, 1) := by decide +kernel
theorem dL_law_368 : decode code 368 = .ok (.iconst 1, 1) := by decide +kernel
theorem dL_law_369 : decode code 369 = .ok (.iadd, 1) := by decide +kernel
theorem dL_law_370 : decode code 370 = .ok (.iaload, 1) := by decide +kernel
theorem dL_law_371 : decode code 371 = .ok (.invokevirtual 48, 3) := by decide +kernel
theorem dL_law_374 : decode code 374 = .ok (.aload_n 2, 1) := by decide +kernel
theorem dL_law_375 : decode code 375 = .ok (.aload_n 0, 1) := by decide +kernel
theorem dL_law_376 : decode code 376 = .ok (.iload_n 3, 1) := by decide +kernel
theorem dL_law_377 : decode code 377 = .ok (.iconst 1, 1) := by decide +kernel
theorem dL_law_378 : decode code 378 = .ok (.iadd, 1) := by decide +kernel
theorem dL_law_379 : decode code 379 = .ok (.iaload, 1) := by decide +kernel
theorem dL_law_380 : decode code 380 = .ok (.invokevirtual 51, 3) := by decide +kernel
theorem dL_law_383 : decode code 383 = .ok (.if_icmp .eq 403, 3) := by decide +kernel
theorem dL_law_386 : decode code 386 = .ok (.iconst 0, 1) := by decide +kernel
theorem dL_law_387 : decode code 387 = .ok (.ireturn, 1) := by decide +kernel
theorem dL_law_388 : decode code 388 = .ok (.aload_n 1, 1) := by decide +kernel
theorem dL_law_389 : decode code 389 = .ok (.aload_n 0, 1) := by decide +kernel
theorem dL_law_390 : decode code 390 = .ok (.iload_n 3, 1) := by decide +kernel
theorem dL_law_391 : decode code 391 = .ok (.iconst 1, 1) := by decide +kernel
theorem dL_law_392 : decode code 392 = .ok (.iadd, 1) := by decide +kernel
theorem dL_law_393 : decode code 393 = .ok (.iaload, 1) := by decide +kernel
theorem dL_law_394 : decode code 394 = .ok (.invokevirtual 52, 3) := by decide +kernel
theorem dL_law_397 : decode code 397 = .ok (.aload_n 2, 1) := by decide +kernel
theorem dL_law_398 : decode code 398 = .ok (.aload_n 0, 1) := by decide +kernel
theorem dL_law_399 : decode code 399 = .ok (.iload_n 3, 1) := by decide +kernel
theorem dL_law_400 : decode code 400 = .ok (.iconst 1, 1) := by decide +kernel
theorem dL_law_401 : decode code 401 = .ok (.iadd, 1) := by decide +kernel
theorem dL_law_402 : decode code 402 = .ok (.iaload, 1) := by decide +kernel
theorem dL_law_403 : decode code 403 = .ok (.invokevirtual 55, 3) := by decide +kernel
theorem dL_law_406 : decode code 406 = .ok (.if_icmp .eq 380, 3) := by decide +kernel
theorem dL_law_409 : decode code 409 = .ok (.iconst 0, 1) := by decide +kernel
theorem dL_law_410 : decode code 410 = .ok (.ireturn, 1) := by decide +kernel
theorem dL_law_411 : decode code 411 = .ok (.aload_n 1, 1) := by decide +kernel
theorem dL_law_412 : decode code 412 = .ok (.invokevirtual 56, 3) := by decide +kernel
theorem dL_law_415 : decode code 415 = .ok (.aload_n 2, 1) := by decide +kernel
theorem dL_law_416 : decode code 416 = .ok (.invokevirtual 59, 3) := by decide +kernel
theorem dL_law_419 : decode code 419 = .ok (.if_icmp .eq 367, 3) := by decide +kernel
theorem dL_law_422 : decode code 422 = .ok (.iconst 0, 1) := by decide +kernel
theorem dL_law_423 : decode code 423 = .ok (.ireturn, 1) := by decide +kernel
theorem dL_law_424 : decode code 424 = .ok (.aload_n 1, 1) := by decide +kernel
theorem dL_law_425 : decode code 425 = .ok (.aload_n 0, 1) := by decide +kernel
theorem dL_law_426 : decode code 426 = .ok (.iload_n 3, 1) := by decide +kernel
theorem dL_law_427 : decode code 427 = .ok (.iconst 1, 1) := by decide +kernel
theorem dL_law_428 : decode code 428 = .ok (.iadd, 1) := by decide +kernel
theorem dL_law_429 : decode code 429 = .ok (.iaload, 1) := by decide +kernel
theorem dL_law_430 : decode code 430 = .ok (.aload_n 0, 1) := by decide +kernel
theorem dL_law_431 : decode code 431 = .ok (.iload_n 3, 1) := by decide +kernel
theorem dL_law_432 : decode code 432 = .ok (.iconst 2, 1) := by decide +kernel
theorem dL_law_433 : decode code 433 = .ok (.iadd, 1) := by decide +kernel
theorem dL_law_434 : decode code 434 = .ok (.iaload, 1) := by decide +kernel
theorem dL_law_435 : decode code 435 = .ok (.invokevirtual 60, 3) := by decide +kernel
theorem dL_law_438 : decode code 438 = .ok (.aload_n 2, 1) := by decide +kernel
theorem dL_law_439 : decode code 439 = .ok (.aload_n 0, 1) := by decide +kernel
theorem dL_law_440 : decode code 440 = .ok (.iload_n 3, 1) := by decide +kernel
theorem dL_law_441 : decode code 441 = .ok (.iconst 1, 1) := by decide +kernel
theorem dL_law_442 : decode code 442 = .ok (.iadd, 1) := by decide +kernel
theorem dL_law_443 : decode code 443 = .ok (.iaload, 1) := by decide +kernel
theorem dL_law_444 : decode code 444 = .ok (.aload_n 0, 1) := by decide +kernel
theorem dL_law_445 : decode code 445 = .ok (.iload_n 3, 1) := by decide +kernel
theorem dL_law_446 : decode code 446 = .ok (.iconst 2, 1) := by decide +kernel
theorem dL_law_447 : decode code 447 = .ok (.iadd, 1) := by decide +kernel
theorem dL_law_448 : decode code 448 = .ok (.iaload, 1) := by decide +kernel
theorem dL_law_449 : decode code 449 = .ok (.invokevirtual 63, 3) := by decide +kernel
theorem dL_law_452 : decode code 452 = .ok (.if_icmp .eq 334, 3) := by decide +kernel
theorem dL_law_455 : decode code 455 = .ok (.iconst 0, 1) := by decide +kernel
theorem dL_law_456 : decode code 456 = .ok (.ireturn, 1) := by decide +kernel
theorem dL_law_457 : decode code 457 = .ok (.aload_n 1, 1) := by decide +kernel
theorem dL_law_458 : decode code 458 = .ok (.aload_n 0, 1) := by decide +kernel
theorem dL_law_459 : decode code 459 = .ok (.iload_n 3, 1) := by decide +kernel
theorem dL_law_460 : decode code 460 = .ok (.iconst 1, 1) := by decide +kernel
theorem dL_law_461 : decode code 461 = .ok (.iadd, 1) := by decide +kernel
theorem dL_law_462 : decode code 462 = .ok (.iaload, 1) := by decide +kernel
theorem dL_law_463 : decode code 463 = .ok (.invokevirtual 64, 3) := by decide +kernel
theorem dL_law_466 : decode code 466 = .ok (.aload_n 2, 1) := by decide +kernel
theorem dL_law_467 : decode code 467 = .ok (.aload_n 0, 1) := by decide +kernel
theorem dL_law_468 : decode code 468 = .ok (.iload_n 3, 1) := by decide +kernel
theorem dL_law_469 : decode code 469 = .ok (.iconst 1, 1) := by decide +kernel
theorem dL_law_470 : decode code 470 = .ok (.iadd, 1) := by decide +kernel
theorem dL_law_471 : decode code 471 = .ok (.iaload, 1) := by decide +kernel
theorem dL_law_472 : decode code 472 = .ok (.invokevirtual 67, 3) := by decide +kernel
theorem dL_law_475 : decode code 475 = .ok (.if_icmp .eq 311, 3) := by decide +kernel
theorem dL_law_478 : decode code 478 = .ok (.iconst 0, 1) := by decide +kernel
theorem dL_law_479 : decode code 479 = .ok (.ireturn, 1) := by decide +kernel
theorem dL_law_480 : decode code 480 = .ok (.aload_n 1, 1) := by decide +kernel
theorem dL_law_481 : decode code 481 = .ok (.aload_n 0, 1) := by decide +kernel
theorem dL_law_482 : decode code 482 = .ok (.iload_n 3, 1) := by decide +kernel
theorem dL_law_483 : decode code 483 = .ok (.iconst 1, 1) := by decide +kernel
theorem dL_law_484 : decode code 484 = .ok (.iadd, 1) := by decide +kernel
theorem dL_law_485 : decode code 485 = .ok (.iaload, 1) := by decide +kernel
theorem dL_law_486 : decode code 486 = .ok (.invokevirtual 68, 3) := by decide +kernel
theorem dL_law_489 : decode code 489 = .ok (.aload_n 2, 1) := by decide +kernel
theorem dL_law_490 : decode code 490 = .ok (.aload_n 0, 1) := by decide +kernel
theorem dL_law_491 : decode code 491 = .ok (.iload_n 3, 1) := by decide +kernel
theorem dL_law_492 : decode code 492 = .ok (.iconst 1, 1) := by decide +kernel
theorem dL_law_493 : decode code 493 = .ok (.iadd, 1) := by decide +kernel
theorem dL_law_494 : decode code 494 = .ok (.iaload, 1) := by decide +kernel
theorem dL_law_495 : decode code 495 = .ok (.invokevirtual 71, 3) := by decide +kernel
theorem dL_law_498 : decode code 498 = .ok (.if_icmp .eq 288, 3) := by decide +kernel
theorem dL_law_501 : decode code 501 = .ok (.iconst 0, 1) := by decide +kernel
theorem dL_law_502 : decode code 502 = .ok (.ireturn, 1) := by decide +kernel
theorem dL_law_503 : decode code 503 = .ok (.aload_n 1, 1) := by decide +kernel
theorem dL_law_504 : decode code 504 = .ok (.aload_n 0, 1) := by decide +kernel
theorem dL_law_505 : decode code 505 = .ok (.iload_n 3, 1) := by decide +kernel
theorem dL_law_506 : decode code 506 = .ok (.iconst 1, 1) := by decide +kernel
theorem dL_law_507 : decode code 507 = .ok (.iadd, 1) := by decide +kernel
theorem dL_law_508 : decode code 508 = .ok (.iaload, 1) := by decide +kernel
theorem dL_law_509 : decode code 509 = .ok (.invokevirtual 72, 3) := by decide +kernel
theorem dL_law_512 : decode code 512 = .ok (.aload_n 2, 1) := by decide +kernel
theorem dL_law_513 : decode code 513 = .ok (.aload_n 0, 1) := by decide +kernel
theorem dL_law_514 : decode code 514 = .ok (.iload_n 3, 1) := by decide +kernel
theorem dL_law_515 : decode code 515 = .ok (.iconst 1, 1) := by decide +kernel
theorem dL_law_516 : decode code 516 = .ok (.iadd, 1) := by decide +kernel
theorem dL_law_517 : decode code 517 = .ok (.iaload, 1) := by decide +kernel
theorem dL_law_518 : decode code 518 = .ok (.invokevirtual 75, 3) := by decide +kernel
theorem dL_law_521 : decode code 521 = .ok (.if_icmp .eq 265, 3) := by decide +kernel
theorem dL_law_524 : decode code 524 = .ok (.iconst 0, 1) := by decide +kernel
theorem dL_law_525 : decode code 525 = .ok (.ireturn, 1) := by decide +kernel
theorem dL_law_526 : decode code 526 = .ok (.aload_n 1, 1) := by decide +kernel
theorem dL_law_527 : decode code 527 = .ok (.aload_n 0, 1) := by decide +kernel
theorem dL_law_528 : decode code 528 = .ok (.iload_n 3, 1) := by decide +kernel
theorem dL_law_529 : decode code 529 = .ok (.iconst 1, 1) := by decide +kernel
theorem dL_law_530 : decode code 530 = .ok (.iadd, 1) := by decide +kernel
theorem dL_law_531 : decode code 531 = .ok (.iaload, 1) := by decide +kernel
theorem dL_law_532 : decode code 532 = .ok (.aload_n 0, 1) := by decide +kernel
theorem dL_law_533 : decode code 533 = .ok (.iload_n 3, 1) := by decide +kernel
theorem dL_law_534 : decode code 534 = .ok (.iconst 2, 1) := by decide +kernel
theorem dL_law_535 : decode code 535 = .ok (.iadd, 1) := by decide +kernel
theorem dL_law_536 : decode code 536 = .ok (.iaload, 1) := by decide +kernel
theorem dL_law_537 : decode code 537 = .ok (.invokevirtual 76, 3) := by decide +kernel
theorem dL_law_540 : decode code 540 = .ok (.aload_n 2, 1) := by decide +kernel
theorem dL_law_541 : decode code 541 = .ok (.aload_n 0, 1) := by decide +kernel
theorem dL_law_542 : decode code 542 = .ok (.iload_n 3, 1) := by decide +kernel
theorem dL_law_543 : decode code 543 = .ok (.iconst 1, 1) := by decide +kernel
theorem dL_law_544 : decode code 544 = .ok (.iadd, 1) := by decide +kernel
theorem dL_law_545 : decode code 545 = .ok (.iaload, 1) := by decide +kernel
theorem dL_law_546 : decode code 546 = .ok (.aload_n 0, 1) := by decide +kernel
theorem dL_law_547 : decode code 547 = .ok (.iload_n 3, 1) := by decide +kernel
theorem dL_law_548 : decode code 548 = .ok (.iconst 2, 1) := by decide +kernel
theorem dL_law_549 : decode code 549 = .ok (.iadd, 1) := by decide +kernel
theorem dL_law_550 : decode code 550 = .ok (.iaload, 1) := by decide +kernel
theorem dL_law_551 : decode code 551 = .ok (.invokevirtual 79, 3) := by decide +kernel
theorem dL_law_554 : decode code 554 = .ok (.if_icmp .eq 232, 3) := by decide +kernel
theorem dL_law_557 : decode code 557 = .ok (.iconst 0, 1) := by decide +kernel
theorem dL_law_558 : decode code 558 = .ok (.ireturn, 1) := by decide +kernel
theorem dL_law_559 : decode code 559 = .ok (.aload_n 1, 1) := by decide +kernel
theorem dL_law_560 : decode code 560 = .ok (.aload_n 0, 1) := by decide +kernel
theorem dL_law_561 : decode code 561 = .ok (.iload_n 3, 1) := by decide +kernel
theorem dL_law_562 : decode code 562 = .ok (.iconst 1, 1) := by decide +kernel
theorem dL_law_563 : decode code 563 = .ok (.iadd, 1) := by decide +kernel
theorem dL_law_564 : decode code 564 = .ok (.iaload, 1) := by decide +kernel
theorem dL_law_565 : decode code 565 = .ok (.aload_n 0, 1) := by decide +kernel
theorem dL_law_566 : decode code 566 = .ok (.iload_n 3, 1) := by decide +kernel
theorem dL_law_567 : decode code 567 = .ok (.iconst 2, 1) := by decide +kernel
theorem dL_law_568 : decode code 568 = .ok (.iadd, 1) := by decide +kernel
theorem dL_law_569 : decode code 569 = .ok (.iaload, 1) := by decide +kernel
theorem dL_law_570 : decode code 570 = .ok (.invokevirtual 80, 3) := by decide +kernel
theorem dL_law_573 : decode code 573 = .ok (.aload_n 2, 1) := by decide +kernel
theorem dL_law_574 : decode code 574 = .ok (.aload_n 0, 1) := by decide +kernel
theorem dL_law_575 : decode code 575 = .ok (.iload_n 3, 1) := by decide +kernel
theorem dL_law_576 : decode code 576 = .ok (.iconst 1, 1) := by decide +kernel
theorem dL_law_577 : decode code 577 = .ok (.iadd, 1) := by decide +kernel
theorem dL_law_578 : decode code 578 = .ok (.iaload, 1) := by decide +kernel
theorem dL_law_579 : decode code 579 = .ok (.aload_n 0, 1) := by decide +kernel
theorem dL_law_580 : decode code 580 = .ok (.iload_n 3, 1) := by decide +kernel
theorem dL_law_581 : decode code 581 = .ok (.iconst 2, 1) := by decide +kernel
theorem dL_law_582 : decode code 582 = .ok (.iadd, 1) := by decide +kernel
theorem dL_law_583 : decode code 583 = .ok (.iaload, 1) := by decide +kernel
theorem dL_law_584 : decode code 584 = .ok (.invokevirtual 83, 3) := by decide +kernel
theorem dL_law_587 : decode code 587 = .ok (.if_icmp .eq 199, 3) := by decide +kernel
theorem dL_law_590 : decode code 590 = .ok (.iconst 0, 1) := by decide +kernel
theorem dL_law_591 : decode code 591 = .ok (.ireturn, 1) := by decide +kernel
theorem dL_law_592 : decode code 592 = .ok (.aload_n 1, 1) := by decide +kernel
theorem dL_law_593 : decode code 593 = .ok (.invokevirtual 84, 3) := by decide +kernel
theorem dL_law_596 : decode code 596 = .ok (.aload_n 2, 1) := by decide +kernel
theorem dL_law_597 : decode code 597 = .ok (.invokevirtual 87, 3) := by decide +kernel
theorem dL_law_600 : decode code 600 = .ok (.if_icmp .eq 186, 3) := by decide +kernel
theorem dL_law_603 : decode code 603 = .ok (.iconst 0, 1) := by decide +kernel
theorem dL_law_604 : decode code 604 = .ok (.ireturn, 1) := by decide +kernel
theorem dL_law_605 : decode code 605 = .ok (.aload_n 1, 1) := by decide +kernel
theorem dL_law_606 : decode code 606 = .ok (.invokevirtual 88, 3) := by decide +kernel
theorem dL_law_609 : decode code 609 = .ok (.aload_n 2, 1) := by decide +kernel
theorem dL_law_610 : decode code 610 = .ok (.invokevirtual 91, 3) := by decide +kernel
theorem dL_law_613 : decode code 613 = .ok (.if_icmp .eq 173, 3) := by decide +kernel
theorem dL_law_616 : decode code 616 = .ok (.iconst 0, 1) := by decide +kernel
theorem dL_law_617 : decode code 617 = .ok (.ireturn, 1) := by decide +kernel
theorem dL_law_618 : decode code 618 = .ok (.aload_n 1, 1) := by decide +kernel
theorem dL_law_619 : decode code 619 = .ok (.invokevirtual 92, 3) := by decide +kernel
theorem dL_law_622 : decode code 622 = .ok (.aload_n 2, 1) := by decide +kernel
theorem dL_law_623 : decode code 623 = .ok (.invokevirtual 95, 3) := by decide +kernel
theorem dL_law_626 : decode code 626 = .ok (.if_icmp .eq 160, 3) := by decide +kernel
theorem dL_law_629 : decode code 629 = .ok (.iconst 0, 1) := by decide +kernel
theorem dL_law_630 : decode code 630 = .ok (.ireturn, 1) := by decide +kernel
theorem dL_law_631 : decode code 631 = .ok (.aload_n 1, 1) := by decide +kernel
theorem dL_law_632 : decode code 632 = .ok (.aload_n 0, 1) := by decide +kernel
theorem dL_law_633 : decode code 633 = .ok (.iload_n 3, 1) := by decide +kernel
theorem dL_law_634 : decode code 634 = .ok (.iconst 1, 1) := by decide +kernel
theorem dL_law_635 : decode code 635 = .ok (.iadd, 1) := by decide +kernel
theorem dL_law_636 : decode code 636 = .ok (.iaload, 1) := by decide +kernel
theorem dL_law_637 : decode code 637 = .ok (.invokevirtual 96, 3) := by decide +kernel
theorem dL_law_640 : decode code 640 = .ok (.aload_n 2, 1) := by decide +kernel
theorem dL_law_641 : decode code 641 = .ok (.aload_n 0, 1) := by decide +kernel
theorem dL_law_642 : decode code 642 = .ok (.iload_n 3, 1) := by decide +kernel
theorem dL_law_643 : decode code 643 = .ok (.iconst 1, 1) := by decide +kernel
theorem dL_law_644 : decode code 644 = .ok (.iadd, 1) := by decide +kernel
theorem dL_law_645 : decode code 645 = .ok (.iaload, 1) := by decide +kernel
theorem dL_law_646 : decode code 646 = .ok (.invokevirtual 99, 3) := by decide +kernel
theorem dL_law_649 : decode code 649 = .ok (.if_icmp .eq 137, 3) := by decide +kernel
theorem dL_law_652 : decode code 652 = .ok (.iconst 0, 1) := by decide +kernel
theorem dL_law_653 : decode code 653 = .ok (.ireturn, 1) := by decide +kernel
theorem dL_law_654 : decode code 654 = .ok (.aload_n 1, 1) := by decide +kernel
theorem dL_law_655 : decode code 655 = .ok (.aload_n 0, 1) := by decide +kernel
theorem dL_law_656 : decode code 656 = .ok (.iload_n 3, 1) := by decide +kernel
theorem dL_law_657 : decode code 657 = .ok (.iconst 1, 1) := by decide +kernel
theorem dL_law_658 : decode code 658 = .ok (.iadd, 1) := by decide +kernel
theorem dL_law_659 : decode code 659 = .ok (.iaload, 1) := by decide +kernel
theorem dL_law_660 : decode code 660 = .ok (.aload_n 0, 1) := by decide +kernel
theorem dL_law_661 : decode code 661 = .ok (.iload_n 3, 1) := by decide +kernel
theorem dL_law_662 : decode code 662 = .ok (.iconst 2, 1) := by decide +kernel
theorem dL_law_663 : decode code 663 = .ok (.iadd, 1) := by decide +kernel
theorem dL_law_664 : decode code 664 = .ok (.iaload, 1) := by decide +kernel
theorem dL_law_665 : decode code 665 = .ok (.invokevirtual 100, 3) := by decide +kernel
theorem dL_law_668 : decode code 668 = .ok (.aload_n 2, 1) := by decide +kernel
theorem dL_law_669 : decode code 669 = .ok (.aload_n 0, 1) := by decide +kernel
theorem dL_law_670 : decode code 670 = .ok (.iload_n 3, 1) := by decide +kernel
theorem dL_law_671 : decode code 671 = .ok (.iconst 1, 1) := by decide +kernel
theorem dL_law_672 : decode code 672 = .ok (.iadd, 1) := by decide +kernel
theorem dL_law_673 : decode code 673 = .ok (.iaload, 1) := by decide +kernel
theorem dL_law_674 : decode code 674 = .ok (.aload_n 0, 1) := by decide +kernel
theorem dL_law_675 : decode code 675 = .ok (.iload_n 3, 1) := by decide +kernel
theorem dL_law_676 : decode code 676 = .ok (.iconst 2, 1) := by decide +kernel
theorem dL_law_677 : decode code 677 = .ok (.iadd, 1) := by decide +kernel
theorem dL_law_678 : decode code 678 = .ok (.iaload, 1) := by decide +kernel
theorem dL_law_679 : decode code 679 = .ok (.invokevirtual 103, 3) := by decide +kernel
theorem dL_law_682 : decode code 682 = .ok (.if_icmp .eq 104, 3) := by decide +kernel
theorem dL_law_685 : decode code 685 = .ok (.iconst 0, 1) := by decide +kernel
theorem dL_law_686 : decode code 686 = .ok (.ireturn, 1) := by decide +kernel
theorem dL_law_687 : decode code 687 = .ok (.aload_n 1, 1) := by decide +kernel
theorem dL_law_688 : decode code 688 = .ok (.aload_n 0, 1) := by decide +kernel
theorem dL_law_689 : decode code 689 = .ok (.iload_n 3, 1) := by decide +kernel
theorem dL_law_690 : decode code 690 = .ok (.iconst 1, 1) := by decide +kernel
theorem dL_law_691 : decode code 691 = .ok (.iadd, 1) := by decide +kernel
theorem dL_law_692 : decode code 692 = .ok (.iaload, 1) := by decide +kernel
theorem dL_law_693 : decode code 693 = .ok (.aload_n 0, 1) := by decide +kernel
theorem dL_law_694 : decode code 694 = .ok (.iload_n 3, 1) := by decide +kernel
theorem dL_law_695 : decode code 695 = .ok (.iconst 2, 1) := by decide +kernel
theorem dL_law_696 : decode code 696 = .ok (.iadd, 1) := by decide +kernel
theorem dL_law_697 : decode code 697 = .ok (.iaload, 1) := by decide +kernel
theorem dL_law_698 : decode code 698 = .ok (.aload_n 0, 1) := by decide +kernel
theorem dL_law_699 : decode code 699 = .ok (.iload_n 3, 1) := by decide +kernel
theorem dL_law_700 : decode code 700 = .ok (.iconst 3, 1) := by decide +kernel
theorem dL_law_701 : decode code 701 = .ok (.iadd, 1) := by decide +kernel
theorem dL_law_702 : decode code 702 = .ok (.iaload, 1) := by decide +kernel
theorem dL_law_703 : decode code 703 = .ok (.invokevirtual 104, 3) := by decide +kernel
theorem dL_law_706 : decode code 706 = .ok (.aload_n 2, 1) := by decide +kernel
theorem dL_law_707 : decode code 707 = .ok (.aload_n 0, 1) := by decide +kernel
theorem dL_law_708 : decode code 708 = .ok (.iload_n 3, 1) := by decide +kernel
theorem dL_law_709 : decode code 709 = .ok (.iconst 1, 1) := by decide +kernel
theorem dL_law_710 : decode code 710 = .ok (.iadd, 1) := by decide +kernel
theorem dL_law_711 : decode code 711 = .ok (.iaload, 1) := by decide +kernel
theorem dL_law_712 : decode code 712 = .ok (.aload_n 0, 1) := by decide +kernel
theorem dL_law_713 : decode code 713 = .ok (.iload_n 3, 1) := by decide +kernel
theorem dL_law_714 : decode code 714 = .ok (.iconst 2, 1) := by decide +kernel
theorem dL_law_715 : decode code 715 = .ok (.iadd, 1) := by decide +kernel
theorem dL_law_716 : decode code 716 = .ok (.iaload, 1) := by decide +kernel
theorem dL_law_717 : decode code 717 = .ok (.aload_n 0, 1) := by decide +kernel
theorem dL_law_718 : decode code 718 = .ok (.iload_n 3, 1) := by decide +kernel
theorem dL_law_719 : decode code 719 = .ok (.iconst 3, 1) := by decide +kernel
theorem dL_law_720 : decode code 720 = .ok (.iadd, 1) := by decide +kernel
theorem dL_law_721 : decode code 721 = .ok (.iaload, 1) := by decide +kernel
theorem dL_law_722 : decode code 722 = .ok (.invokevirtual 108, 3) := by decide +kernel
theorem dL_law_725 : decode code 725 = .ok (.if_icmp .eq 61, 3) := by decide +kernel
theorem dL_law_728 : decode code 728 = .ok (.iconst 0, 1) := by decide +kernel
theorem dL_law_729 : decode code 729 = .ok (.ireturn, 1) := by decide +kernel
theorem dL_law_730 : decode code 730 = .ok (.aload_n 1, 1) := by decide +kernel
theorem dL_law_731 : decode code 731 = .ok (.aload_n 0, 1) := by decide +kernel
theorem dL_law_732 : decode code 732 = .ok (.iload_n 3, 1) := by decide +kernel
theorem dL_law_733 : decode code 733 = .ok (.iconst 1, 1) := by decide +kernel
theorem dL_law_734 : decode code 734 = .ok (.iadd, 1) := by decide +kernel
theorem dL_law_735 : decode code 735 = .ok (.iaload, 1) := by decide +kernel
theorem dL_law_736 : decode code 736 = .ok (.aload_n 0, 1) := by decide +kernel
theorem dL_law_737 : decode code 737 = .ok (.iload_n 3, 1) := by decide +kernel
theorem dL_law_738 : decode code 738 = .ok (.iconst 2, 1) := by decide +kernel
theorem dL_law_739 : decode code 739 = .ok (.iadd, 1) := by decide +kernel
theorem dL_law_740 : decode code 740 = .ok (.iaload, 1) := by decide +kernel
theorem dL_law_741 : decode code 741 = .ok (.aload_n 0, 1) := by decide +kernel
theorem dL_law_742 : decode code 742 = .ok (.iload_n 3, 1) := by decide +kernel
theorem dL_law_743 : decode code 743 = .ok (.iconst 3, 1) := by decide +kernel
theorem dL_law_744 : decode code 744 = .ok (.iadd, 1) := by decide +kernel
theorem dL_law_745 : decode code 745 = .ok (.iaload, 1) := by decide +kernel
theorem dL_law_746 : decode code 746 = .ok (.invokevirtual 109, 3) := by decide +kernel
theorem dL_law_749 : decode code 749 = .ok (.aload_n 2, 1) := by decide +kernel
theorem dL_law_750 : decode code 750 = .ok (.aload_n 0, 1) := by decide +kernel
theorem dL_law_751 : decode code 751 = .ok (.iload_n 3, 1) := by decide +kernel
theorem dL_law_752 : decode code 752 = .ok (.iconst 1, 1) := by decide +kernel
theorem dL_law_753 : decode code 753 = .ok (.iadd, 1) := by decide +kernel
theorem dL_law_754 : decode code 754 = .ok (.iaload, 1) := by decide +kernel
theorem dL_law_755 : decode code 755 = .ok (.aload_n 0, 1) := by decide +kernel
theorem dL_law_756 : decode code 756 = .ok (.iload_n 3, 1) := by decide +kernel
theorem dL_law_757 : decode code 757 = .ok (.iconst 2, 1) := by decide +kernel
theorem dL_law_758 : decode code 758 = .ok (.iadd, 1) := by decide +kernel
theorem dL_law_759 : decode code 759 = .ok (.iaload, 1) := by decide +kernel
theorem dL_law_760 : decode code 760 = .ok (.aload_n 0, 1) := by decide +kernel
theorem dL_law_761 : decode code 761 = .ok (.iload_n 3, 1) := by decide +kernel
theorem dL_law_762 : decode code 762 = .ok (.iconst 3, 1) := by decide +kernel
theorem dL_law_763 : decode code 763 = .ok (.iadd, 1) := by decide +kernel
theorem dL_law_764 : decode code 764 = .ok (.iaload, 1) := by decide +kernel
theorem dL_law_765 : decode code 765 = .ok (.invokevirtual 112, 3) := by decide +kernel
theorem dL_law_768 : decode code 768 = .ok (.if_icmp .eq 18, 3) := by decide +kernel
theorem dL_law_771 : decode code 771 = .ok (.iconst 0, 1) := by decide +kernel
theorem dL_law_772 : decode code 772 = .ok (.ireturn, 1) := by decide +kernel
theorem dL_law_773 : decode code 773 = .ok (.aload_n 1, 1) := by decide +kernel
theorem dL_law_774 : decode code 774 = .ok (.invokevirtual 113, 3) := by decide +kernel
theorem dL_law_777 : decode code 777 = .ok (.aload_n 2, 1) := by decide +kernel
theorem dL_law_778 : decode code 778 = .ok (.invokevirtual 116, 3) := by decide +kernel
theorem dL_law_781 : decode code 781 = .ok (.if_icmp .eq 5, 3) := by decide +kernel
theorem dL_law_784 : decode code 784 = .ok (.iconst 0, 1) := by decide +kernel
theorem dL_law_785 : decode code 785 = .ok (.ireturn, 1) := by decide +kernel
theorem dL_law_786 : decode code 786 = .ok (.iinc 3 5, 3) := by decide +kernel
theorem dL_law_789 : decode code 789 = .ok (.goto (-771), 3) := by decide +kernel
theorem dL_law_792 : decode code 792 = .ok (.iconst 1, 1) := by decide +kernel
theorem dL_law_793 : decode code 793 = .ok (.ireturn, 1) := by decide +kernel
theorem j_Law_law_792 {L : Nat} {xs : Nat → Int32}  {h : xH} {r0 : Int} {h0 : xH} (hL : L ≤ 2560)  (hf : f_Law_law_792 L xs h = some (r0, h0))  : J (mL_law L xs) true 0 0 792 xKn [] [] h (xEq (some r0) h0) := by
  unfold f_Law_law_792 at hf
  refine J_iconst dL_law_792 (by decide) ?_
  exact J_iretz dL_law_793 rfl (by decide) (xq_i hf)
theorem j_Law_law_786 {L : Nat} {xs : Nat → Int32} {l3 : Int} {h : xH} {x : ((Int × xH) ⊕ (xH ⊕ (Int × xH)))} {Q : xQ} (hL : L ≤ 2560)  (hf : f_Law_law_786 L xs l3 h = some x) (kb : ∀ (l3' : Int) (h' : xH), x = Sum.inl (l3', h') → J (mL_law L xs) true 0 0 18 xKn [(0, xR (-3)), (1, xR 1), (2, xR 81), (3, xI l3')] [] h' Q) (ke : ∀  (h' : xH), x = (Sum.inr (Sum.inl h')) → J (mL_law L xs) true 0 0 792 xKn [] [] h' Q) (kr : ∀ (v : Int) (h' : xH), x = (Sum.inr (Sum.inr (v, h'))) → Q (some v) xKn h') : J (mL_law L xs) true 0 0 786 xKn [(0, xR (-3)), (1, xR 1), (2, xR 81), (3, xI l3)] [] h Q := by
  unfold f_Law_law_786 at hf
  obtain ⟨x1, ex1, hf⟩ := xlet_e hf
  refine J_iinc (ls' := [(3, xI x1), (0, xR (-3)), (1, xR 1), (2, xR 81)]) 3 dL_law_786 rfl (xbl rfl) ex1 rfl ?_
  refine J_goto (tgt := 18) dL_law_789 (by decide) ?_
  refine J_sub [1, 2, 3, 0] rfl ?_
  exact kb _ _ (xinl hf)
theorem j_Law_law_s18 {L : Nat} {xs : Nat → Int32} {l3 : Int} {h : xH} {x : ((Int × xH) ⊕ (xH ⊕ (Int × xH)))} {Q : xQ} (hL : L ≤ 2560)  (hf : f_Law_law_s18 L xs l3 h = some x) (kb : ∀ (l3' : Int) (h' : xH), x = Sum.inl (l3', h') → J (mL_law L xs) true 0 0 18 xKn [(0, xR (-3)), (1, xR 1), (2, xR 81), (3, xI l3')] [] h' Q) (ke : ∀  (h' : xH), x = (Sum.inr (Sum.inl h')) → J (mL_law L xs) true 0 0 792 xKn [] [] h' Q) (kr : ∀ (v : Int) (h' : xH), x = (Sum.inr (Sum.inr (v, h'))) → Q (some v) xKn h') : J (mL_law L xs) true 0 0 18 xKn [(0, xR (-3)), (1, xR 1), (2, xR 81), (3, xI l3)] [] h Q := by
  unfold f_Law_law_s18 at hf
  refine J_iload_n 3 dL_law_18 rfl rfl ?_
  refine J_aload_n 0 dL_law_19 rfl rfl ?_
  refine J_slen rfl hL dL_law_20 ?_
  refine J_iconst dL_law_21 (by decide) ?_
  refine J_isub dL_law_22 ?_
  refine J_ic_gt (tgt := 792) dL_law_23 (by decide) (fun hc => ?_) (fun hc => ?_)
  · have hf := xip hc hf
    refine J_sub [] rfl ?_
    exact ke _ (xinl hf)
  · have hf := xin' hc hf
    refine J_aload_n 0 dL_law_26 rfl rfl ?_
    refine J_iload_n 3 dL_law_27 rfl rfl ?_
    obtain ⟨hg, hf⟩ := xgd_e hf
    refine J_sald rfl hg dL_law_28 ?_
    refine J_bip dL_law_29 (by decide) ?_
    refine J_iand dL_law_31 ?_
    refine J_by (c := xand ((xs (Int.toNat l3)).toInt) 31 = 0) (fun hc0 => ?_) (fun hc0 => ?_)
    · have hf := xip hc0 hf
      refine J_tswIn (tgt := 144) dL_law_32 0 hc0 (by decide) (by decide) rfl (by decide) ?_
      refine J_aload_n 1 dL_law_144 rfl rfl ?_
      refine J_aload_n 0 dL_law_145 rfl rfl ?_
      refine J_iload_n 3 dL_law_146 rfl rfl ?_
      refine J_iconst dL_law_147 (by decide) ?_
      refine J_iadd dL_law_148 ?_
      obtain ⟨hg, hf⟩ := xgd_e hf
      refine J_sald rfl hg dL_law_149 ?_
      refine J_aload_n 0 dL_law_150 rfl rfl ?_
      refine J_iload_n 3 dL_law_151 rfl rfl ?_
      refine J_iconst dL_law_152 (by decide) ?_
      refine J_iadd dL_law_153 ?_
      obtain ⟨hg, hf⟩ := xgd_e hf
      refine J_sald rfl hg dL_law_154 ?_
      refine J_i2l dL_law_155 ?_
      refine J_bip dL_law_156 (by decide) ?_
      refine J_lshl dL_law_158 ?_
      refine J_aload_n 0 dL_law_159 rfl rfl ?_
      refine J_iload_n 3 dL_law_160 rfl rfl ?_
      refine J_iconst dL_law_161 (by decide) ?_
      refine J_iadd dL_law_162 ?_
      obtain ⟨hg, hf⟩ := xgd_e hf
      refine J_sald rfl hg dL_law_163 ?_
      refine J_i2l dL_law_164 ?_
      refine J_ldc2 dL_law_165 xq1530 ?_
      refine J_land dL_law_168 ?_
      refine J_lor dL_law_169 ?_
      obtain ⟨r1, h2, hq, hf⟩ := xc2_e hf
      refine J_cVi (Mc := mX11_feed) [xI ((xs (Int.toNat (w32 (l3 + 1)))).toInt), xL ((xlshl ((Int32.ofInt ((xs (Int.toNat (w32 (l3 + 2)))).toInt)).toInt64) 32) ||| ((Int32.ofInt ((xs (Int.toNat (w32 (l3 + 3)))).toInt)).toInt64 &&& (4294967295 : Int64)))] dL_law_170 (fc_WM_feed.fit ⟨xbl rfl, xbl rfl⟩) rfl ⟨Or.inl xq487, xq488, xq489⟩ kO1 (ci := 11) rfl rfl (xbl rfl) (xbl rfl) (jm_WM_feed  hq) ?_
      refine J_aload_n 2 dL_law_173 rfl rfl ?_
      refine J_aload_n 0 dL_law_174 rfl rfl ?_
      refine J_iload_n 3 dL_law_175 rfl rfl ?_
      refine J_iconst dL_law_176 (by decide) ?_
      refine J_iadd dL_law_177 ?_
      obtain ⟨hg, hf⟩ := xgd_e hf
      refine J_sald rfl hg dL_law_178 ?_
      refine J_aload_n 0 dL_law_179 rfl rfl ?_
      refine J_iload_n 3 dL_law_180 rfl rfl ?_
      refine J_iconst dL_law_181 (by decide) ?_
      refine J_iadd dL_law_182 ?_
      obtain ⟨hg, hf⟩ := xgd_e hf
      refine J_sald rfl hg dL_law_183 ?_
      refine J_i2l dL_law_184 ?_
      refine J_bip dL_law_185 (by decide) ?_
      refine J_lshl dL_law_187 ?_
      refine J_aload_n 0 dL_law_188 rfl rfl ?_
      refine J_iload_n 3 dL_law_189 rfl rfl ?_
      refine J_iconst dL_law_190 (by decide) ?_
      refine J_iadd dL_law_191 ?_
      obtain ⟨hg, hf⟩ := xgd_e hf
      refine J_sald rfl hg dL_law_192 ?_
      refine J_i2l dL_law_193 ?_
      refine J_ldc2 dL_law_194 xq1530 ?_
      refine J_land dL_law_197 ?_
      refine J_lor dL_law_198 ?_
      obtain ⟨r3, h4, hq, hf⟩ := xc2_e hf
      refine J_cVi (Mc := mX12_feed) [xI ((xs (Int.toNat (w32 (l3 + 1)))).toInt), xL ((xlshl ((Int32.ofInt ((xs (Int.toNat (w32 (l3 + 2)))).toInt)).toInt64) 32) ||| ((Int32.ofInt ((xs (Int.toNat (w32 (l3 + 3)))).toInt)).toInt64 &&& (4294967295 : Int64)))] dL_law_199 (fc_Md_feed.fit ⟨xbl rfl, xbl rfl⟩) rfl ⟨Or.inl xq1279, xq1280, xq1281⟩ kO81 (ci := 12) rfl rfl (xbl rfl) (xbl rfl) (jm_Md_feed  hq) ?_
      refine J_ic_eq (tgt := 786) dL_law_202 (by decide) (fun hc => ?_) (fun hc => ?_)
      · have hf := xip hc hf
        exact j_Law_law_786 hL  hf kb ke kr
      · have hf := xin' hc hf
        refine J_iconst dL_law_205 (by decide) ?_
        exact J_iretz dL_law_206 rfl (by decide) (kr _ _ (xinl hf))
    · have hf := xin' hc0 hf
      refine J_by (c := xand ((xs (Int.toNat l3)).toInt) 31 = 1) (fun hc1 => ?_) (fun hc1 => ?_)
      · have hf := xip hc1 hf
        refine J_tswIn (tgt := 207) dL_law_32 1 hc1 (by decide) (by decide) rfl (by decide) ?_
        refine J_aload_n 1 dL_law_207 rfl rfl ?_
        refine J_aload_n 0 dL_law_208 rfl rfl ?_
        refine J_iload_n 3 dL_law_209 rfl rfl ?_
        refine J_iconst dL_law_210 (by decide) ?_
        refine J_iadd dL_law_211 ?_
        obtain ⟨hg, hf⟩ := xgd_e hf
        refine J_sald rfl hg dL_law_212 ?_
        obtain ⟨r5, h6, hq, hf⟩ := xc2_e hf
        refine J_cVi (Mc := mX11_add) [xI ((xs (Int.toNat (w32 (l3 + 1)))).toInt)] dL_law_213 (fc_WM_add.fit ⟨xbl rfl, xbl rfl⟩) rfl ⟨Or.inl xq495, xq496, xq497⟩ kO1 (ci := 11) rfl rfl (xbl rfl) (xbl rfl) (jm_WM_add  hq) ?_
        refine J_aload_n 2 dL_law_216 rfl rfl ?_
        refine J_aload_n 0 dL_law_217 rfl rfl ?_
        refine J_iload_n 3 dL_law_218 rfl rfl ?_
        refine J_iconst dL_law_219 (by decide) ?_
        refine J_iadd dL_law_220 ?_
        obtain ⟨hg, hf⟩ := xgd_e hf
        refine J_sald rfl hg dL_law_221 ?_
        obtain ⟨r7, h8, hq, hf⟩ := xc2_e hf
        refine J_cVi (Mc := mX12_add) [xI ((xs (Int.toNat (w32 (l3 + 1)))).toInt)] dL_law_222 (fc_Md_add.fit ⟨xbl rfl, xbl rfl⟩) rfl ⟨Or.inl xq1286, xq1287, xq1288⟩ kO81 (ci := 12) rfl rfl (xbl rfl) (xbl rfl) (jm_Md_add  hq) ?_
        refine J_ic_eq (tgt := 786) dL_law_225 (by decide) (fun hc => ?_) (fun hc => ?_)
        · have hf := xip hc hf
          exact j_Law_law_786 hL  hf kb ke kr
        · have hf := xin' hc hf
          refine J_iconst dL_law_228 (by decide) ?_
          exact J_iretz dL_law_229 rfl (by decide) (kr _ _ (xinl hf))
      · have hf := xin' hc1 hf
        refine J_by (c := xand ((xs (Int.toNat l3)).toInt) 31 = 2) (fun hc2 => ?_) (fun hc2 => ?_)
        · have hf := xip hc2 hf
          refine J_tswIn (tgt := 230) dL_law_32 2 hc2 (by decide) (by decide) rfl (by decide) ?_
          refine J_aload_n 1 dL_law_230 rfl rfl ?_
          obtain ⟨r9, h10, hq, hf⟩ := xc2_e hf
          refine J_cVi (Mc := mX11_drop) [] dL_law_231 (fc_WM_drop.fit ⟨xbl rfl, xbl rfl⟩) rfl ⟨Or.inl xq557, xq558, xq559⟩ kO1 (ci := 11) rfl rfl (xbl rfl) (xbl rfl) (jm_WM_drop  hq) ?_
          refine J_aload_n 2 dL_law_234 rfl rfl ?_
          obtain ⟨r11, h12, hq, hf⟩ := xc2_e hf
          refine J_cVi (Mc := mX12_drop) [] dL_law_235 (fc_Md_drop.fit ⟨xbl rfl, xbl rfl⟩) rfl ⟨Or.inl xq1314, xq1315, xq1316⟩ kO81 (ci := 12) rfl rfl (xbl rfl) (xbl rfl) (jm_Md_drop  hq) ?_
          refine J_ic_eq (tgt := 786) dL_law_238 (by decide) (fun hc => ?_) (fun hc => ?_)
          · have hf := xip hc hf
            exact j_Law_law_786 hL  hf kb ke kr
          · have hf := xin' hc hf
            refine J_iconst dL_law_241 (by decide) ?_
            exact J_iretz dL_law_242 rfl (by decide) (kr _ _ (xinl hf))
        · have hf := xin' hc2 hf
          refine J_by (c := xand ((xs (Int.toNat l3)).toInt) 31 = 3) (fun hc3 => ?_) (fun hc3 => ?_)
          · have hf := xip hc3 hf
            refine J_tswIn (tgt := 243) dL_law_32 3 hc3 (by decide) (by decide) rfl (by decide) ?_
            refine J_aload_n 1 dL_law_243 rfl rfl ?_
            obtain ⟨r13, h14, hq, hf⟩ := xc2_e hf
            refine J_cVi (Mc := mX11_find) [] dL_law_244 (fc_WM_find.fit ⟨xbl rfl, xbl rfl⟩) rfl ⟨Or.inl xq569, xq570, xq571⟩ kO1 (ci := 11) rfl rfl (xbl rfl) (xbl rfl) (jm_WM_find  hq) ?_
            refine J_aload_n 2 dL_law_247 rfl rfl ?_
            obtain ⟨r15, h16, hq, hf⟩ := xc2_e hf
            refine J_cVi (Mc := mX12_find) [] dL_law_248 (fc_Md_find.fit ⟨xbl rfl, xbl rfl⟩) rfl ⟨Or.inl xq1318, xq1319, xq1320⟩ kO81 (ci := 12) rfl rfl (xbl rfl) (xbl rfl) (jm_Md_find  hq) ?_
            refine J_ic_eq (tgt := 786) dL_law_251 (by decide) (fun hc => ?_) (fun hc => ?_)
            · have hf := xip hc hf
              exact j_Law_law_786 hL  hf kb ke kr
            · have hf := xin' hc hf
              refine J_iconst dL_law_254 (by decide) ?_
              exact J_iretz dL_law_255 rfl (by decide) (kr _ _ (xinl hf))
          · have hf := xin' hc3 hf
            refine J_by (c := xand ((xs (Int.toNat l3)).toInt) 31 = 4) (fun hc4 => ?_) (fun hc4 => ?_)
            · have hf := xip hc4 hf
              refine J_tswIn (tgt := 256) dL_law_32 4 hc4 (by decide) (by decide) rfl (by decide) ?_
              refine J_aload_n 1 dL_law_256 rfl rfl ?_
              refine J_aload_n 0 dL_law_257 rfl rfl ?_
              refine J_iload_n 3 dL_law_258 rfl rfl ?_
              refine J_iconst dL_law_259 (by decide) ?_
              refine J_iadd dL_law_260 ?_
              obtain ⟨hg, hf⟩ := xgd_e hf
              refine J_sald rfl hg dL_law_261 ?_
              refine J_aload_n 0 dL_law_262 rfl rfl ?_
              refine J_iload_n 3 dL_law_263 rfl rfl ?_
              refine J_iconst dL_law_264 (by decide) ?_
              refine J_iadd dL_law_265 ?_
              obtain ⟨hg, hf⟩ := xgd_e hf
              refine J_sald rfl hg dL_law_266 ?_
              obtain ⟨r17, hq, hf⟩ := xc1_e hf
              refine J_cVi (Mc := mX11_word) [xI ((xs (Int.toNat (w32 (l3 + 1)))).toInt), xI ((xs (Int.toNat (w32 (l3 + 2)))).toInt)] dL_law_267 (fc_WM_word.fit ⟨xbl rfl, xbl rfl⟩) rfl ⟨Or.inl xq574, xq575, xq576⟩ kO1 (ci := 11) rfl rfl (xbl rfl) (xbl rfl) (jm_WM_word  hq) ?_
              refine J_aload_n 2 dL_law_270 rfl rfl ?_
              refine J_aload_n 0 dL_law_271 rfl rfl ?_
              refine J_iload_n 3 dL_law_272 rfl rfl ?_
              refine J_iconst dL_law_273 (by decide) ?_
              refine J_iadd dL_law_274 ?_
              obtain ⟨hg, hf⟩ := xgd_e hf
              refine J_sald rfl hg dL_law_275 ?_
              refine J_aload_n 0 dL_law_276 rfl rfl ?_
              refine J_iload_n 3 dL_law_277 rfl rfl ?_
              refine J_iconst dL_law_278 (by decide) ?_
              refine J_iadd dL_law_279 ?_
              obtain ⟨hg, hf⟩ := xgd_e hf
              refine J_sald rfl hg dL_law_280 ?_
              obtain ⟨r18, hq, hf⟩ := xc1_e hf
              refine J_cVi (Mc := mX12_word) [xI ((xs (Int.toNat (w32 (l3 + 1)))).toInt), xI ((xs (Int.toNat (w32 (l3 + 2)))).toInt)] dL_law_281 (fc_Md_word.fit ⟨xbl rfl, xbl rfl⟩) rfl ⟨Or.inl xq1322, xq1323, xq1324⟩ kO81 (ci := 12) rfl rfl (xbl rfl) (xbl rfl) (jm_Md_word  hq) ?_
              refine J_ic_eq (tgt := 786) dL_law_284 (by decide) (fun hc => ?_) (fun hc => ?_)
              · have hf := xip hc hf
                exact j_Law_law_786 hL  hf kb ke kr
              · have hf := xin' hc hf
                refine J_iconst dL_law_287 (by decide) ?_
                exact J_iretz dL_law_288 rfl (by decide) (kr _ _ (xinl hf))
            · have hf := xin' hc4 hf
              refine J_by (c := xand ((xs (Int.toNat l3)).toInt) 31 = 5) (fun hc5 => ?_) (fun hc5 => ?_)
              · have hf := xip hc5 hf
                refine J_tswIn (tgt := 289) dL_law_32 5 hc5 (by decide) (by decide) rfl (by decide) ?_
                refine J_aload_n 1 dL_law_289 rfl rfl ?_
                refine J_aload_n 0 dL_law_290 rfl rfl ?_
                refine J_iload_n 3 dL_law_291 rfl rfl ?_
                refine J_iconst dL_law_292 (by decide) ?_
                refine J_iadd dL_law_293 ?_
                obtain ⟨hg, hf⟩ := xgd_e hf
                refine J_sald rfl hg dL_law_294 ?_
                obtain ⟨r19, hq, hf⟩ := xc1_e hf
                refine J_cVi (Mc := mX11_count) [xI ((xs (Int.toNat (w32 (l3 + 1)))).toInt)] dL_law_295 (fc_WM_count.fit ⟨xbl rfl, xbl rfl⟩) rfl ⟨Or.inl xq587, xq588, xq589⟩ kO1 (ci := 11) rfl rfl (xbl rfl) (xbl rfl) (jm_WM_count  hq) ?_
                refine J_aload_n 2 dL_law_298 rfl rfl ?_
                refine J_aload_n 0 dL_law_299 rfl rfl ?_
                refine J_iload_n 3 dL_law_300 rfl rfl ?_
                refine J_iconst dL_law_301 (by decide) ?_
                refine J_iadd dL_law_302 ?_
                obtain ⟨hg, hf⟩ := xgd_e hf
                refine J_sald rfl hg dL_law_303 ?_
                obtain ⟨r20, hq, hf⟩ := xc1_e hf
                refine J_cVi (Mc := mX12_count) [xI ((xs (Int.toNat (w32 (l3 + 1)))).toInt)] dL_law_304 (fc_Md_count.fit ⟨xbl rfl, xbl rfl⟩) rfl ⟨Or.inl xq1326, xq1327, xq1328⟩ kO81 (ci := 12) rfl rfl (xbl rfl) (xbl rfl) (jm_Md_count  hq) ?_
                refine J_ic_eq (tgt := 786) dL_law_307 (by decide) (fun hc => ?_) (fun hc => ?_)
                · have hf := xip hc hf
                  exact j_Law_law_786 hL  hf kb ke kr
                · have hf := xin' hc hf
                  refine J_iconst dL_law_310 (by decide) ?_
                  exact J_iretz dL_law_311 rfl (by decide) (kr _ _ (xinl hf))
              · have hf := xin' hc5 hf
                refine J_by (c := xand ((xs (Int.toNat l3)).toInt) 31 = 6) (fun hc6 => ?_) (fun hc6 => ?_)
                · have hf := xip hc6 hf
                  refine J_tswIn (tgt := 312) dL_law_32 6 hc6 (by decide) (by decide) rfl (by decide) ?_
                  refine J_aload_n 1 dL_law_312 rfl rfl ?_
                  refine J_aload_n 0 dL_law_313 rfl rfl ?_
                  refine J_iload_n 3 dL_law_314 rfl rfl ?_
                  refine J_iconst dL_law_315 (by decide) ?_
                  refine J_iadd dL_law_316 ?_
                  obtain ⟨hg, hf⟩ := xgd_e hf
                  refine J_sald rfl hg dL_law_317 ?_
                  refine J_aload_n 0 dL_law_318 rfl rfl ?_
                  refine J_iload_n 3 dL_law_319 rfl rfl ?_
                  refine J_iconst dL_law_320 (by decide) ?_
                  refine J_iadd dL_law_321 ?_
                  obtain ⟨hg, hf⟩ := xgd_e hf
                  refine J_sald rfl hg dL_law_322 ?_
                  refine J_aload_n 0 dL_law_323 rfl rfl ?_
                  refine J_iload_n 3 dL_law_324 rfl rfl ?_
                  refine J_iconst dL_law_325 (by decide) ?_
                  refine J_iadd dL_law_326 ?_
                  obtain ⟨hg, hf⟩ := xgd_e hf
                  refine J_sald rfl hg dL_law_327 ?_
                  refine J_aload_n 0 dL_law_328 rfl rfl ?_
                  refine J_iload_n 3 dL_law_329 rfl rfl ?_
                  refine J_iconst dL_law_330 (by decide) ?_
                  refine J_iadd dL_law_331 ?_
                  obtain ⟨hg, hf⟩ := xgd_e hf
                  refine J_sald rfl hg dL_law_332 ?_
                  obtain ⟨r21, h22, hq, hf⟩ := xc2_e hf
                  refine J_cVi (Mc := mX11_price) [xI ((xs (Int.toNat (w32 (l3 + 1)))).toInt), xI ((xs (Int.toNat (w32 (l3 + 2)))).toInt), xI ((xs (Int.toNat (w32 (l3 + 3)))).toInt), xI ((xs (Int.toNat (w32 (l3 + 4)))).toInt)] dL_law_333 (fc_WM_price.fit ⟨xbl rfl, xbl rfl⟩) rfl ⟨Or.inl xq601, xq602, xq603⟩ kO1 (ci := 11) rfl rfl (xbl rfl) (xbl rfl) (jm_WM_price  hq) ?_
                  refine J_aload_n 2 dL_law_336 rfl rfl ?_
                  refine J_aload_n 0 dL_law_337 rfl rfl ?_
                  refine J_iload_n 3 dL_law_338 rfl rfl ?_
                  refine J_iconst dL_law_339 (by decide) ?_
                  refine J_iadd dL_law_340 ?_
                  obtain ⟨hg, hf⟩ := xgd_e hf
                  refine J_sald rfl hg dL_law_341 ?_
                  refine J_aload_n 0 dL_law_342 rfl rfl ?_
                  refine J_iload_n 3 dL_law_343 rfl rfl ?_
                  refine J_iconst dL_law_344 (by decide) ?_
                  refine J_iadd dL_law_345 ?_
                  obtain ⟨hg, hf⟩ := xgd_e hf
                  refine J_sald rfl hg dL_law_346 ?_
                  refine J_aload_n 0 dL_law_347 rfl rfl ?_
                  refine J_iload_n 3 dL_law_348 rfl rfl ?_
                  refine J_iconst dL_law_349 (by decide) ?_
                  refine J_iadd dL_law_350 ?_
                  obtain ⟨hg, hf⟩ := xgd_e hf
                  refine J_sald rfl hg dL_law_351 ?_
                  refine J_aload_n 0 dL_law_352 rfl rfl ?_
                  refine J_iload_n 3 dL_law_353 rfl rfl ?_
                  refine J_iconst dL_law_354 (by decide) ?_
                  refine J_iadd dL_law_355 ?_
                  obtain ⟨hg, hf⟩ := xgd_e hf
                  refine J_sald rfl hg dL_law_356 ?_
                  obtain ⟨r23, h24, hq, hf⟩ := xc2_e hf
                  refine J_cVi (Mc := mX12_price) [xI ((xs (Int.toNat (w32 (l3 + 1)))).toInt), xI ((xs (Int.toNat (w32 (l3 + 2)))).toInt), xI ((xs (Int.toNat (w32 (l3 + 3)))).toInt), xI ((xs (Int.toNat (w32 (l3 + 4)))).toInt)] dL_law_357 (fc_Md_price.fit ⟨xbl rfl, xbl rfl⟩) rfl ⟨Or.inl xq1338, xq1339, xq1340⟩ kO81 (ci := 12) rfl rfl (xbl rfl) (xbl rfl) (jm_Md_price  hq) ?_
                  refine J_ic_eq (tgt := 786) dL_law_360 (by decide) (fun hc => ?_) (fun hc => ?_)
                  · have hf := xip hc hf
                    exact j_Law_law_786 hL  hf kb ke kr
                  · have hf := xin' hc hf
                    refine J_iconst dL_law_363 (by decide) ?_
                    exact J_iretz dL_law_364 rfl (by decide) (kr _ _ (xinl hf))
                · have hf := xin' hc6 hf
                  refine J_by (c := xand ((xs (Int.toNat l3)).toInt) 31 = 7) (fun hc7 => ?_) (fun hc7 => ?_)
                  · have hf := xip hc7 hf
                    refine J_tswIn (tgt := 365) dL_law_32 7 hc7 (by decide) (by decide) rfl (by decide) ?_
                    refine J_aload_n 1 dL_law_365 rfl rfl ?_
                    refine J_aload_n 0 dL_law_366 rfl rfl ?_
                    refine J_iload_n 3 dL_law_367 rfl rfl ?_
                    refine J_iconst dL_law_368 (by decide) ?_
                    refine J_iadd dL_law_369 ?_
                    obtain ⟨hg, hf⟩ := xgd_e hf
                    refine J_sald rfl hg dL_law_370 ?_
                    obtain ⟨r25, h26, hq, hf⟩ := xc2_e hf
                    refine J_cVi (Mc := mX11_sound) [xI ((xs (Int.toNat (w32 (l3 + 1)))).toInt)] dL_law_371 (fc_WM_sound.fit ⟨xbl rfl, xbl rfl⟩) rfl ⟨Or.inl xq616, xq617, xq618⟩ kO1 (ci := 11) rfl rfl (xbl rfl) (xbl rfl) (jm_WM_sound  hq) ?_
                    refine J_aload_n 2 dL_law_374 rfl rfl ?_
                    refine J_aload_n 0 dL_law_375 rfl rfl ?_
                    refine J_iload_n 3 dL_law_376 rfl rfl ?_
                    refine J_iconst dL_law_377 (by decide) ?_
                    refine J_iadd dL_law_378 ?_
                    obtain ⟨hg, hf⟩ := xgd_e hf
                    refine J_sald rfl hg dL_law_379 ?_
                    obtain ⟨r27, h28, hq, hf⟩ := xc2_e hf
                    refine J_cVi (Mc := mX12_sound) [xI ((xs (Int.toNat (w32 (l3 + 1)))).toInt)] dL_law_380 (fc_Md_sound.fit ⟨xbl rfl, xbl rfl⟩) rfl ⟨Or.inl xq1342, xq1343, xq1344⟩ kO81 (ci := 12) rfl rfl (xbl rfl) (xbl rfl) (jm_Md_sound  hq) ?_
                    refine J_ic_eq (tgt := 786) dL_law_383 (by decide) (fun hc => ?_) (fun hc => ?_)
                    · have hf := xip hc hf
                      exact j_Law_law_786 hL  hf kb ke kr
                    · have hf := xin' hc hf
                      refine J_iconst dL_law_386 (by decide) ?_
                      exact J_iretz dL_law_387 rfl (by decide) (kr _ _ (xinl hf))
                  · have hf := xin' hc7 hf
                    refine J_by (c := xand ((xs (Int.toNat l3)).toInt) 31 = 8) (fun hc8 => ?_) (fun hc8 => ?_)
                    · have hf := xip hc8 hf
                      refine J_tswIn (tgt := 388) dL_law_32 8 hc8 (by decide) (by decide) rfl (by decide) ?_
                      refine J_aload_n 1 dL_law_388 rfl rfl ?_
                      refine J_aload_n 0 dL_law_389 rfl rfl ?_
                      refine J_iload_n 3 dL_law_390 rfl rfl ?_
                      refine J_iconst dL_law_391 (by decide) ?_
                      refine J_iadd dL_law_392 ?_
                      obtain ⟨hg, hf⟩ := xgd_e hf
                      refine J_sald rfl hg dL_law_393 ?_
                      obtain ⟨r29, h30, hq, hf⟩ := xc2_e hf
                      refine J_cVi (Mc := mX11_model) [xI ((xs (Int.toNat (w32 (l3 + 1)))).toInt)] dL_law_394 (fc_WM_model.fit ⟨xbl rfl, xbl rfl⟩) rfl ⟨Or.inl xq638, xq639, xq640⟩ kO1 (ci := 11) rfl rfl (xbl rfl) (xbl rfl) (jm_WM_model  hq) ?_
                      refine J_aload_n 2 dL_law_397 rfl rfl ?_
                      refine J_aload_n 0 dL_law_398 rfl rfl ?_
                      refine J_iload_n 3 dL_law_399 rfl rfl ?_
                      refine J_iconst dL_law_400 (by decide) ?_
                      refine J_iadd dL_law_401 ?_
                      obtain ⟨hg, hf⟩ := xgd_e hf
                      refine J_sald rfl hg dL_law_402 ?_
                      obtain ⟨r31, h32, hq, hf⟩ := xc2_e hf
                      refine J_cVi (Mc := mX12_model) [xI ((xs (Int.toNat (w32 (l3 + 1)))).toInt)] dL_law_403 (fc_Md_model.fit ⟨xbl rfl, xbl rfl⟩) rfl ⟨Or.inl xq1350, xq1351, xq1352⟩ kO81 (ci := 12) rfl rfl (xbl rfl) (xbl rfl) (jm_Md_model  hq) ?_
                      refine J_ic_eq (tgt := 786) dL_law_406 (by decide) (fun hc => ?_) (fun hc => ?_)
                      · have hf := xip hc hf
                        exact j_Law_law_786 hL  hf kb ke kr
                      · have hf := xin' hc hf
                        refine J_iconst dL_law_409 (by decide) ?_
                        exact J_iretz dL_law_410 rfl (by decide) (kr _ _ (xinl hf))
                    · have hf := xin' hc8 hf
                      refine J_by (c := xand ((xs (Int.toNat l3)).toInt) 31 = 9) (fun hc9 => ?_) (fun hc9 => ?_)
                      · have hf := xip hc9 hf
                        refine J_tswIn (tgt := 411) dL_law_32 9 hc9 (by decide) (by decide) rfl (by decide) ?_
                        refine J_aload_n 1 dL_law_411 rfl rfl ?_
                        obtain ⟨r33, h34, hq, hf⟩ := xc2_e hf
                        refine J_cVi (Mc := mX11_distance) [] dL_law_412 (fc_WM_distance.fit ⟨xbl rfl, xbl rfl⟩) rfl ⟨Or.inl xq642, xq643, xq644⟩ kO1 (ci := 11) rfl rfl (xbl rfl) (xbl rfl) (jm_WM_distance  hq) ?_
                        refine J_aload_n 2 dL_law_415 rfl rfl ?_
                        obtain ⟨r35, h36, hq, hf⟩ := xc2_e hf
                        refine J_cVi (Mc := mX12_distance) [] dL_law_416 (fc_Md_distance.fit ⟨xbl rfl, xbl rfl⟩) rfl ⟨Or.inl xq1354, xq1355, xq1356⟩ kO81 (ci := 12) rfl rfl (xbl rfl) (xbl rfl) (jm_Md_distance  hq) ?_
                        refine J_ic_eq (tgt := 786) dL_law_419 (by decide) (fun hc => ?_) (fun hc => ?_)
                        · have hf := xip hc hf
                          exact j_Law_law_786 hL  hf kb ke kr
                        · have hf := xin' hc hf
                          refine J_iconst dL_law_422 (by decide) ?_
                          exact J_iretz dL_law_423 rfl (by decide) (kr _ _ (xinl hf))
                      · have hf := xin' hc9 hf
                        refine J_by (c := xand ((xs (Int.toNat l3)).toInt) 31 = 10) (fun hc10 => ?_) (fun hc10 => ?_)
                        · have hf := xip hc10 hf
                          refine J_tswIn (tgt := 424) dL_law_32 10 hc10 (by decide) (by decide) rfl (by decide) ?_
                          refine J_aload_n 1 dL_law_424 rfl rfl ?_
                          refine J_aload_n 0 dL_law_425 rfl rfl ?_
                          refine J_iload_n 3 dL_law_426 rfl rfl ?_
                          refine J_iconst dL_law_427 (by decide) ?_
                          refine J_iadd dL_law_428 ?_
                          obtain ⟨hg, hf⟩ := xgd_e hf
                          refine J_sald rfl hg dL_law_429 ?_
                          refine J_aload_n 0 dL_law_430 rfl rfl ?_
                          refine J_iload_n 3 dL_law_431 rfl rfl ?_
                          refine J_iconst dL_law_432 (by decide) ?_
                          refine J_iadd dL_law_433 ?_
                          obtain ⟨hg, hf⟩ := xgd_e hf
                          refine J_sald rfl hg dL_law_434 ?_
                          obtain ⟨r37, hq, hf⟩ := xc1_e hf
                          refine J_cVi (Mc := mX11_way) [xI ((xs (Int.toNat (w32 (l3 + 1)))).toInt), xI ((xs (Int.toNat (w32 (l3 + 2)))).toInt)] dL_law_435 (fc_WM_way.fit ⟨xbl rfl, xbl rfl⟩) rfl ⟨Or.inl xq701, xq702, xq703⟩ kO1 (ci := 11) rfl rfl (xbl rfl) (xbl rfl) (jm_WM_way  hq) ?_
                          refine J_aload_n 2 dL_law_438 rfl rfl ?_
                          refine J_aload_n 0 dL_law_439 rfl rfl ?_
                          refine J_iload_n 3 dL_law_440 rfl rfl ?_
                          refine J_iconst dL_law_441 (by decide) ?_
                          refine J_iadd dL_law_442 ?_
                          obtain ⟨hg, hf⟩ := xgd_e hf
                          refine J_sald rfl hg dL_law_443 ?_
                          refine J_aload_n 0 dL_law_444 rfl rfl ?_
                          refine J_iload_n 3 dL_law_445 rfl rfl ?_
                          refine J_iconst dL_law_446 (by decide) ?_
                          refine J_iadd dL_law_447 ?_
                          obtain ⟨hg, hf⟩ := xgd_e hf
                          refine J_sald rfl hg dL_law_448 ?_
                          obtain ⟨r38, hq, hf⟩ := xc1_e hf
                          refine J_cVi (Mc := mX12_way) [xI ((xs (Int.toNat (w32 (l3 + 1)))).toInt), xI ((xs (Int.toNat (w32 (l3 + 2)))).toInt)] dL_law_449 (fc_Md_way.fit ⟨xbl rfl, xbl rfl⟩) rfl ⟨Or.inl xq1395, xq1396, xq1397⟩ kO81 (ci := 12) rfl rfl (xbl rfl) (xbl rfl) (jm_Md_way  hq) ?_
                          refine J_ic_eq (tgt := 786) dL_law_452 (by decide) (fun hc => ?_) (fun hc => ?_)
                          · have hf := xip hc hf
                            exact j_Law_law_786 hL  hf kb ke kr
                          · have hf := xin' hc hf
                            refine J_iconst dL_law_455 (by decide) ?_
                            exact J_iretz dL_law_456 rfl (by decide) (kr _ _ (xinl hf))
                        · have hf := xin' hc10 hf
                          refine J_by (c := xand ((xs (Int.toNat l3)).toInt) 31 = 11) (fun hc11 => ?_) (fun hc11 => ?_)
                          · have hf := xip hc11 hf
                            refine J_tswIn (tgt := 457) dL_law_32 11 hc11 (by decide) (by decide) rfl (by decide) ?_
                            refine J_aload_n 1 dL_law_457 rfl rfl ?_
                            refine J_aload_n 0 dL_law_458 rfl rfl ?_
                            refine J_iload_n 3 dL_law_459 rfl rfl ?_
                            refine J_iconst dL_law_460 (by decide) ?_
                            refine J_iadd dL_law_461 ?_
                            obtain ⟨hg, hf⟩ := xgd_e hf
                            refine J_sald rfl hg dL_law_462 ?_
                            obtain ⟨r39, h40, hq, hf⟩ := xc2_e hf
                            refine J_cVi (Mc := mX11_near) [xI ((xs (Int.toNat (w32 (l3 + 1)))).toInt)] dL_law_463 (fc_WM_near.fit ⟨xbl rfl, xbl rfl⟩) rfl ⟨Or.inl xq713, xq714, xq715⟩ kO1 (ci := 11) rfl rfl (xbl rfl) (xbl rfl) (jm_WM_near  hq) ?_
                            refine J_aload_n 2 dL_law_466 rfl rfl ?_
                            refine J_aload_n 0 dL_law_467 rfl rfl ?_
                            refine J_iload_n 3 dL_law_468 rfl rfl ?_
                            refine J_iconst dL_law_469 (by decide) ?_
                            refine J_iadd dL_law_470 ?_
                            obtain ⟨hg, hf⟩ := xgd_e hf
                            refine J_sald rfl hg dL_law_471 ?_
                            obtain ⟨r41, h42, hq, hf⟩ := xc2_e hf
                            refine J_cVi (Mc := mX12_near) [xI ((xs (Int.toNat (w32 (l3 + 1)))).toInt)] dL_law_472 (fc_Md_near.fit ⟨xbl rfl, xbl rfl⟩) rfl ⟨Or.inl xq1399, xq1400, xq1401⟩ kO81 (ci := 12) rfl rfl (xbl rfl) (xbl rfl) (jm_Md_near  hq) ?_
                            refine J_ic_eq (tgt := 786) dL_law_475 (by decide) (fun hc => ?_) (fun hc => ?_)
                            · have hf := xip hc hf
                              exact j_Law_law_786 hL  hf kb ke kr
                            · have hf := xin' hc hf
                              refine J_iconst dL_law_478 (by decide) ?_
                              exact J_iretz dL_law_479 rfl (by decide) (kr _ _ (xinl hf))
                          · have hf := xin' hc11 hf
                            refine J_by (c := xand ((xs (Int.toNat l3)).toInt) 31 = 12) (fun hc12 => ?_) (fun hc12 => ?_)
                            · have hf := xip hc12 hf
                              refine J_tswIn (tgt := 480) dL_law_32 12 hc12 (by decide) (by decide) rfl (by decide) ?_
                              refine J_aload_n 1 dL_law_480 rfl rfl ?_
                              refine J_aload_n 0 dL_law_481 rfl rfl ?_
                              refine J_iload_n 3 dL_law_482 rfl rfl ?_
                              refine J_iconst dL_law_483 (by decide) ?_
                              refine J_iadd dL_law_484 ?_
                              obtain ⟨hg, hf⟩ := xgd_e hf
                              refine J_sald rfl hg dL_law_485 ?_
                              obtain ⟨r43, h44, hq, hf⟩ := xc2_e hf
                              refine J_cVi (Mc := mX11_nearest) [xI ((xs (Int.toNat (w32 (l3 + 1)))).toInt)] dL_law_486 (fc_WM_nearest.fit ⟨xbl rfl, xbl rfl⟩) rfl ⟨Or.inl xq799, xq800, xq801⟩ kO1 (ci := 11) rfl rfl (xbl rfl) (xbl rfl) (jm_WM_nearest  hq) ?_
                              refine J_aload_n 2 dL_law_489 rfl rfl ?_
                              refine J_aload_n 0 dL_law_490 rfl rfl ?_
                              refine J_iload_n 3 dL_law_491 rfl rfl ?_
                              refine J_iconst dL_law_492 (by decide) ?_
                              refine J_iadd dL_law_493 ?_
                              obtain ⟨hg, hf⟩ := xgd_e hf
                              refine J_sald rfl hg dL_law_494 ?_
                              obtain ⟨r45, h46, hq, hf⟩ := xc2_e hf
                              refine J_cVi (Mc := mX12_nearest) [xI ((xs (Int.toNat (w32 (l3 + 1)))).toInt)] dL_law_495 (fc_Md_nearest.fit ⟨xbl rfl, xbl rfl⟩) rfl ⟨Or.inl xq1452, xq1453, xq1454⟩ kO81 (ci := 12) rfl rfl (xbl rfl) (xbl rfl) (jm_Md_nearest  hq) ?_
                              refine J_ic_eq (tgt := 786) dL_law_498 (by decide) (fun hc => ?_) (fun hc => ?_)
                              · have hf := xip hc hf
                                exact j_Law_law_786 hL  hf kb ke kr
                              · have hf := xin' hc hf
                                refine J_iconst dL_law_501 (by decide) ?_
                                exact J_iretz dL_law_502 rfl (by decide) (kr _ _ (xinl hf))
                            · have hf := xin' hc12 hf
                              refine J_by (c := xand ((xs (Int.toNat l3)).toInt) 31 = 13) (fun hc13 => ?_) (fun hc13 => ?_)
                              · have hf := xip hc13 hf
                                refine J_tswIn (tgt := 503) dL_law_32 13 hc13 (by decide) (by decide) rfl (by decide) ?_
                                refine J_aload_n 1 dL_law_503 rfl rfl ?_
                                refine J_aload_n 0 dL_law_504 rfl rfl ?_
                                refine J_iload_n 3 dL_law_505 rfl rfl ?_
                                refine J_iconst dL_law_506 (by decide) ?_
                                refine J_iadd dL_law_507 ?_
                                obtain ⟨hg, hf⟩ := xgd_e hf
                                refine J_sald rfl hg dL_law_508 ?_
                                obtain ⟨r47, h48, hq, hf⟩ := xc2_e hf
                                refine J_cVi (Mc := mX11_complete) [xI ((xs (Int.toNat (w32 (l3 + 1)))).toInt)] dL_law_509 (fc_WM_complete.fit ⟨xbl rfl, xbl rfl⟩) rfl ⟨Or.inl xq804, xq805, xq806⟩ kO1 (ci := 11) rfl rfl (xbl rfl) (xbl rfl) (jm_WM_complete  hq) ?_
                                refine J_aload_n 2 dL_law_512 rfl rfl ?_
                                refine J_aload_n 0 dL_law_513 rfl rfl ?_
                                refine J_iload_n 3 dL_law_514 rfl rfl ?_
                                refine J_iconst dL_law_515 (by decide) ?_
                                refine J_iadd dL_law_516 ?_
                                obtain ⟨hg, hf⟩ := xgd_e hf
                                refine J_sald rfl hg dL_law_517 ?_
                                obtain ⟨r49, h50, hq, hf⟩ := xc2_e hf
                                refine J_cVi (Mc := mX12_complete) [xI ((xs (Int.toNat (w32 (l3 + 1)))).toInt)] dL_law_518 (fc_Md_complete.fit ⟨xbl rfl, xbl rfl⟩) rfl ⟨Or.inl xq1457, xq1458, xq1459⟩ kO81 (ci := 12) rfl rfl (xbl rfl) (xbl rfl) (jm_Md_complete  hq) ?_
                                refine J_ic_eq (tgt := 786) dL_law_521 (by decide) (fun hc => ?_) (fun hc => ?_)
                                · have hf := xip hc hf
                                  exact j_Law_law_786 hL  hf kb ke kr
                                · have hf := xin' hc hf
                                  refine J_iconst dL_law_524 (by decide) ?_
                                  exact J_iretz dL_law_525 rfl (by decide) (kr _ _ (xinl hf))
                              · have hf := xin' hc13 hf
                                refine J_by (c := xand ((xs (Int.toNat l3)).toInt) 31 = 14) (fun hc14 => ?_) (fun hc14 => ?_)
                                · have hf := xip hc14 hf
                                  refine J_tswIn (tgt := 526) dL_law_32 14 hc14 (by decide) (by decide) rfl (by decide) ?_
                                  refine J_aload_n 1 dL_law_526 rfl rfl ?_
                                  refine J_aload_n 0 dL_law_527 rfl rfl ?_
                                  refine J_iload_n 3 dL_law_528 rfl rfl ?_
                                  refine J_iconst dL_law_529 (by decide) ?_
                                  refine J_iadd dL_law_530 ?_
                                  obtain ⟨hg, hf⟩ := xgd_e hf
                                  refine J_sald rfl hg dL_law_531 ?_
                                  refine J_aload_n 0 dL_law_532 rfl rfl ?_
                                  refine J_iload_n 3 dL_law_533 rfl rfl ?_
                                  refine J_iconst dL_law_534 (by decide) ?_
                                  refine J_iadd dL_law_535 ?_
                                  obtain ⟨hg, hf⟩ := xgd_e hf
                                  refine J_sald rfl hg dL_law_536 ?_
                                  obtain ⟨r51, hq, hf⟩ := xc1_e hf
                                  refine J_cVi (Mc := mX11_found) [xI ((xs (Int.toNat (w32 (l3 + 1)))).toInt), xI ((xs (Int.toNat (w32 (l3 + 2)))).toInt)] dL_law_537 (fc_WM_found.fit ⟨xbl rfl, xbl rfl⟩) rfl ⟨Or.inl xq808, xq809, xq810⟩ kO1 (ci := 11) rfl rfl (xbl rfl) (xbl rfl) (jm_WM_found  hq) ?_
                                  refine J_aload_n 2 dL_law_540 rfl rfl ?_
                                  refine J_aload_n 0 dL_law_541 rfl rfl ?_
                                  refine J_iload_n 3 dL_law_542 rfl rfl ?_
                                  refine J_iconst dL_law_543 (by decide) ?_
                                  refine J_iadd dL_law_544 ?_
                                  obtain ⟨hg, hf⟩ := xgd_e hf
                                  refine J_sald rfl hg dL_law_545 ?_
                                  refine J_aload_n 0 dL_law_546 rfl rfl ?_
                                  refine J_iload_n 3 dL_law_547 rfl rfl ?_
                                  refine J_iconst dL_law_548 (by decide) ?_
                                  refine J_iadd dL_law_549 ?_
                                  obtain ⟨hg, hf⟩ := xgd_e hf
                                  refine J_sald rfl hg dL_law_550 ?_
                                  obtain ⟨r52, hq, hf⟩ := xc1_e hf
                                  refine J_cVi (Mc := mX12_found) [xI ((xs (Int.toNat (w32 (l3 + 1)))).toInt), xI ((xs (Int.toNat (w32 (l3 + 2)))).toInt)] dL_law_551 (fc_Md_found.fit ⟨xbl rfl, xbl rfl⟩) rfl ⟨Or.inl xq1461, xq1462, xq1463⟩ kO81 (ci := 12) rfl rfl (xbl rfl) (xbl rfl) (jm_Md_found  hq) ?_
                                  refine J_ic_eq (tgt := 786) dL_law_554 (by decide) (fun hc => ?_) (fun hc => ?_)
                                  · have hf := xip hc hf
                                    exact j_Law_law_786 hL  hf kb ke kr
                                  · have hf := xin' hc hf
                                    refine J_iconst dL_law_557 (by decide) ?_
                                    exact J_iretz dL_law_558 rfl (by decide) (kr _ _ (xinl hf))
                                · have hf := xin' hc14 hf
                                  refine J_by (c := xand ((xs (Int.toNat l3)).toInt) 31 = 15) (fun hc15 => ?_) (fun hc15 => ?_)
                                  · have hf := xip hc15 hf
                                    refine J_tswIn (tgt := 559) dL_law_32 15 hc15 (by decide) (by decide) rfl (by decide) ?_
                                    refine J_aload_n 1 dL_law_559 rfl rfl ?_
                                    refine J_aload_n 0 dL_law_560 rfl rfl ?_
                                    refine J_iload_n 3 dL_law_561 rfl rfl ?_
                                    refine J_iconst dL_law_562 (by decide) ?_
                                    refine J_iadd dL_law_563 ?_
                                    obtain ⟨hg, hf⟩ := xgd_e hf
                                    refine J_sald rfl hg dL_law_564 ?_
                                    refine J_aload_n 0 dL_law_565 rfl rfl ?_
                                    refine J_iload_n 3 dL_law_566 rfl rfl ?_
                                    refine J_iconst dL_law_567 (by decide) ?_
                                    refine J_iadd dL_law_568 ?_
                                    obtain ⟨hg, hf⟩ := xgd_e hf
                                    refine J_sald rfl hg dL_law_569 ?_
                                    obtain ⟨r53, hq, hf⟩ := xc1_e hf
                                    refine J_cVi (Mc := mX11_node) [xI ((xs (Int.toNat (w32 (l3 + 1)))).toInt), xI ((xs (Int.toNat (w32 (l3 + 2)))).toInt)] dL_law_570 (fc_WM_node.fit ⟨xbl rfl, xbl rfl⟩) rfl ⟨Or.inl xq816, xq817, xq818⟩ kO1 (ci := 11) rfl rfl (xbl rfl) (xbl rfl) (jm_WM_node  hq) ?_
                                    refine J_aload_n 2 dL_law_573 rfl rfl ?_
                                    refine J_aload_n 0 dL_law_574 rfl rfl ?_
                                    refine J_iload_n 3 dL_law_575 rfl rfl ?_
                                    refine J_iconst dL_law_576 (by decide) ?_
                                    refine J_iadd dL_law_577 ?_
                                    obtain ⟨hg, hf⟩ := xgd_e hf
                                    refine J_sald rfl hg dL_law_578 ?_
                                    refine J_aload_n 0 dL_law_579 rfl rfl ?_
                                    refine J_iload_n 3 dL_law_580 rfl rfl ?_
                                    refine J_iconst dL_law_581 (by decide) ?_
                                    refine J_iadd dL_law_582 ?_
                                    obtain ⟨hg, hf⟩ := xgd_e hf
                                    refine J_sald rfl hg dL_law_583 ?_
                                    obtain ⟨r54, hq, hf⟩ := xc1_e hf
                                    refine J_cVi (Mc := mX12_node) [xI ((xs (Int.toNat (w32 (l3 + 1)))).toInt), xI ((xs (Int.toNat (w32 (l3 + 2)))).toInt)] dL_law_584 (fc_Md_node.fit ⟨xbl rfl, xbl rfl⟩) rfl ⟨Or.inl xq1465, xq1466, xq1467⟩ kO81 (ci := 12) rfl rfl (xbl rfl) (xbl rfl) (jm_Md_node  hq) ?_
                                    refine J_ic_eq (tgt := 786) dL_law_587 (by decide) (fun hc => ?_) (fun hc => ?_)
                                    · have hf := xip hc hf
                                      exact j_Law_law_786 hL  hf kb ke kr
                                    · have hf := xin' hc hf
                                      refine J_iconst dL_law_590 (by decide) ?_
                                      exact J_iretz dL_law_591 rfl (by decide) (kr _ _ (xinl hf))
                                  · have hf := xin' hc15 hf
                                    refine J_by (c := xand ((xs (Int.toNat l3)).toInt) 31 = 16) (fun hc16 => ?_) (fun hc16 => ?_)
                                    · have hf := xip hc16 hf
                                      refine J_tswIn (tgt := 592) dL_law_32 16 hc16 (by decide) (by decide) rfl (by decide) ?_
                                      refine J_aload_n 1 dL_law_592 rfl rfl ?_
                                      obtain ⟨r55, h56, hq, hf⟩ := xc2_e hf
                                      refine J_cVi (Mc := mX11_pair) [] dL_law_593 (fc_WM_pair.fit ⟨xbl rfl, xbl rfl⟩) rfl ⟨Or.inl xq833, xq834, xq835⟩ kO1 (ci := 11) rfl rfl (xbl rfl) (xbl rfl) (jm_WM_pair  hq) ?_
                                      refine J_aload_n 2 dL_law_596 rfl rfl ?_
                                      obtain ⟨r57, h58, hq, hf⟩ := xc2_e hf
                                      refine J_cVi (Mc := mX12_pair) [] dL_law_597 (fc_Md_pair.fit ⟨xbl rfl, xbl rfl⟩) rfl ⟨Or.inl xq1469, xq1470, xq1471⟩ kO81 (ci := 12) rfl rfl (xbl rfl) (xbl rfl) (jm_Md_pair  hq) ?_
                                      refine J_ic_eq (tgt := 786) dL_law_600 (by decide) (fun hc => ?_) (fun hc => ?_)
                                      · have hf := xip hc hf
                                        exact j_Law_law_786 hL  hf kb ke kr
                                      · have hf := xin' hc hf
                                        refine J_iconst dL_law_603 (by decide) ?_
                                        exact J_iretz dL_law_604 rfl (by decide) (kr _ _ (xinl hf))
                                    · have hf := xin' hc16 hf
                                      refine J_by (c := xand ((xs (Int.toNat l3)).toInt) 31 = 17) (fun hc17 => ?_) (fun hc17 => ?_)
                                      · have hf := xip hc17 hf
                                        refine J_tswIn (tgt := 605) dL_law_32 17 hc17 (by decide) (by decide) rfl (by decide) ?_
                                        refine J_aload_n 1 dL_law_605 rfl rfl ?_
                                        obtain ⟨r59, h60, hq, hf⟩ := xc2_e hf
                                        refine J_cVi (Mc := mX11_learn) [] dL_law_606 (fc_WM_learn.fit ⟨xbl rfl, xbl rfl⟩) rfl ⟨Or.inl xq839, xq840, xq841⟩ kO1 (ci := 11) rfl rfl (xbl rfl) (xbl rfl) (jm_WM_learn  hq) ?_
                                        refine J_aload_n 2 dL_law_609 rfl rfl ?_
                                        obtain ⟨r61, h62, hq, hf⟩ := xc2_e hf
                                        refine J_cVi (Mc := mX12_learn) [] dL_law_610 (fc_Md_learn.fit ⟨xbl rfl, xbl rfl⟩) rfl ⟨Or.inl xq1473, xq1474, xq1475⟩ kO81 (ci := 12) rfl rfl (xbl rfl) (xbl rfl) (jm_Md_learn  hq) ?_
                                        refine J_ic_eq (tgt := 786) dL_law_613 (by decide) (fun hc => ?_) (fun hc => ?_)
                                        · have hf := xip hc hf
                                          exact j_Law_law_786 hL  hf kb ke kr
                                        · have hf := xin' hc hf
                                          refine J_iconst dL_law_616 (by decide) ?_
                                          exact J_iretz dL_law_617 rfl (by decide) (kr _ _ (xinl hf))
                                      · have hf := xin' hc17 hf
                                        refine J_by (c := xand ((xs (Int.toNat l3)).toInt) 31 = 18) (fun hc18 => ?_) (fun hc18 => ?_)
                                        · have hf := xip hc18 hf
                                          refine J_tswIn (tgt := 618) dL_law_32 18 hc18 (by decide) (by decide) rfl (by decide) ?_
                                          refine J_aload_n 1 dL_law_618 rfl rfl ?_
                                          obtain ⟨r63, h64, hq, hf⟩ := xc2_e hf
                                          refine J_cVi (Mc := mX11_spread) [] dL_law_619 (fc_WM_spread.fit ⟨xbl rfl, xbl rfl⟩) rfl ⟨Or.inl xq864, xq865, xq866⟩ kO1 (ci := 11) rfl rfl (xbl rfl) (xbl rfl) (jm_WM_spread  hq) ?_
                                          refine J_aload_n 2 dL_law_622 rfl rfl ?_
                                          obtain ⟨r65, h66, hq, hf⟩ := xc2_e hf
                                          refine J_cVi (Mc := mX12_spread) [] dL_law_623 (fc_Md_spread.fit ⟨xbl rfl, xbl rfl⟩) rfl ⟨Or.inl xq1481, xq1482, xq1483⟩ kO81 (ci := 12) rfl rfl (xbl rfl) (xbl rfl) (jm_Md_spread  hq) ?_
                                          refine J_ic_eq (tgt := 786) dL_law_626 (by decide) (fun hc => ?_) (fun hc => ?_)
                                          · have hf := xip hc hf
                                            exact j_Law_law_786 hL  hf kb ke kr
                                          · have hf := xin' hc hf
                                            refine J_iconst dL_law_629 (by decide) ?_
                                            exact J_iretz dL_law_630 rfl (by decide) (kr _ _ (xinl hf))
                                        · have hf := xin' hc18 hf
                                          refine J_by (c := xand ((xs (Int.toNat l3)).toInt) 31 = 19) (fun hc19 => ?_) (fun hc19 => ?_)
                                          · have hf := xip hc19 hf
                                            refine J_tswIn (tgt := 631) dL_law_32 19 hc19 (by decide) (by decide) rfl (by decide) ?_
                                            refine J_aload_n 1 dL_law_631 rfl rfl ?_
                                            refine J_aload_n 0 dL_law_632 rfl rfl ?_
                                            refine J_iload_n 3 dL_law_633 rfl rfl ?_
                                            refine J_iconst dL_law_634 (by decide) ?_
                                            refine J_iadd dL_law_635 ?_
                                            obtain ⟨hg, hf⟩ := xgd_e hf
                                            refine J_sald rfl hg dL_law_636 ?_
                                            obtain ⟨r67, h68, hq, hf⟩ := xc2_e hf
                                            refine J_cVi (Mc := mX11_mend) [xI ((xs (Int.toNat (w32 (l3 + 1)))).toInt)] dL_law_637 (fc_WM_mend.fit ⟨xbl rfl, xbl rfl⟩) rfl ⟨Or.inl xq868, xq869, xq870⟩ kO1 (ci := 11) rfl rfl (xbl rfl) (xbl rfl) (jm_WM_mend  hq) ?_
                                            refine J_aload_n 2 dL_law_640 rfl rfl ?_
                                            refine J_aload_n 0 dL_law_641 rfl rfl ?_
                                            refine J_iload_n 3 dL_law_642 rfl rfl ?_
                                            refine J_iconst dL_law_643 (by decide) ?_
                                            refine J_iadd dL_law_644 ?_
                                            obtain ⟨hg, hf⟩ := xgd_e hf
                                            refine J_sald rfl hg dL_law_645 ?_
                                            obtain ⟨r69, h70, hq, hf⟩ := xc2_e hf
                                            refine J_cVi (Mc := mX12_mend) [xI ((xs (Int.toNat (w32 (l3 + 1)))).toInt)] dL_law_646 (fc_Md_mend.fit ⟨xbl rfl, xbl rfl⟩) rfl ⟨Or.inl xq1485, xq1486, xq1487⟩ kO81 (ci := 12) rfl rfl (xbl rfl) (xbl rfl) (jm_Md_mend  hq) ?_
                                            refine J_ic_eq (tgt := 786) dL_law_649 (by decide) (fun hc => ?_) (fun hc => ?_)
                                            · have hf := xip hc hf
                                              exact j_Law_law_786 hL  hf kb ke kr
                                            · have hf := xin' hc hf
                                              refine J_iconst dL_law_652 (by decide) ?_
                                              exact J_iretz dL_law_653 rfl (by decide) (kr _ _ (xinl hf))
                                          · have hf := xin' hc19 hf
                                            refine J_by (c := xand ((xs (Int.toNat l3)).toInt) 31 = 20) (fun hc20 => ?_) (fun hc20 => ?_)
                                            · have hf := xip hc20 hf
                                              refine J_tswIn (tgt := 654) dL_law_32 20 hc20 (by decide) (by decide) rfl (by decide) ?_
                                              refine J_aload_n 1 dL_law_654 rfl rfl ?_
                                              refine J_aload_n 0 dL_law_655 rfl rfl ?_
                                              refine J_iload_n 3 dL_law_656 rfl rfl ?_
                                              refine J_iconst dL_law_657 (by decide) ?_
                                              refine J_iadd dL_law_658 ?_
                                              obtain ⟨hg, hf⟩ := xgd_e hf
                                              refine J_sald rfl hg dL_law_659 ?_
                                              refine J_aload_n 0 dL_law_660 rfl rfl ?_
                                              refine J_iload_n 3 dL_law_661 rfl rfl ?_
                                              refine J_iconst dL_law_662 (by decide) ?_
                                              refine J_iadd dL_law_663 ?_
                                              obtain ⟨hg, hf⟩ := xgd_e hf
                                              refine J_sald rfl hg dL_law_664 ?_
                                              obtain ⟨r71, hq, hf⟩ := xc1_e hf
                                              refine J_cVi (Mc := mX11_part) [xI ((xs (Int.toNat (w32 (l3 + 1)))).toInt), xI ((xs (Int.toNat (w32 (l3 + 2)))).toInt)] dL_law_665 (fc_WM_part.fit ⟨xbl rfl, xbl rfl⟩) rfl ⟨Or.inl xq934, xq935, xq936⟩ kO1 (ci := 11) rfl rfl (xbl rfl) (xbl rfl) (jm_WM_part  hq) ?_
                                              refine J_aload_n 2 dL_law_668 rfl rfl ?_
                                              refine J_aload_n 0 dL_law_669 rfl rfl ?_
                                              refine J_iload_n 3 dL_law_670 rfl rfl ?_
                                              refine J_iconst dL_law_671 (by decide) ?_
                                              refine J_iadd dL_law_672 ?_
                                              obtain ⟨hg, hf⟩ := xgd_e hf
                                              refine J_sald rfl hg dL_law_673 ?_
                                              refine J_aload_n 0 dL_law_674 rfl rfl ?_
                                              refine J_iload_n 3 dL_law_675 rfl rfl ?_
                                              refine J_iconst dL_law_676 (by decide) ?_
                                              refine J_iadd dL_law_677 ?_
                                              obtain ⟨hg, hf⟩ := xgd_e hf
                                              refine J_sald rfl hg dL_law_678 ?_
                                              obtain ⟨r72, hq, hf⟩ := xc1_e hf
                                              refine J_cVi (Mc := mX12_part) [xI ((xs (Int.toNat (w32 (l3 + 1)))).toInt), xI ((xs (Int.toNat (w32 (l3 + 2)))).toInt)] dL_law_679 (fc_Md_part.fit ⟨xbl rfl, xbl rfl⟩) rfl ⟨Or.inl xq1506, xq1507, xq1508⟩ kO81 (ci := 12) rfl rfl (xbl rfl) (xbl rfl) (jm_Md_part  hq) ?_
                                              refine J_ic_eq (tgt := 786) dL_law_682 (by decide) (fun hc => ?_) (fun hc => ?_)
                                              · have hf := xip hc hf
                                                exact j_Law_law_786 hL  hf kb ke kr
                                              · have hf := xin' hc hf
                                                refine J_iconst dL_law_685 (by decide) ?_
                                                exact J_iretz dL_law_686 rfl (by decide) (kr _ _ (xinl hf))
                                            · have hf := xin' hc20 hf
                                              refine J_by (c := xand ((xs (Int.toNat l3)).toInt) 31 = 21) (fun hc21 => ?_) (fun hc21 => ?_)
                                              · have hf := xip hc21 hf
                                                refine J_tswIn (tgt := 687) dL_law_32 21 hc21 (by decide) (by decide) rfl (by decide) ?_
                                                refine J_aload_n 1 dL_law_687 rfl rfl ?_
                                                refine J_aload_n 0 dL_law_688 rfl rfl ?_
                                                refine J_iload_n 3 dL_law_689 rfl rfl ?_
                                                refine J_iconst dL_law_690 (by decide) ?_
                                                refine J_iadd dL_law_691 ?_
                                                obtain ⟨hg, hf⟩ := xgd_e hf
                                                refine J_sald rfl hg dL_law_692 ?_
                                                refine J_aload_n 0 dL_law_693 rfl rfl ?_
                                                refine J_iload_n 3 dL_law_694 rfl rfl ?_
                                                refine J_iconst dL_law_695 (by decide) ?_
                                                refine J_iadd dL_law_696 ?_
                                                obtain ⟨hg, hf⟩ := xgd_e hf
                                                refine J_sald rfl hg dL_law_697 ?_
                                                refine J_aload_n 0 dL_law_698 rfl rfl ?_
                                                refine J_iload_n 3 dL_law_699 rfl rfl ?_
                                                refine J_iconst dL_law_700 (by decide) ?_
                                                refine J_iadd dL_law_701 ?_
                                                obtain ⟨hg, hf⟩ := xgd_e hf
                                                refine J_sald rfl hg dL_law_702 ?_
                                                obtain ⟨r73, h74, hq, hf⟩ := xc2_e hf
                                                refine J_cVi (Mc := mX11_put) [xI ((xs (Int.toNat (w32 (l3 + 1)))).toInt), xI ((xs (Int.toNat (w32 (l3 + 2)))).toInt), xI ((xs (Int.toNat (w32 (l3 + 3)))).toInt)] dL_law_703 (fc_WM_put.fit ⟨xbl rfl, xbl rfl⟩) rfl ⟨Or.inl xq942, xq943, xq944⟩ kO1 (ci := 11) rfl rfl (xbl rfl) (xbl rfl) (jm_WM_put  hq) ?_
                                                refine J_aload_n 2 dL_law_706 rfl rfl ?_
                                                refine J_aload_n 0 dL_law_707 rfl rfl ?_
                                                refine J_iload_n 3 dL_law_708 rfl rfl ?_
                                                refine J_iconst dL_law_709 (by decide) ?_
                                                refine J_iadd dL_law_710 ?_
                                                obtain ⟨hg, hf⟩ := xgd_e hf
                                                refine J_sald rfl hg dL_law_711 ?_
                                                refine J_aload_n 0 dL_law_712 rfl rfl ?_
                                                refine J_iload_n 3 dL_law_713 rfl rfl ?_
                                                refine J_iconst dL_law_714 (by decide) ?_
                                                refine J_iadd dL_law_715 ?_
                                                obtain ⟨hg, hf⟩ := xgd_e hf
                                                refine J_sald rfl hg dL_law_716 ?_
                                                refine J_aload_n 0 dL_law_717 rfl rfl ?_
                                                refine J_iload_n 3 dL_law_718 rfl rfl ?_
                                                refine J_iconst dL_law_719 (by decide) ?_
                                                refine J_iadd dL_law_720 ?_
                                                obtain ⟨hg, hf⟩ := xgd_e hf
                                                refine J_sald rfl hg dL_law_721 ?_
                                                obtain ⟨r75, h76, hq, hf⟩ := xc2_e hf
                                                refine J_cVi (Mc := mX12_put) [xI ((xs (Int.toNat (w32 (l3 + 1)))).toInt), xI ((xs (Int.toNat (w32 (l3 + 2)))).toInt), xI ((xs (Int.toNat (w32 (l3 + 3)))).toInt)] dL_law_722 (fc_Md_put.fit ⟨xbl rfl, xbl rfl⟩) rfl ⟨Or.inl xq1510, xq1511, xq1512⟩ kO81 (ci := 12) rfl rfl (xbl rfl) (xbl rfl) (jm_Md_put  hq) ?_
                                                refine J_ic_eq (tgt := 786) dL_law_725 (by decide) (fun hc => ?_) (fun hc => ?_)
                                                · have hf := xip hc hf
                                                  exact j_Law_law_786 hL  hf kb ke kr
                                                · have hf := xin' hc hf
                                                  refine J_iconst dL_law_728 (by decide) ?_
                                                  exact J_iretz dL_law_729 rfl (by decide) (kr _ _ (xinl hf))
                                              · have hf := xin' hc21 hf
                                                refine J_by (c := xand ((xs (Int.toNat l3)).toInt) 31 = 22) (fun hc22 => ?_) (fun hc22 => ?_)
                                                · have hf := xip hc22 hf
                                                  refine J_tswIn (tgt := 730) dL_law_32 22 hc22 (by decide) (by decide) rfl (by decide) ?_
                                                  refine J_aload_n 1 dL_law_730 rfl rfl ?_
                                                  refine J_aload_n 0 dL_law_731 rfl rfl ?_
                                                  refine J_iload_n 3 dL_law_732 rfl rfl ?_
                                                  refine J_iconst dL_law_733 (by decide) ?_
                                                  refine J_iadd dL_law_734 ?_
                                                  obtain ⟨hg, hf⟩ := xgd_e hf
                                                  refine J_sald rfl hg dL_law_735 ?_
                                                  refine J_aload_n 0 dL_law_736 rfl rfl ?_
                                                  refine J_iload_n 3 dL_law_737 rfl rfl ?_
                                                  refine J_iconst dL_law_738 (by decide) ?_
                                                  refine J_iadd dL_law_739 ?_
                                                  obtain ⟨hg, hf⟩ := xgd_e hf
                                                  refine J_sald rfl hg dL_law_740 ?_
                                                  refine J_aload_n 0 dL_law_741 rfl rfl ?_
                                                  refine J_iload_n 3 dL_law_742 rfl rfl ?_
                                                  refine J_iconst dL_law_743 (by decide) ?_
                                                  refine J_iadd dL_law_744 ?_
                                                  obtain ⟨hg, hf⟩ := xgd_e hf
                                                  refine J_sald rfl hg dL_law_745 ?_
                                                  obtain ⟨r77, h78, hq, hf⟩ := xc2_e hf
                                                  refine J_cVi (Mc := mX11_forge) [xI ((xs (Int.toNat (w32 (l3 + 1)))).toInt), xI ((xs (Int.toNat (w32 (l3 + 2)))).toInt), xI ((xs (Int.toNat (w32 (l3 + 3)))).toInt)] dL_law_746 (fc_WM_forge.fit ⟨xbl rfl, xbl rfl⟩) rfl ⟨Or.inl xq983, xq984, xq985⟩ kO1 (ci := 11) rfl rfl (xbl rfl) (xbl rfl) (jm_WM_forge  hq) ?_
                                                  refine J_aload_n 2 dL_law_749 rfl rfl ?_
                                                  refine J_aload_n 0 dL_law_750 rfl rfl ?_
                                                  refine J_iload_n 3 dL_law_751 rfl rfl ?_
                                                  refine J_iconst dL_law_752 (by decide) ?_
                                                  refine J_iadd dL_law_753 ?_
                                                  obtain ⟨hg, hf⟩ := xgd_e hf
                                                  refine J_sald rfl hg dL_law_754 ?_
                                                  refine J_aload_n 0 dL_law_755 rfl rfl ?_
                                                  refine J_iload_n 3 dL_law_756 rfl rfl ?_
                                                  refine J_iconst dL_law_757 (by decide) ?_
                                                  refine J_iadd dL_law_758 ?_
                                                  obtain ⟨hg, hf⟩ := xgd_e hf
                                                  refine J_sald rfl hg dL_law_759 ?_
                                                  refine J_aload_n 0 dL_law_760 rfl rfl ?_
                                                  refine J_iload_n 3 dL_law_761 rfl rfl ?_
                                                  refine J_iconst dL_law_762 (by decide) ?_
                                                  refine J_iadd dL_law_763 ?_
                                                  obtain ⟨hg, hf⟩ := xgd_e hf
                                                  refine J_sald rfl hg dL_law_764 ?_
                                                  obtain ⟨r79, h80, hq, hf⟩ := xc2_e hf
                                                  refine J_cVi (Mc := mX12_forge) [xI ((xs (Int.toNat (w32 (l3 + 1)))).toInt), xI ((xs (Int.toNat (w32 (l3 + 2)))).toInt), xI ((xs (Int.toNat (w32 (l3 + 3)))).toInt)] dL_law_765 (fc_Md_forge.fit ⟨xbl rfl, xbl rfl⟩) rfl ⟨Or.inl xq1522, xq1523, xq1524⟩ kO81 (ci := 12) rfl rfl (xbl rfl) (xbl rfl) (jm_Md_forge  hq) ?_
                                                  refine J_ic_eq (tgt := 786) dL_law_768 (by decide) (fun hc => ?_) (fun hc => ?_)
                                                  · have hf := xip hc hf
                                                    exact j_Law_law_786 hL  hf kb ke kr
                                                  · have hf := xin' hc hf
                                                    refine J_iconst dL_law_771 (by decide) ?_
                                                    exact J_iretz dL_law_772 rfl (by decide) (kr _ _ (xinl hf))
                                                · have hf := xin' hc22 hf
                                                  refine J_by (c := xand ((xs (Int.toNat l3)).toInt) 31 = 23) (fun hc23 => ?_) (fun hc23 => ?_)
                                                  · have hf := xip hc23 hf
                                                    refine J_tswIn (tgt := 773) dL_law_32 23 hc23 (by decide) (by decide) rfl (by decide) ?_
                                                    refine J_aload_n 1 dL_law_773 rfl rfl ?_
                                                    obtain ⟨r81, hq, hf⟩ := xc1_e hf
                                                    refine J_cVi (Mc := mX11_status) [] dL_law_774 (fc_WM_status.fit ⟨xbl rfl, xbl rfl⟩) rfl ⟨Or.inl xq1010, xq1011, xq1012⟩ kO1 (ci := 11) rfl rfl (xbl rfl) (xbl rfl) (jm_WM_status  hq) ?_
                                                    refine J_aload_n 2 dL_law_777 rfl rfl ?_
                                                    obtain ⟨r82, hq, hf⟩ := xc1_e hf
                                                    refine J_cVi (Mc := mX12_status) [] dL_law_778 (fc_Md_status.fit ⟨xbl rfl, xbl rfl⟩) rfl ⟨Or.inl xq1526, xq1527, xq1528⟩ kO81 (ci := 12) rfl rfl (xbl rfl) (xbl rfl) (jm_Md_status  hq) ?_
                                                    refine J_ic_eq (tgt := 786) dL_law_781 (by decide) (fun hc => ?_) (fun hc => ?_)
                                                    · have hf := xip hc hf
                                                      exact j_Law_law_786 hL  hf kb ke kr
                                                    · have hf := xin' hc hf
                                                      refine J_iconst dL_law_784 (by decide) ?_
                                                      exact J_iretz dL_law_785 rfl (by decide) (kr _ _ (xinl hf))
                                                  · have hf := xin' hc23 hf
                                                    refine J_tswOut (tgt := 786) dL_law_32 (by omega) (by decide) ?_
                                                    exact j_Law_law_786 hL  hf kb ke kr
theorem j_Law_law_18 {L : Nat} {xs : Nat → Int32} {l3 : Int} {h : xH} {r0 : Int} {h0 : xH} (hL : L ≤ 2560)  (hf : f_Law_law_18 L xs l3 h = some (r0, h0))  : J (mL_law L xs) true 0 0 18 xKn [(0, xR (-3)), (1, xR 1), (2, xR 81), (3, xI l3)] [] h (xEq (some r0) h0) := by
  unfold f_Law_law_18 at hf
  obtain ⟨b0, hb0, hf⟩ := xc1_e hf
  refine xloop_ind (P := fun s : (Int × xH) => J (mL_law L xs) true 0 0 18 xKn [(0, xR (-3)), (1, xR 1), (2, xR 81), (3, xI s.1)] [] s.2 (xEq (some r0) h0)) hb0 (fun s x1 hs ib ie => ?_)
  exact j_Law_law_s18 hL  hs (fun _ _ e => ib _ e) (fun _ e => by have := ie _ e; subst this; exact j_Law_law_792 hL  hf) (fun _ _ e => by have := ie _ e; subst this; exact xq_i hf)
theorem j_Law_law_16 {L : Nat} {xs : Nat → Int32}  {h : xH} {r0 : Int} {h0 : xH} (hL : L ≤ 2560)  (hf : f_Law_law_16 L xs h = some (r0, h0))  : J (mL_law L xs) true 0 0 16 xKn [(0, xR (-3)), (1, xR 1), (2, xR 81)] [] h (xEq (some r0) h0) := by
  unfold f_Law_law_16 at hf
  refine J_iconst dL_law_16 (by decide) ?_
  refine J_istore_n (ls' := [(3, xI 0), (0, xR (-3)), (1, xR 1), (2, xR 81)]) dL_law_17 rfl (xbl rfl) rfl rfl ?_
  refine J_sub [1, 2, 3, 0] rfl ?_
  exact j_Law_law_18 hL  hf
