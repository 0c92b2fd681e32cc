/-! the machine follows the functions -/
theorem dX12_near_0 : decode cX12_near 0 = .ok (.aload_n 0, 1) := by decide +kernel
theorem dX12_near_1 : decode cX12_near 1 = .ok (.invokevirtual 241, 3) := by decide +kernel
theorem dX12_near_4 : decode cX12_near 4 = .ok (.istore_n 2, 1) := by decide +kernel
theorem dX12_near_5 : decode cX12_near 5 = .ok (.iload_n 2, 1) := by decide +kernel
theorem dX12_near_6 : decode cX12_near 6 = .ok (.ifCond .eq 14, 3) := by decide +kernel
theorem dX12_near_9 : decode cX12_near 9 = .ok (.iload_n 1, 1) := by decide +kernel
theorem dX12_near_10 : decode cX12_near 10 = .ok (.iconst 0, 1) := by decide +kernel
theorem dX12_near_11 : decode cX12_near 11 = .ok (.ldc_w 367, 3) := by decide +kernel
theorem dX12_near_14 : decode cX12_near 14 = .ok (.invokestatic 215, 3) := by decide +kernel
theorem dX12_near_17 : decode cX12_near 17 = .ok (.ifCond .ne 6, 3) := by decide +kernel
theorem dX12_near_20 : decode cX12_near 20 = .ok (.bipush (-2), 2) := by decide +kernel
theorem dX12_near_22 : decode cX12_near 22 = .ok (.ireturn, 1) := by decide +kernel
theorem dX12_near_23 : decode cX12_near 23 = .ok (.aload_n 0, 1) := by decide +kernel
theorem dX12_near_24 : decode cX12_near 24 = .ok (.iconst 0, 1) := by decide +kernel
theorem dX12_near_25 : decode cX12_near 25 = .ok (.invokevirtual 326, 3) := by decide +kernel
theorem dX12_near_28 : decode cX12_near 28 = .ok (.aload_n 0, 1) := by decide +kernel
theorem dX12_near_29 : decode cX12_near 29 = .ok (.iload_n 1, 1) := by decide +kernel
theorem dX12_near_30 : decode cX12_near 30 = .ok (.invokevirtual 368, 3) := by decide +kernel
theorem dX12_near_33 : decode cX12_near 33 = .ok (.aload_n 0, 1) := by decide +kernel
theorem dX12_near_34 : decode cX12_near 34 = .ok (.iload_n 1, 1) := by decide +kernel
theorem dX12_near_35 : decode cX12_near 35 = .ok (.iconst 0, 1) := by decide +kernel
theorem dX12_near_36 : decode cX12_near 36 = .ok (.invokevirtual 371, 3) := by decide +kernel
theorem dX12_near_39 : decode cX12_near 39 = .ok (.aload_n 0, 1) := by decide +kernel
theorem dX12_near_40 : decode cX12_near 40 = .ok (.sipush 200, 3) := by decide +kernel
theorem dX12_near_43 : decode cX12_near 43 = .ok (.invokevirtual 375, 3) := by decide +kernel
theorem dX12_near_46 : decode cX12_near 46 = .ok (.ireturn, 1) := by decide +kernel
theorem jm_Md_near {l1 : Int} {h : xH} {r0 : Int} {h0 : xH}  (hf : f_Md_near l1 h = some (r0, h0)) : J mX12_near true 0 0 0 xKn (xen 0 [xR 81, xI l1]) [] h (xEq (some r0) h0) := by
  unfold f_Md_near at hf
  refine J_cong (ls2 := [(0, xR 81), (1, xI l1)]) (st2 := []) rfl rfl ?_
  refine J_aload_n 0 dX12_near_0 rfl rfl ?_
  obtain ⟨r1, h2, hq, hf⟩ := xc2_e hf
  refine J_cVi (Mc := mX12_readsOne) [] dX12_near_1 (fc_Md_readsOne.fit ⟨xbl rfl, xbl rfl⟩) rfl ⟨Or.inl xq1290, xq1292, xq89⟩ kO81 (ci := 12) rfl rfl (xbl rfl) (xbl rfl) (jm_Md_readsOne  hq) ?_
  refine J_istore_n (ls' := [(2, xI r1), (0, xR 81), (1, xI l1)]) dX12_near_4 rfl (by decide) rfl rfl ?_
  refine J_iload_n 0 dX12_near_5 rfl rfl ?_
  refine J_if_eq (tgt := 20) dX12_near_6 (by decide) (fun hc => ?_) (fun hc => ?_)
  · have hf := xip hc hf
    refine J_bip dX12_near_20 (by decide) ?_
    exact J_ireti dX12_near_22 rfl (xq_i hf)
  · have hf := xin' hc hf
    refine J_iload_n 2 dX12_near_9 rfl rfl ?_
    refine J_iconst dX12_near_10 (by decide) ?_
    refine J_ldcw (v := 99999) dX12_near_11 xq1403 (by decide) ?_
    obtain ⟨r3, hq, hf⟩ := xc1_e hf
    refine J_cSi (Mc := mX12_in) [xI l1, xI 0, xI 99999] dX12_near_14 (fc_Md_in.fit ⟨xbl rfl, xbl rfl⟩) rfl ⟨Or.inl xq1283, xq1284⟩ rfl (xbl rfl) (xbl rfl) (jm_Md_in  hq) ?_
    refine J_if_ne (tgt := 23) dX12_near_17 (by decide) (fun hc => ?_) (fun hc => ?_)
    · have hf := xip hc hf
      refine J_bip dX12_near_20 (by decide) ?_
      exact J_ireti dX12_near_22 rfl (xq_i hf)
    · have hf := xin' hc hf
      refine J_aload_n 1 dX12_near_23 rfl rfl ?_
      refine J_iconst dX12_near_24 (by decide) ?_
      obtain ⟨h4, hq, hf⟩ := xc1_e hf
      refine J_cVv (Mc := mX12_takeB) [xI 0] dX12_near_25 (fc_Md_takeB.fit ⟨xbl rfl, xbl rfl⟩) rfl ⟨Or.inl xq1362, xq1364, xq98⟩ kO81 (ci := 12) rfl rfl (xbl rfl) (xbl rfl) (jm_Md_takeB  hq) ?_
      refine J_aload_n 1 dX12_near_28 rfl rfl ?_
      refine J_iload_n 2 dX12_near_29 rfl rfl ?_
      obtain ⟨h5, hq, hf⟩ := xc1_e hf
      refine J_cVv (Mc := mX12_walk) [xI l1] dX12_near_30 (fc_Md_walk.fit ⟨xbl rfl, xbl rfl⟩) rfl ⟨Or.inl xq1404, xq1406, xq106⟩ kO81 (ci := 12) rfl rfl (xbl rfl) (xbl rfl) (jm_Md_walk  hq) ?_
      refine J_aload_n 1 dX12_near_33 rfl rfl ?_
      refine J_iload_n 2 dX12_near_34 rfl rfl ?_
      refine J_iconst dX12_near_35 (by decide) ?_
      obtain ⟨h6, hq, hf⟩ := xc1_e hf
      refine J_cVv (Mc := mX12_tries) [xI l1, xI 0] dX12_near_36 (fc_Md_tries.fit ⟨xbl rfl, xbl rfl⟩) rfl ⟨Or.inl xq1420, xq1422, xq110⟩ kO81 (ci := 12) rfl rfl (xbl rfl) (xbl rfl) (jm_Md_tries  hq) ?_
      refine J_aload_n 1 dX12_near_39 rfl rfl ?_
      refine J_sip dX12_near_40 (by decide) ?_
      obtain ⟨r7, h8, hq, hf⟩ := xc2_e hf
      refine J_cVi (Mc := mX12_keeps) [xI 200] dX12_near_43 (fc_Md_keeps.fit ⟨xbl rfl, xbl rfl⟩) rfl ⟨Or.inl xq1448, xq1450, xq116⟩ kO81 (ci := 12) rfl rfl (xbl rfl) (xbl rfl) (jm_Md_keeps  hq) ?_
      exact J_ireti dX12_near_46 rfl (xq_i hf)
theorem dX12_nearest_0 : decode cX12_nearest 0 = .ok (.aload_n 0, 1) := by decide +kernel
theorem dX12_nearest_1 : decode cX12_nearest 1 = .ok (.invokevirtual 241, 3) := by decide +kernel
theorem dX12_nearest_4 : decode cX12_nearest 4 = .ok (.istore_n 2, 1) := by decide +kernel
theorem dX12_nearest_5 : decode cX12_nearest 5 = .ok (.iload_n 2, 1) := by decide +kernel
theorem dX12_nearest_6 : decode cX12_nearest 6 = .ok (.ifCond .eq 14, 3) := by decide +kernel
theorem dX12_nearest_9 : decode cX12_nearest 9 = .ok (.iload_n 1, 1) := by decide +kernel
theorem dX12_nearest_10 : decode cX12_nearest 10 = .ok (.iconst 1, 1) := by decide +kernel
theorem dX12_nearest_11 : decode cX12_nearest 11 = .ok (.sipush 200, 3) := by decide +kernel
theorem dX12_nearest_14 : decode cX12_nearest 14 = .ok (.invokestatic 215, 3) := by decide +kernel
theorem dX12_nearest_17 : decode cX12_nearest 17 = .ok (.ifCond .ne 6, 3) := by decide +kernel
theorem dX12_nearest_20 : decode cX12_nearest 20 = .ok (.bipush (-2), 2) := by decide +kernel
theorem dX12_nearest_22 : decode cX12_nearest 22 = .ok (.ireturn, 1) := by decide +kernel
theorem dX12_nearest_23 : decode cX12_nearest 23 = .ok (.aload_n 0, 1) := by decide +kernel
theorem dX12_nearest_24 : decode cX12_nearest 24 = .ok (.iconst 0, 1) := by decide +kernel
theorem dX12_nearest_25 : decode cX12_nearest 25 = .ok (.invokevirtual 326, 3) := by decide +kernel
theorem dX12_nearest_28 : decode cX12_nearest 28 = .ok (.aload_n 0, 1) := by decide +kernel
theorem dX12_nearest_29 : decode cX12_nearest 29 = .ok (.ldc_w 378, 3) := by decide +kernel
theorem dX12_nearest_32 : decode cX12_nearest 32 = .ok (.iconst 0, 1) := by decide +kernel
theorem dX12_nearest_33 : decode cX12_nearest 33 = .ok (.invokevirtual 371, 3) := by decide +kernel
theorem dX12_nearest_36 : decode cX12_nearest 36 = .ok (.aload_n 0, 1) := by decide +kernel
theorem dX12_nearest_37 : decode cX12_nearest 37 = .ok (.iload_n 1, 1) := by decide +kernel
theorem dX12_nearest_38 : decode cX12_nearest 38 = .ok (.invokevirtual 375, 3) := by decide +kernel
theorem dX12_nearest_41 : decode cX12_nearest 41 = .ok (.ireturn, 1) := by decide +kernel
theorem jm_Md_nearest {l1 : Int} {h : xH} {r0 : Int} {h0 : xH}  (hf : f_Md_nearest l1 h = some (r0, h0)) : J mX12_nearest true 0 0 0 xKn (xen 0 [xR 81, xI l1]) [] h (xEq (some r0) h0) := by
  unfold f_Md_nearest at hf
  refine J_cong (ls2 := [(0, xR 81), (1, xI l1)]) (st2 := []) rfl rfl ?_
  refine J_aload_n 0 dX12_nearest_0 rfl rfl ?_
  obtain ⟨r1, h2, hq, hf⟩ := xc2_e hf
  refine J_cVi (Mc := mX12_readsOne) [] dX12_nearest_1 (fc_Md_readsOne.fit ⟨xbl rfl, xbl rfl⟩) rfl ⟨Or.inl xq1290, xq1292, xq89⟩ kO81 (ci := 12) rfl rfl (xbl rfl) (xbl rfl) (jm_Md_readsOne  hq) ?_
  refine J_istore_n (ls' := [(2, xI r1), (0, xR 81), (1, xI l1)]) dX12_nearest_4 rfl (by decide) rfl rfl ?_
  refine J_iload_n 0 dX12_nearest_5 rfl rfl ?_
  refine J_if_eq (tgt := 20) dX12_nearest_6 (by decide) (fun hc => ?_) (fun hc => ?_)
  · have hf := xip hc hf
    refine J_bip dX12_nearest_20 (by decide) ?_
    exact J_ireti dX12_nearest_22 rfl (xq_i hf)
  · have hf := xin' hc hf
    refine J_iload_n 2 dX12_nearest_9 rfl rfl ?_
    refine J_iconst dX12_nearest_10 (by decide) ?_
    refine J_sip dX12_nearest_11 (by decide) ?_
    obtain ⟨r3, hq, hf⟩ := xc1_e hf
    refine J_cSi (Mc := mX12_in) [xI l1, xI 1, xI 200] dX12_nearest_14 (fc_Md_in.fit ⟨xbl rfl, xbl rfl⟩) rfl ⟨Or.inl xq1283, xq1284⟩ rfl (xbl rfl) (xbl rfl) (jm_Md_in  hq) ?_
    refine J_if_ne (tgt := 23) dX12_nearest_17 (by decide) (fun hc => ?_) (fun hc => ?_)
    · have hf := xip hc hf
      refine J_bip dX12_nearest_20 (by decide) ?_
      exact J_ireti dX12_nearest_22 rfl (xq_i hf)
    · have hf := xin' hc hf
      refine J_aload_n 1 dX12_nearest_23 rfl rfl ?_
      refine J_iconst dX12_nearest_24 (by decide) ?_
      obtain ⟨h4, hq, hf⟩ := xc1_e hf
      refine J_cVv (Mc := mX12_takeB) [xI 0] dX12_nearest_25 (fc_Md_takeB.fit ⟨xbl rfl, xbl rfl⟩) rfl ⟨Or.inl xq1362, xq1364, xq98⟩ kO81 (ci := 12) rfl rfl (xbl rfl) (xbl rfl) (jm_Md_takeB  hq) ?_
      refine J_aload_n 1 dX12_nearest_28 rfl rfl ?_
      refine J_ldcw (v := 2000000) dX12_nearest_29 xq1456 (by decide) ?_
      refine J_iconst dX12_nearest_32 (by decide) ?_
      obtain ⟨h5, hq, hf⟩ := xc1_e hf
      refine J_cVv (Mc := mX12_tries) [xI 2000000, xI 0] dX12_nearest_33 (fc_Md_tries.fit ⟨xbl rfl, xbl rfl⟩) rfl ⟨Or.inl xq1420, xq1422, xq110⟩ kO81 (ci := 12) rfl rfl (xbl rfl) (xbl rfl) (jm_Md_tries  hq) ?_
      refine J_aload_n 1 dX12_nearest_36 rfl rfl ?_
      refine J_iload_n 2 dX12_nearest_37 rfl rfl ?_
      obtain ⟨r6, h7, hq, hf⟩ := xc2_e hf
      refine J_cVi (Mc := mX12_keeps) [xI l1] dX12_nearest_38 (fc_Md_keeps.fit ⟨xbl rfl, xbl rfl⟩) rfl ⟨Or.inl xq1448, xq1450, xq116⟩ kO81 (ci := 12) rfl rfl (xbl rfl) (xbl rfl) (jm_Md_keeps  hq) ?_
      exact J_ireti dX12_nearest_41 rfl (xq_i hf)
theorem dX12_complete_0 : decode cX12_complete 0 = .ok (.aload_n 0, 1) := by decide +kernel
theorem dX12_complete_1 : decode cX12_complete 1 = .ok (.invokevirtual 241, 3) := by decide +kernel
theorem dX12_complete_4 : decode cX12_complete 4 = .ok (.istore_n 2, 1) := by decide +kernel
theorem dX12_complete_5 : decode cX12_complete 5 = .ok (.iload_n 2, 1) := by decide +kernel
theorem dX12_complete_6 : decode cX12_complete 6 = .ok (.ifCond .eq 14, 3) := by decide +kernel
theorem dX12_complete_9 : decode cX12_complete 9 = .ok (.iload_n 1, 1) := by decide +kernel
theorem dX12_complete_10 : decode cX12_complete 10 = .ok (.iconst 0, 1) := by decide +kernel
theorem dX12_complete_11 : decode cX12_complete 11 = .ok (.ldc_w 367, 3) := by decide +kernel
theorem dX12_complete_14 : decode cX12_complete 14 = .ok (.invokestatic 215, 3) := by decide +kernel
theorem dX12_complete_17 : decode cX12_complete 17 = .ok (.ifCond .ne 6, 3) := by decide +kernel
theorem dX12_complete_20 : decode cX12_complete 20 = .ok (.bipush (-2), 2) := by decide +kernel
theorem dX12_complete_22 : decode cX12_complete 22 = .ok (.ireturn, 1) := by decide +kernel
theorem dX12_complete_23 : decode cX12_complete 23 = .ok (.aload_n 0, 1) := by decide +kernel
theorem dX12_complete_24 : decode cX12_complete 24 = .ok (.iconst 0, 1) := by decide +kernel
theorem dX12_complete_25 : decode cX12_complete 25 = .ok (.invokevirtual 326, 3) := by decide +kernel
theorem dX12_complete_28 : decode cX12_complete 28 = .ok (.aload_n 0, 1) := by decide +kernel
theorem dX12_complete_29 : decode cX12_complete 29 = .ok (.iload_n 1, 1) := by decide +kernel
theorem dX12_complete_30 : decode cX12_complete 30 = .ok (.invokevirtual 368, 3) := by decide +kernel
theorem dX12_complete_33 : decode cX12_complete 33 = .ok (.aload_n 0, 1) := by decide +kernel
theorem dX12_complete_34 : decode cX12_complete 34 = .ok (.iload_n 1, 1) := by decide +kernel
theorem dX12_complete_35 : decode cX12_complete 35 = .ok (.iconst 1, 1) := by decide +kernel
theorem dX12_complete_36 : decode cX12_complete 36 = .ok (.invokevirtual 371, 3) := by decide +kernel
theorem dX12_complete_39 : decode cX12_complete 39 = .ok (.aload_n 0, 1) := by decide +kernel
theorem dX12_complete_40 : decode cX12_complete 40 = .ok (.sipush 200, 3) := by decide +kernel
theorem dX12_complete_43 : decode cX12_complete 43 = .ok (.invokevirtual 375, 3) := by decide +kernel
theorem dX12_complete_46 : decode cX12_complete 46 = .ok (.ireturn, 1) := by decide +kernel
theorem jm_Md_complete {l1 : Int} {h : xH} {r0 : Int} {h0 : xH}  (hf : f_Md_complete l1 h = some (r0, h0)) : J mX12_complete true 0 0 0 xKn (xen 0 [xR 81, xI l1]) [] h (xEq (some r0) h0) := by
  unfold f_Md_complete at hf
  refine J_cong (ls2 := [(0, xR 81), (1, xI l1)]) (st2 := []) rfl rfl ?_
  refine J_aload_n 0 dX12_complete_0 rfl rfl ?_
  obtain ⟨r1, h2, hq, hf⟩ := xc2_e hf
  refine J_cVi (Mc := mX12_readsOne) [] dX12_complete_1 (fc_Md_readsOne.fit ⟨xbl rfl, xbl rfl⟩) rfl ⟨Or.inl xq1290, xq1292, xq89⟩ kO81 (ci := 12) rfl rfl (xbl rfl) (xbl rfl) (jm_Md_readsOne  hq) ?_
  refine J_istore_n (ls' := [(2, xI r1), (0, xR 81), (1, xI l1)]) dX12_complete_4 rfl (by decide) rfl rfl ?_
  refine J_iload_n 0 dX12_complete_5 rfl rfl ?_
  refine J_if_eq (tgt := 20) dX12_complete_6 (by decide) (fun hc => ?_) (fun hc => ?_)
  · have hf := xip hc hf
    refine J_bip dX12_complete_20 (by decide) ?_
    exact J_ireti dX12_complete_22 rfl (xq_i hf)
  · have hf := xin' hc hf
    refine J_iload_n 2 dX12_complete_9 rfl rfl ?_
    refine J_iconst dX12_complete_10 (by decide) ?_
    refine J_ldcw (v := 99999) dX12_complete_11 xq1403 (by decide) ?_
    obtain ⟨r3, hq, hf⟩ := xc1_e hf
    refine J_cSi (Mc := mX12_in) [xI l1, xI 0, xI 99999] dX12_complete_14 (fc_Md_in.fit ⟨xbl rfl, xbl rfl⟩) rfl ⟨Or.inl xq1283, xq1284⟩ rfl (xbl rfl) (xbl rfl) (jm_Md_in  hq) ?_
    refine J_if_ne (tgt := 23) dX12_complete_17 (by decide) (fun hc => ?_) (fun hc => ?_)
    · have hf := xip hc hf
      refine J_bip dX12_complete_20 (by decide) ?_
      exact J_ireti dX12_complete_22 rfl (xq_i hf)
    · have hf := xin' hc hf
      refine J_aload_n 1 dX12_complete_23 rfl rfl ?_
      refine J_iconst dX12_complete_24 (by decide) ?_
      obtain ⟨h4, hq, hf⟩ := xc1_e hf
      refine J_cVv (Mc := mX12_takeB) [xI 0] dX12_complete_25 (fc_Md_takeB.fit ⟨xbl rfl, xbl rfl⟩) rfl ⟨Or.inl xq1362, xq1364, xq98⟩ kO81 (ci := 12) rfl rfl (xbl rfl) (xbl rfl) (jm_Md_takeB  hq) ?_
      refine J_aload_n 1 dX12_complete_28 rfl rfl ?_
      refine J_iload_n 2 dX12_complete_29 rfl rfl ?_
      obtain ⟨h5, hq, hf⟩ := xc1_e hf
      refine J_cVv (Mc := mX12_walk) [xI l1] dX12_complete_30 (fc_Md_walk.fit ⟨xbl rfl, xbl rfl⟩) rfl ⟨Or.inl xq1404, xq1406, xq106⟩ kO81 (ci := 12) rfl rfl (xbl rfl) (xbl rfl) (jm_Md_walk  hq) ?_
      refine J_aload_n 1 dX12_complete_33 rfl rfl ?_
      refine J_iload_n 2 dX12_complete_34 rfl rfl ?_
      refine J_iconst dX12_complete_35 (by decide) ?_
      obtain ⟨h6, hq, hf⟩ := xc1_e hf
      refine J_cVv (Mc := mX12_tries) [xI l1, xI 1] dX12_complete_36 (fc_Md_tries.fit ⟨xbl rfl, xbl rfl⟩) rfl ⟨Or.inl xq1420, xq1422, xq110⟩ kO81 (ci := 12) rfl rfl (xbl rfl) (xbl rfl) (jm_Md_tries  hq) ?_
      refine J_aload_n 1 dX12_complete_39 rfl rfl ?_
      refine J_sip dX12_complete_40 (by decide) ?_
      obtain ⟨r7, h8, hq, hf⟩ := xc2_e hf
      refine J_cVi (Mc := mX12_keeps) [xI 200] dX12_complete_43 (fc_Md_keeps.fit ⟨xbl rfl, xbl rfl⟩) rfl ⟨Or.inl xq1448, xq1450, xq116⟩ kO81 (ci := 12) rfl rfl (xbl rfl) (xbl rfl) (jm_Md_keeps  hq) ?_
      exact J_ireti dX12_complete_46 rfl (xq_i hf)
theorem dX12_found_0 : decode cX12_found 0 = .ok (.iload_n 2, 1) := by decide +kernel
theorem dX12_found_1 : decode cX12_found 1 = .ok (.iconst 0, 1) := by decide +kernel
theorem dX12_found_2 : decode cX12_found 2 = .ok (.iconst 2, 1) := by decide +kernel
theorem dX12_found_3 : decode cX12_found 3 = .ok (.invokestatic 215, 3) := by decide +kernel
theorem dX12_found_6 : decode cX12_found 6 = .ok (.ifCond .ne 6, 3) := by decide +kernel
theorem dX12_found_9 : decode cX12_found 9 = .ok (.bipush (-2), 2) := by decide +kernel
theorem dX12_found_11 : decode cX12_found 11 = .ok (.ireturn, 1) := by decide +kernel
theorem dX12_found_12 : decode cX12_found 12 = .ok (.iload_n 1, 1) := by decide +kernel
theorem dX12_found_13 : decode cX12_found 13 = .ok (.iconst 0, 1) := by decide +kernel
theorem dX12_found_14 : decode cX12_found 14 = .ok (.aload_n 0, 1) := by decide +kernel
theorem dX12_found_15 : decode cX12_found 15 = .ok (.getfield 278, 3) := by decide +kernel
theorem dX12_found_18 : decode cX12_found 18 = .ok (.iconst 1, 1) := by decide +kernel
theorem dX12_found_19 : decode cX12_found 19 = .ok (.isub, 1) := by decide +kernel
theorem dX12_found_20 : decode cX12_found 20 = .ok (.invokestatic 215, 3) := by decide +kernel
theorem dX12_found_23 : decode cX12_found 23 = .ok (.ifCond .ne 5, 3) := by decide +kernel
theorem dX12_found_26 : decode cX12_found 26 = .ok (.iconst (-1), 1) := by decide +kernel
theorem dX12_found_27 : decode cX12_found 27 = .ok (.ireturn, 1) := by decide +kernel
theorem dX12_found_28 : decode cX12_found 28 = .ok (.iload_n 2, 1) := by decide +kernel
theorem dX12_found_29 : decode cX12_found 29 = .ok (.ifCond .ne 12, 3) := by decide +kernel
theorem dX12_found_32 : decode cX12_found 32 = .ok (.aload_n 0, 1) := by decide +kernel
theorem dX12_found_33 : decode cX12_found 33 = .ok (.getfield 137, 3) := by decide +kernel
theorem dX12_found_36 : decode cX12_found 36 = .ok (.iload_n 1, 1) := by decide +kernel
theorem dX12_found_37 : decode cX12_found 37 = .ok (.iaload, 1) := by decide +kernel
theorem dX12_found_38 : decode cX12_found 38 = .ok (.goto 23, 3) := by decide +kernel
theorem dX12_found_41 : decode cX12_found 41 = .ok (.iload_n 2, 1) := by decide +kernel
theorem dX12_found_42 : decode cX12_found 42 = .ok (.iconst 1, 1) := by decide +kernel
theorem dX12_found_43 : decode cX12_found 43 = .ok (.if_icmp .ne 12, 3) := by decide +kernel
theorem dX12_found_46 : decode cX12_found 46 = .ok (.aload_n 0, 1) := by decide +kernel
theorem dX12_found_47 : decode cX12_found 47 = .ok (.getfield 140, 3) := by decide +kernel
theorem dX12_found_50 : decode cX12_found 50 = .ok (.iload_n 1, 1) := by decide +kernel
theorem dX12_found_51 : decode cX12_found 51 = .ok (.iaload, 1) := by decide +kernel
theorem dX12_found_52 : decode cX12_found 52 = .ok (.goto 9, 3) := by decide +kernel
theorem dX12_found_55 : decode cX12_found 55 = .ok (.aload_n 0, 1) := by decide +kernel
theorem dX12_found_56 : decode cX12_found 56 = .ok (.getfield 143, 3) := by decide +kernel
theorem dX12_found_59 : decode cX12_found 59 = .ok (.iload_n 1, 1) := by decide +kernel
theorem dX12_found_60 : decode cX12_found 60 = .ok (.iaload, 1) := by decide +kernel
theorem dX12_found_61 : decode cX12_found 61 = .ok (.ireturn, 1) := by decide +kernel
theorem jm_Md_found {l1 : Int} {l2 : Int} {h : xH} {r0 : Int}  (hf : f_Md_found l1 l2 h = some r0) : J mX12_found true 0 0 0 xKn (xen 0 [xR 81, xI l1, xI l2]) [] h (xEq (some r0) h) := by
  unfold f_Md_found at hf
  refine J_cong (ls2 := [(0, xR 81), (1, xI l1), (2, xI l2)]) (st2 := []) rfl rfl ?_
  refine J_iload_n 2 dX12_found_0 rfl rfl ?_
  refine J_iconst dX12_found_1 (by decide) ?_
  refine J_iconst dX12_found_2 (by decide) ?_
  obtain ⟨r1, hq, hf⟩ := xc1_e hf
  refine J_cSi (Mc := mX12_in) [xI l2, xI 0, xI 2] dX12_found_3 (fc_Md_in.fit ⟨xbl rfl, xbl rfl⟩) rfl ⟨Or.inl xq1283, xq1284⟩ rfl (xbl rfl) (xbl rfl) (jm_Md_in  hq) ?_
  refine J_if_ne (tgt := 12) dX12_found_6 (by decide) (fun hc => ?_) (fun hc => ?_)
  · have hf := xip hc hf
    refine J_bip dX12_found_9 (by decide) ?_
    exact J_ireti dX12_found_11 rfl (xq_p hf)
  · have hf := xin' hc hf
    refine J_iload_n 1 dX12_found_12 rfl rfl ?_
    refine J_iconst dX12_found_13 (by decide) ?_
    refine J_aload_n 0 dX12_found_14 rfl rfl ?_
    refine J_getI (j := 53) xcf12 dX12_found_15 (xK_rg kO81) kO81 (Or.inl xq1073) (by decide) (by decide) ?_
    refine J_iconst dX12_found_18 (by decide) ?_
    refine J_isub dX12_found_19 ?_
    obtain ⟨r2, hq, hf⟩ := xc1_e hf
    refine J_cSi (Mc := mX12_in) [xI l1, xI 0, xI (w32 ((h 81 53) - 1))] dX12_found_20 (fc_Md_in.fit ⟨xbl rfl, xbl rfl⟩) rfl ⟨Or.inl xq1283, xq1284⟩ rfl (xbl rfl) (xbl rfl) (jm_Md_in  hq) ?_
    refine J_if_ne (tgt := 28) dX12_found_23 (by decide) (fun hc => ?_) (fun hc => ?_)
    · have hf := xip hc hf
      refine J_iconst dX12_found_26 (by decide) ?_
      exact J_ireti dX12_found_27 rfl (xq_p hf)
    · have hf := xin' hc hf
      refine J_iload_n 2 dX12_found_28 rfl rfl ?_
      refine J_if_ne (tgt := 41) dX12_found_29 (by decide) (fun hc => ?_) (fun hc => ?_)
      · have hf := xip hc hf
        refine J_aload_n 0 dX12_found_32 rfl rfl ?_
        refine J_getRl (j := 54) xcf12 dX12_found_33 kO81 (Or.inl xq1074) (by decide) (by decide) rf_81_54 ?_
        refine J_iload_n 1 dX12_found_36 rfl rfl ?_
        obtain ⟨hg, hf⟩ := xgd_e hf
        refine J_iald dX12_found_37 (xK_r1 kO121) kO121 hg nA121 ?_
        refine J_goto (tgt := 61) dX12_found_38 (by decide) ?_
        exact J_ireti dX12_found_61 rfl (xq_p hf)
      · have hf := xin' hc hf
        refine J_iload_n 2 dX12_found_41 rfl rfl ?_
        refine J_iconst dX12_found_42 (by decide) ?_
        refine J_ic_ne (tgt := 55) dX12_found_43 (by decide) (fun hc => ?_) (fun hc => ?_)
        · have hf := xip hc hf
          refine J_aload_n 0 dX12_found_46 rfl rfl ?_
          refine J_getRl (j := 55) xcf12 dX12_found_47 kO81 (Or.inl xq1075) (by decide) (by decide) rf_81_55 ?_
          refine J_iload_n 1 dX12_found_50 rfl rfl ?_
          obtain ⟨hg, hf⟩ := xgd_e hf
          refine J_iald dX12_found_51 (xK_r1 kO122) kO122 hg nA122 ?_
          refine J_goto (tgt := 61) dX12_found_52 (by decide) ?_
          exact J_ireti dX12_found_61 rfl (xq_p hf)
        · have hf := xin' hc hf
          refine J_aload_n 0 dX12_found_55 rfl rfl ?_
          refine J_getRl (j := 56) xcf12 dX12_found_56 kO81 (Or.inl xq1076) (by decide) (by decide) rf_81_56 ?_
          refine J_iload_n 1 dX12_found_59 rfl rfl ?_
          obtain ⟨hg, hf⟩ := xgd_e hf
          refine J_iald dX12_found_60 (xK_r1 kO123) kO123 hg nA123 ?_
          exact J_ireti dX12_found_61 rfl (xq_p hf)
theorem dX12_node_0 : decode cX12_node 0 = .ok (.iload_n 2, 1) := by decide +kernel
theorem dX12_node_1 : decode cX12_node 1 = .ok (.ifCond .ge 6, 3) := by decide +kernel
theorem dX12_node_4 : decode cX12_node 4 = .ok (.bipush (-2), 2) := by decide +kernel
theorem dX12_node_6 : decode cX12_node 6 = .ok (.ireturn, 1) := by decide +kernel
theorem dX12_node_7 : decode cX12_node 7 = .ok (.iload_n 1, 1) := by decide +kernel
theorem dX12_node_8 : decode cX12_node 8 = .ok (.iconst 0, 1) := by decide +kernel
theorem dX12_node_9 : decode cX12_node 9 = .ok (.aload_n 0, 1) := by decide +kernel
theorem dX12_node_10 : decode cX12_node 10 = .ok (.getfield 272, 3) := by decide +kernel
theorem dX12_node_13 : decode cX12_node 13 = .ok (.iconst 1, 1) := by decide +kernel
theorem dX12_node_14 : decode cX12_node 14 = .ok (.isub, 1) := by decide +kernel
theorem dX12_node_15 : decode cX12_node 15 = .ok (.invokestatic 215, 3) := by decide +kernel
theorem dX12_node_18 : decode cX12_node 18 = .ok (.ifCond .ne 5, 3) := by decide +kernel
theorem dX12_node_21 : decode cX12_node 21 = .ok (.iconst (-1), 1) := by decide +kernel
theorem dX12_node_22 : decode cX12_node 22 = .ok (.ireturn, 1) := by decide +kernel
theorem dX12_node_23 : decode cX12_node 23 = .ok (.iload_n 2, 1) := by decide +kernel
theorem dX12_node_24 : decode cX12_node 24 = .ok (.tableswitch 71 0 4 #[36, 43, 50, 57, 64], 36) := by decide +kernel
theorem dX12_node_60 : decode cX12_node 60 = .ok (.aload_n 0, 1) := by decide +kernel
theorem dX12_node_61 : decode cX12_node 61 = .ok (.getfield 104, 3) := by decide +kernel
theorem dX12_node_64 : decode cX12_node 64 = .ok (.iload_n 1, 1) := by decide +kernel
theorem dX12_node_65 : decode cX12_node 65 = .ok (.iaload, 1) := by decide +kernel
theorem dX12_node_66 : decode cX12_node 66 = .ok (.ireturn, 1) := by decide +kernel
theorem dX12_node_67 : decode cX12_node 67 = .ok (.aload_n 0, 1) := by decide +kernel
theorem dX12_node_68 : decode cX12_node 68 = .ok (.getfield 107, 3) := by decide +kernel
theorem dX12_node_71 : decode cX12_node 71 = .ok (.iload_n 1, 1) := by decide +kernel
theorem dX12_node_72 : decode cX12_node 72 = .ok (.iaload, 1) := by decide +kernel
theorem dX12_node_73 : decode cX12_node 73 = .ok (.ireturn, 1) := by decide +kernel
theorem dX12_node_74 : decode cX12_node 74 = .ok (.aload_n 0, 1) := by decide +kernel
theorem dX12_node_75 : decode cX12_node 75 = .ok (.getfield 110, 3) := by decide +kernel
theorem dX12_node_78 : decode cX12_node 78 = .ok (.iload_n 1, 1) := by decide +kernel
theorem dX12_node_79 : decode cX12_node 79 = .ok (.iaload, 1) := by decide +kernel
theorem dX12_node_80 : decode cX12_node 80 = .ok (.ireturn, 1) := by decide +kernel
theorem dX12_node_81 : decode cX12_node 81 = .ok (.aload_n 0, 1) := by decide +kernel
theorem dX12_node_82 : decode cX12_node 82 = .ok (.getfield 113, 3) := by decide +kernel
theorem dX12_node_85 : decode cX12_node 85 = .ok (.iload_n 1, 1) := by decide +kernel
theorem dX12_node_86 : decode cX12_node 86 = .ok (.iaload, 1) := by decide +kernel
theorem dX12_node_87 : decode cX12_node 87 = .ok (.ireturn, 1) := by decide +kernel
theorem dX12_node_88 : decode cX12_node 88 = .ok (.aload_n 0, 1) := by decide +kernel
theorem dX12_node_89 : decode cX12_node 89 = .ok (.getfield 116, 3) := by decide +kernel
theorem dX12_node_92 : decode cX12_node 92 = .ok (.iload_n 1, 1) := by decide +kernel
theorem dX12_node_93 : decode cX12_node 93 = .ok (.iaload, 1) := by decide +kernel
theorem dX12_node_94 : decode cX12_node 94 = .ok (.ireturn, 1) := by decide +kernel
theorem dX12_node_95 : decode cX12_node 95 = .ok (.iload_n 2, 1) := by decide +kernel
theorem dX12_node_96 : decode cX12_node 96 = .ok (.iconst 5, 1) := by decide +kernel
theorem dX12_node_97 : decode cX12_node 97 = .ok (.isub, 1) := by decide +kernel
theorem dX12_node_98 : decode cX12_node 98 = .ok (.aload_n 0, 1) := by decide +kernel
theorem dX12_node_99 : decode cX12_node 99 = .ok (.getfield 341, 3) := by decide +kernel
theorem dX12_node_102 : decode cX12_node 102 = .ok (.if_icmp .gt 19, 3) := by decide +kernel
theorem dX12_node_105 : decode cX12_node 105 = .ok (.aload_n 0, 1) := by decide +kernel
theorem dX12_node_106 : decode cX12_node 106 = .ok (.getfield 119, 3) := by decide +kernel
theorem dX12_node_109 : decode cX12_node 109 = .ok (.bipush 13, 2) := by decide +kernel
theorem dX12_node_111 : decode cX12_node 111 = .ok (.iload_n 1, 1) := by decide +kernel
theorem dX12_node_112 : decode cX12_node 112 = .ok (.imul, 1) := by decide +kernel
theorem dX12_node_113 : decode cX12_node 113 = .ok (.iload_n 2, 1) := by decide +kernel
theorem dX12_node_114 : decode cX12_node 114 = .ok (.iadd, 1) := by decide +kernel
theorem dX12_node_115 : decode cX12_node 115 = .ok (.iconst 5, 1) := by decide +kernel
theorem dX12_node_116 : decode cX12_node 116 = .ok (.isub, 1) := by decide +kernel
theorem dX12_node_117 : decode cX12_node 117 = .ok (.iaload, 1) := by decide +kernel
theorem dX12_node_118 : decode cX12_node 118 = .ok (.goto 4, 3) := by decide +kernel
theorem dX12_node_121 : decode cX12_node 121 = .ok (.iconst (-1), 1) := by decide +kernel
theorem dX12_node_122 : decode cX12_node 122 = .ok (.ireturn, 1) := by decide +kernel
theorem jm_Md_node {l1 : Int} {l2 : Int} {h : xH} {r0 : Int}  (hf : f_Md_node l1 l2 h = some r0) : J mX12_node true 0 0 0 xKn (xen 0 [xR 81, xI l1, xI l2]) [] h (xEq (some r0) h) := by
  unfold f_Md_node at hf
  refine J_cong (ls2 := [(0, xR 81), (1, xI l1), (2, xI l2)]) (st2 := []) rfl rfl ?_
  refine J_iload_n 2 dX12_node_0 rfl rfl ?_
  refine J_if_ge (tgt := 7) dX12_node_1 (by decide) (fun hc => ?_) (fun hc => ?_)
  · have hf := xip hc hf
    refine J_bip dX12_node_4 (by decide) ?_
    exact J_ireti dX12_node_6 rfl (xq_p hf)
  · have hf := xin' hc hf
    refine J_iload_n 1 dX12_node_7 rfl rfl ?_
    refine J_iconst dX12_node_8 (by decide) ?_
    refine J_aload_n 0 dX12_node_9 rfl rfl ?_
    refine J_getI (j := 39) xcf12 dX12_node_10 (xK_rg kO81) kO81 (Or.inl xq1059) (by decide) (by decide) ?_
    refine J_iconst dX12_node_13 (by decide) ?_
    refine J_isub dX12_node_14 ?_
    obtain ⟨r1, hq, hf⟩ := xc1_e hf
    refine J_cSi (Mc := mX12_in) [xI l1, xI 0, xI (w32 ((h 81 39) - 1))] dX12_node_15 (fc_Md_in.fit ⟨xbl rfl, xbl rfl⟩) rfl ⟨Or.inl xq1283, xq1284⟩ rfl (xbl rfl) (xbl rfl) (jm_Md_in  hq) ?_
    refine J_if_ne (tgt := 23) dX12_node_18 (by decide) (fun hc => ?_) (fun hc => ?_)
    · have hf := xip hc hf
      refine J_iconst dX12_node_21 (by decide) ?_
      exact J_ireti dX12_node_22 rfl (xq_p hf)
    · have hf := xin' hc hf
      refine J_iload_n 2 dX12_node_23 rfl rfl ?_
      refine J_by (c := l2 = 0) (fun hc0 => ?_) (fun hc0 => ?_)
      · have hf := xip hc0 hf
        refine J_tswIn (tgt := 60) dX12_node_24 0 hc0 (by decide) (by decide) rfl (by decide) ?_
        refine J_aload_n 0 dX12_node_60 rfl rfl ?_
        refine J_getRl (j := 41) xcf12 dX12_node_61 kO81 (Or.inl xq1061) (by decide) (by decide) rf_81_41 ?_
        refine J_iload_n 1 dX12_node_64 rfl rfl ?_
        obtain ⟨hg, hf⟩ := xgd_e hf
        refine J_iald dX12_node_65 (xK_r1 kO110) kO110 hg nA110 ?_
        exact J_ireti dX12_node_66 rfl (xq_p hf)
      · have hf := xin' hc0 hf
        refine J_by (c := l2 = 1) (fun hc1 => ?_) (fun hc1 => ?_)
        · have hf := xip hc1 hf
          refine J_tswIn (tgt := 67) dX12_node_24 1 hc1 (by decide) (by decide) rfl (by decide) ?_
          refine J_aload_n 0 dX12_node_67 rfl rfl ?_
          refine J_getRl (j := 42) xcf12 dX12_node_68 kO81 (Or.inl xq1062) (by decide) (by decide) rf_81_42 ?_
          refine J_iload_n 1 dX12_node_71 rfl rfl ?_
          obtain ⟨hg, hf⟩ := xgd_e hf
          refine J_iald dX12_node_72 (xK_r1 kO111) kO111 hg nA111 ?_
          exact J_ireti dX12_node_73 rfl (xq_p hf)
        · have hf := xin' hc1 hf
          refine J_by (c := l2 = 2) (fun hc2 => ?_) (fun hc2 => ?_)
          · have hf := xip hc2 hf
            refine J_tswIn (tgt := 74) dX12_node_24 2 hc2 (by decide) (by decide) rfl (by decide) ?_
            refine J_aload_n 0 dX12_node_74 rfl rfl ?_
            refine J_getRl (j := 43) xcf12 dX12_node_75 kO81 (Or.inl xq1063) (by decide) (by decide) rf_81_43 ?_
            refine J_iload_n 1 dX12_node_78 rfl rfl ?_
            obtain ⟨hg, hf⟩ := xgd_e hf
            refine J_iald dX12_node_79 (xK_r1 kO112) kO112 hg nA112 ?_
            exact J_ireti dX12_node_80 rfl (xq_p hf)
          · have hf := xin' hc2 hf
            refine J_by (c := l2 = 3) (fun hc3 => ?_) (fun hc3 => ?_)
            · have hf := xip hc3 hf
              refine J_tswIn (tgt := 81) dX12_node_24 3 hc3 (by decide) (by decide) rfl (by decide) ?_
              refine J_aload_n 0 dX12_node_81 rfl rfl ?_
              refine J_getRl (j := 44) xcf12 dX12_node_82 kO81 (Or.inl xq1064) (by decide) (by decide) rf_81_44 ?_
              refine J_iload_n 1 dX12_node_85 rfl rfl ?_
              obtain ⟨hg, hf⟩ := xgd_e hf
              refine J_iald dX12_node_86 (xK_r1 kO113) kO113 hg nA113 ?_
              exact J_ireti dX12_node_87 rfl (xq_p hf)
            · have hf := xin' hc3 hf
              refine J_by (c := l2 = 4) (fun hc4 => ?_) (fun hc4 => ?_)
              · have hf := xip hc4 hf
                refine J_tswIn (tgt := 88) dX12_node_24 4 hc4 (by decide) (by decide) rfl (by decide) ?_
                refine J_aload_n 0 dX12_node_88 rfl rfl ?_
                refine J_getRl (j := 45) xcf12 dX12_node_89 kO81 (Or.inl xq1065) (by decide) (by decide) rf_81_45 ?_
                refine J_iload_n 1 dX12_node_92 rfl rfl ?_
                obtain ⟨hg, hf⟩ := xgd_e hf
                refine J_iald dX12_node_93 (xK_r1 kO114) kO114 hg nA114 ?_
                exact J_ireti dX12_node_94 rfl (xq_p hf)
              · have hf := xin' hc4 hf
                refine J_tswOut (tgt := 95) dX12_node_24 (by omega) (by decide) ?_
                refine J_iload_n 2 dX12_node_95 rfl rfl ?_
                refine J_iconst dX12_node_96 (by decide) ?_
                refine J_isub dX12_node_97 ?_
                refine J_aload_n 0 dX12_node_98 rfl rfl ?_
                refine J_getI (j := 47) xcf12 dX12_node_99 (xK_rg kO81) kO81 (Or.inl xq1067) (by decide) (by decide) ?_
                refine J_ic_gt (tgt := 121) dX12_node_102 (by decide) (fun hc => ?_) (fun hc => ?_)
                · have hf := xip hc hf
                  refine J_iconst dX12_node_121 (by decide) ?_
                  exact J_ireti dX12_node_122 rfl (xq_p hf)
                · have hf := xin' hc hf
                  refine J_aload_n 0 dX12_node_105 rfl rfl ?_
                  refine J_getRl (j := 46) xcf12 dX12_node_106 kO81 (Or.inl xq1066) (by decide) (by decide) rf_81_46 ?_
                  refine J_bip dX12_node_109 (by decide) ?_
                  refine J_iload_n 1 dX12_node_111 rfl rfl ?_
                  refine J_imul dX12_node_112 ?_
                  refine J_iload_n 2 dX12_node_113 rfl rfl ?_
                  refine J_iadd dX12_node_114 ?_
                  refine J_iconst dX12_node_115 (by decide) ?_
                  refine J_isub dX12_node_116 ?_
                  obtain ⟨hg, hf⟩ := xgd_e hf
                  refine J_iald dX12_node_117 (xK_r1 kO115) kO115 hg nA115 ?_
                  refine J_goto (tgt := 122) dX12_node_118 (by decide) ?_
                  exact J_ireti dX12_node_122 rfl (xq_p hf)
theorem dX12_pair_0 : decode cX12_pair 0 = .ok (.aload_n 0, 1) := by decide +kernel
theorem dX12_pair_1 : decode cX12_pair 1 = .ok (.bipush 12, 2) := by decide +kernel
theorem dX12_pair_3 : decode cX12_pair 3 = .ok (.invokevirtual 281, 3) := by decide +kernel
theorem dX12_pair_6 : decode cX12_pair 6 = .ok (.ifCond .ne 6, 3) := by decide +kernel
theorem dX12_pair_9 : decode cX12_pair 9 = .ok (.bipush (-2), 2) := by decide +kernel
theorem dX12_pair_11 : decode cX12_pair 11 = .ok (.ireturn, 1) := by decide +kernel
theorem dX12_pair_12 : decode cX12_pair 12 = .ok (.aload_n 0, 1) := by decide +kernel
theorem dX12_pair_13 : decode cX12_pair 13 = .ok (.getfield 269, 3) := by decide +kernel
theorem dX12_pair_16 : decode cX12_pair 16 = .ok (.bipush 40, 2) := by decide +kernel
theorem dX12_pair_18 : decode cX12_pair 18 = .ok (.if_icmp .ne 6, 3) := by decide +kernel
theorem dX12_pair_21 : decode cX12_pair 21 = .ok (.bipush (-4), 2) := by decide +kernel
theorem dX12_pair_23 : decode cX12_pair 23 = .ok (.ireturn, 1) := by decide +kernel
theorem dX12_pair_24 : decode cX12_pair 24 = .ok (.aload_n 0, 1) := by decide +kernel
theorem dX12_pair_25 : decode cX12_pair 25 = .ok (.getfield 155, 3) := by decide +kernel
theorem dX12_pair_28 : decode cX12_pair 28 = .ok (.aload_n 0, 1) := by decide +kernel
theorem dX12_pair_29 : decode cX12_pair 29 = .ok (.getfield 269, 3) := by decide +kernel
theorem dX12_pair_32 : decode cX12_pair 32 = .ok (.aload_n 0, 1) := by decide +kernel
theorem dX12_pair_33 : decode cX12_pair 33 = .ok (.getfield 13, 3) := by decide +kernel
theorem dX12_pair_36 : decode cX12_pair 36 = .ok (.iconst 0, 1) := by decide +kernel
theorem dX12_pair_37 : decode cX12_pair 37 = .ok (.iaload, 1) := by decide +kernel
theorem dX12_pair_38 : decode cX12_pair 38 = .ok (.iastore, 1) := by decide +kernel
theorem dX12_pair_39 : decode cX12_pair 39 = .ok (.aload_n 0, 1) := by decide +kernel
theorem dX12_pair_40 : decode cX12_pair 40 = .ok (.getfield 161, 3) := by decide +kernel
theorem dX12_pair_43 : decode cX12_pair 43 = .ok (.aload_n 0, 1) := by decide +kernel
theorem dX12_pair_44 : decode cX12_pair 44 = .ok (.getfield 269, 3) := by decide +kernel
theorem dX12_pair_47 : decode cX12_pair 47 = .ok (.aload_n 0, 1) := by decide +kernel
theorem dX12_pair_48 : decode cX12_pair 48 = .ok (.getfield 13, 3) := by decide +kernel
theorem dX12_pair_51 : decode cX12_pair 51 = .ok (.iconst 1, 1) := by decide +kernel
theorem dX12_pair_52 : decode cX12_pair 52 = .ok (.iaload, 1) := by decide +kernel
theorem dX12_pair_53 : decode cX12_pair 53 = .ok (.iastore, 1) := by decide +kernel
theorem dX12_pair_54 : decode cX12_pair 54 = .ok (.iconst 0, 1) := by decide +kernel
theorem dX12_pair_55 : decode cX12_pair 55 = .ok (.istore_n 1, 1) := by decide +kernel
theorem dX12_pair_56 : decode cX12_pair 56 = .ok (.iload_n 1, 1) := by decide +kernel
theorem dX12_pair_57 : decode cX12_pair 57 = .ok (.bipush 12, 2) := by decide +kernel
theorem dX12_pair_59 : decode cX12_pair 59 = .ok (.if_icmp .ge 52, 3) := by decide +kernel
theorem dX12_pair_62 : decode cX12_pair 62 = .ok (.aload_n 0, 1) := by decide +kernel
theorem dX12_pair_63 : decode cX12_pair 63 = .ok (.getfield 158, 3) := by decide +kernel
theorem dX12_pair_66 : decode cX12_pair 66 = .ok (.bipush 12, 2) := by decide +kernel
theorem dX12_pair_68 : decode cX12_pair 68 = .ok (.aload_n 0, 1) := by decide +kernel
theorem dX12_pair_69 : decode cX12_pair 69 = .ok (.getfield 269, 3) := by decide +kernel
theorem dX12_pair_72 : decode cX12_pair 72 = .ok (.imul, 1) := by decide +kernel
theorem dX12_pair_73 : decode cX12_pair 73 = .ok (.iload_n 1, 1) := by decide +kernel
theorem dX12_pair_74 : decode cX12_pair 74 = .ok (.iadd, 1) := by decide +kernel
theorem dX12_pair_75 : decode cX12_pair 75 = .ok (.aload_n 0, 1) := by decide +kernel
theorem dX12_pair_76 : decode cX12_pair 76 = .ok (.getfield 16, 3) := by decide +kernel
theorem dX12_pair_79 : decode cX12_pair 79 = .ok (.iload_n 1, 1) := by decide +kernel
theorem dX12_pair_80 : decode cX12_pair 80 = .ok (.iaload, 1) := by decide +kernel
theorem dX12_pair_81 : decode cX12_pair 81 = .ok (.iastore, 1) := by decide +kernel
theorem dX12_pair_82 : decode cX12_pair 82 = .ok (.aload_n 0, 1) := by decide +kernel
theorem dX12_pair_83 : decode cX12_pair 83 = .ok (.getfield 164, 3) := by decide +kernel
theorem dX12_pair_86 : decode cX12_pair 86 = .ok (.bipush 12, 2) := by decide +kernel
theorem dX12_pair_88 : decode cX12_pair 88 = .ok (.aload_n 0, 1) := by decide +kernel
theorem dX12_pair_89 : decode cX12_pair 89 = .ok (.getfield 269, 3) := by decide +kernel
theorem dX12_pair_92 : decode cX12_pair 92 = .ok (.imul, 1) := by decide +kernel
theorem dX12_pair_93 : decode cX12_pair 93 = .ok (.iload_n 1, 1) := by decide +kernel
theorem dX12_pair_94 : decode cX12_pair 94 = .ok (.iadd, 1) := by decide +kernel
theorem dX12_pair_95 : decode cX12_pair 95 = .ok (.aload_n 0, 1) := by decide +kernel
theorem dX12_pair_96 : decode cX12_pair 96 = .ok (.getfield 16, 3) := by decide +kernel
theorem dX12_pair_99 : decode cX12_pair 99 = .ok (.bipush 12, 2) := by decide +kernel
theorem dX12_pair_101 : decode cX12_pair 101 = .ok (.iload_n 1, 1) := by decide +kernel
theorem dX12_pair_102 : decode cX12_pair 102 = .ok (.iadd, 1) := by decide +kernel
theorem dX12_pair_103 : decode cX12_pair 103 = .ok (.iaload, 1) := by decide +kernel
theorem dX12_pair_104 : decode cX12_pair 104 = .ok (.iastore, 1) := by decide +kernel
theorem dX12_pair_105 : decode cX12_pair 105 = .ok (.iinc 1 1, 3) := by decide +kernel
theorem dX12_pair_108 : decode cX12_pair 108 = .ok (.goto (-52), 3) := by decide +kernel
theorem dX12_pair_111 : decode cX12_pair 111 = .ok (.aload_n 0, 1) := by decide +kernel
theorem dX12_pair_112 : decode cX12_pair 112 = .ok (.dup, 1) := by decide +kernel
theorem dX12_pair_113 : decode cX12_pair 113 = .ok (.getfield 269, 3) := by decide +kernel
theorem dX12_pair_116 : decode cX12_pair 116 = .ok (.dup_x1, 1) := by decide +kernel
theorem dX12_pair_117 : decode cX12_pair 117 = .ok (.iconst 1, 1) := by decide +kernel
theorem dX12_pair_118 : decode cX12_pair 118 = .ok (.iadd, 1) := by decide +kernel
theorem dX12_pair_119 : decode cX12_pair 119 = .ok (.putfield 269, 3) := by decide +kernel
theorem dX12_pair_122 : decode cX12_pair 122 = .ok (.ireturn, 1) := by decide +kernel
theorem j_Md_pair_111  {h : xH} {r0 : Int} {h0 : xH}  (hf : f_Md_pair_111 h = some (r0, h0))  : J mX12_pair true 0 0 111 xKn [(0, xR 81)] [] h (xEq (some r0) h0) := by
  unfold f_Md_pair_111 at hf
  refine J_aload_n 0 dX12_pair_111 rfl rfl ?_
  refine J_dup dX12_pair_112 rfl ?_
  refine J_getI (j := 61) xcf12 dX12_pair_113 (xK_rg kO81) kO81 (Or.inl xq1081) (by decide) (by decide) ?_
  refine J_dupx1 dX12_pair_116 rfl rfl ?_
  refine J_iconst dX12_pair_117 (by decide) ?_
  refine J_iadd dX12_pair_118 ?_
  obtain ⟨h1, eh1, hf⟩ := xlet_e hf
  refine J_putI (j := 61) xcf12 dX12_pair_119 (xK_rg kO81) kO81 (Or.inl xq1081) (by decide) (by decide) eh1 ?_
  exact J_ireti dX12_pair_122 rfl (xq_i hf)
theorem j_Md_pair_s56 {l1 : Int} {h : xH} {x : ((Int × xH) ⊕ xH)} {Q : xQ}  (hf : f_Md_pair_s56 l1 h = some x) (kb : ∀ (l1' : Int) (h' : xH), x = Sum.inl (l1', h') → J mX12_pair true 0 0 56 xKn [(0, xR 81), (1, xI l1')] [] h' Q) (ke : ∀  (h' : xH), x = (Sum.inr h') → J mX12_pair true 0 0 111 xKn [(0, xR 81)] [] h' Q) : J mX12_pair true 0 0 56 xKn [(0, xR 81), (1, xI l1)] [] h Q := by
  unfold f_Md_pair_s56 at hf
  refine J_iload_n 1 dX12_pair_56 rfl rfl ?_
  refine J_bip dX12_pair_57 (by decide) ?_
  refine J_ic_ge (tgt := 111) dX12_pair_59 (by decide) (fun hc => ?_) (fun hc => ?_)
  · have hf := xip hc hf
    refine J_aload_n 0 dX12_pair_62 rfl rfl ?_
    refine J_getRl (j := 63) xcf12 dX12_pair_63 kO81 (Or.inl xq1083) (by decide) (by decide) rf_81_63 ?_
    refine J_bip dX12_pair_66 (by decide) ?_
    refine J_aload_n 0 dX12_pair_68 rfl rfl ?_
    refine J_getI (j := 61) xcf12 dX12_pair_69 (xK_rg kO81) kO81 (Or.inl xq1081) (by decide) (by decide) ?_
    refine J_imul dX12_pair_72 ?_
    refine J_iload_n 1 dX12_pair_73 rfl rfl ?_
    refine J_iadd dX12_pair_74 ?_
    refine J_aload_n 0 dX12_pair_75 rfl rfl ?_
    refine J_getRl (j := 4) xcf12 dX12_pair_76 kO81 (Or.inl xq1024) (by decide) (by decide) rf_81_4 ?_
    refine J_iload_n 1 dX12_pair_79 rfl rfl ?_
    obtain ⟨hg, hf⟩ := xgd_e hf
    refine J_iald dX12_pair_80 (xK_r1 kO84) kO84 hg nA84 ?_
    obtain ⟨hg, hf⟩ := xgd_e hf
    obtain ⟨h1, eh1, hf⟩ := xlet_e hf
    refine J_iast dX12_pair_81 (xK_r1 kO128) kO128 hg nA128 eh1 ?_
    refine J_aload_n 0 dX12_pair_82 rfl rfl ?_
    refine J_getRl (j := 65) xcf12 dX12_pair_83 kO81 (Or.inl xq1085) (by decide) (by decide) rf_81_65 ?_
    refine J_bip dX12_pair_86 (by decide) ?_
    refine J_aload_n 0 dX12_pair_88 rfl rfl ?_
    refine J_getI (j := 61) xcf12 dX12_pair_89 (xK_rg kO81) kO81 (Or.inl xq1081) (by decide) (by decide) ?_
    refine J_imul dX12_pair_92 ?_
    refine J_iload_n 1 dX12_pair_93 rfl rfl ?_
    refine J_iadd dX12_pair_94 ?_
    refine J_aload_n 0 dX12_pair_95 rfl rfl ?_
    refine J_getRl (j := 4) xcf12 dX12_pair_96 kO81 (Or.inl xq1024) (by decide) (by decide) rf_81_4 ?_
    refine J_bip dX12_pair_99 (by decide) ?_
    refine J_iload_n 1 dX12_pair_101 rfl rfl ?_
    refine J_iadd dX12_pair_102 ?_
    obtain ⟨hg, hf⟩ := xgd_e hf
    refine J_iald dX12_pair_103 (xK_r1 kO84) kO84 hg nA84 ?_
    obtain ⟨hg, hf⟩ := xgd_e hf
    obtain ⟨h2, eh2, hf⟩ := xlet_e hf
    refine J_iast dX12_pair_104 (xK_r1 kO130) kO130 hg nA130 eh2 ?_
    obtain ⟨x3, ex3, hf⟩ := xlet_e hf
    refine J_iinc (ls' := [(1, xI x3), (0, xR 81)]) 1 dX12_pair_105 rfl (by decide) ex3 rfl ?_
    refine J_goto (tgt := 56) dX12_pair_108 (by decide) ?_
    refine J_sub [1, 0] rfl ?_
    exact kb _ _ (xinl hf)
  · have hf := xin' hc hf
    refine J_sub [0] rfl ?_
    exact ke _ (xinl hf)
theorem j_Md_pair_56 {l1 : Int} {h : xH} {r0 : Int} {h0 : xH}  (hf : f_Md_pair_56 l1 h = some (r0, h0))  : J mX12_pair true 0 0 56 xKn [(0, xR 81), (1, xI l1)] [] h (xEq (some r0) h0) := by
  unfold f_Md_pair_56 at hf
  obtain ⟨b0, hb0, hf⟩ := xc1_e hf
  refine xloop_ind (P := fun s : (Int × xH) => J mX12_pair true 0 0 56 xKn [(0, xR 81), (1, xI s.1)] [] s.2 (xEq (some r0) h0)) hb0 (fun s x1 hs ib ie => ?_)
  exact j_Md_pair_s56  hs (fun _ _ e => ib _ e) (fun _ e => by have := ie _ e; subst this; exact j_Md_pair_111  hf)
theorem jm_Md_pair  {h : xH} {r0 : Int} {h0 : xH}  (hf : f_Md_pair h = some (r0, h0)) : J mX12_pair true 0 0 0 xKn (xen 0 [xR 81]) [] h (xEq (some r0) h0) := by
  unfold f_Md_pair at hf
  refine J_cong (ls2 := [(0, xR 81)]) (st2 := []) rfl rfl ?_
  refine J_aload_n 0 dX12_pair_0 rfl rfl ?_
  refine J_bip dX12_pair_1 (by decide) ?_
  obtain ⟨r1, h2, hq, hf⟩ := xc2_e hf
  refine J_cVi (Mc := mX12_readsTwo) [xI 12] dX12_pair_3 (fc_Md_readsTwo.fit ⟨xbl rfl, xbl rfl⟩) rfl ⟨Or.inl xq1346, xq1348, xq96⟩ kO81 (ci := 12) rfl rfl (xbl rfl) (xbl rfl) (jm_Md_readsTwo  hq) ?_
  refine J_if_ne (tgt := 12) dX12_pair_6 (by decide) (fun hc => ?_) (fun hc => ?_)
  · have hf := xip hc hf
    refine J_bip dX12_pair_9 (by decide) ?_
    exact J_ireti dX12_pair_11 rfl (xq_i hf)
  · have hf := xin' hc hf
    refine J_aload_n 0 dX12_pair_12 rfl rfl ?_
    refine J_getI (j := 61) xcf12 dX12_pair_13 (xK_rg kO81) kO81 (Or.inl xq1081) (by decide) (by decide) ?_
    refine J_bip dX12_pair_16 (by decide) ?_
    refine J_ic_ne (tgt := 24) dX12_pair_18 (by decide) (fun hc => ?_) (fun hc => ?_)
    · have hf := xip hc hf
      refine J_bip dX12_pair_21 (by decide) ?_
      exact J_ireti dX12_pair_23 rfl (xq_i hf)
    · have hf := xin' hc hf
      refine J_aload_n 0 dX12_pair_24 rfl rfl ?_
      refine J_getRl (j := 62) xcf12 dX12_pair_25 kO81 (Or.inl xq1082) (by decide) (by decide) rf_81_62 ?_
      refine J_aload_n 0 dX12_pair_28 rfl rfl ?_
      refine J_getI (j := 61) xcf12 dX12_pair_29 (xK_rg kO81) kO81 (Or.inl xq1081) (by decide) (by decide) ?_
      refine J_aload_n 0 dX12_pair_32 rfl rfl ?_
      refine J_getRl (j := 3) xcf12 dX12_pair_33 kO81 (Or.inl xq1023) (by decide) (by decide) rf_81_3 ?_
      refine J_iconst dX12_pair_36 (by decide) ?_
      obtain ⟨hg, hf⟩ := xgd_e hf
      refine J_iald dX12_pair_37 (xK_r1 kO83) kO83 hg nA83 ?_
      obtain ⟨hg, hf⟩ := xgd_e hf
      obtain ⟨h3, eh3, hf⟩ := xlet_e hf
      refine J_iast dX12_pair_38 (xK_r1 kO127) kO127 hg nA127 eh3 ?_
      refine J_aload_n 0 dX12_pair_39 rfl rfl ?_
      refine J_getRl (j := 64) xcf12 dX12_pair_40 kO81 (Or.inl xq1084) (by decide) (by decide) rf_81_64 ?_
      refine J_aload_n 0 dX12_pair_43 rfl rfl ?_
      refine J_getI (j := 61) xcf12 dX12_pair_44 (xK_rg kO81) kO81 (Or.inl xq1081) (by decide) (by decide) ?_
      refine J_aload_n 0 dX12_pair_47 rfl rfl ?_
      refine J_getRl (j := 3) xcf12 dX12_pair_48 kO81 (Or.inl xq1023) (by decide) (by decide) rf_81_3 ?_
      refine J_iconst dX12_pair_51 (by decide) ?_
      obtain ⟨hg, hf⟩ := xgd_e hf
      refine J_iald dX12_pair_52 (xK_r1 kO83) kO83 hg nA83 ?_
      obtain ⟨hg, hf⟩ := xgd_e hf
      obtain ⟨h4, eh4, hf⟩ := xlet_e hf
      refine J_iast dX12_pair_53 (xK_r1 kO129) kO129 hg nA129 eh4 ?_
      refine J_iconst dX12_pair_54 (by decide) ?_
      refine J_istore_n (ls' := [(1, xI 0), (0, xR 81)]) dX12_pair_55 rfl (by decide) rfl rfl ?_
      refine J_sub [1, 0] rfl ?_
      exact j_Md_pair_56  hf
theorem dX12_takePair_0 : decode cX12_takePair 0 = .ok (.aload_n 0, 1) := by decide +kernel
theorem dX12_takePair_1 : decode cX12_takePair 1 = .ok (.aload_n 0, 1) := by decide +kernel
theorem dX12_takePair_2 : decode cX12_takePair 2 = .ok (.getfield 155, 3) := by decide +kernel
theorem dX12_takePair_5 : decode cX12_takePair 5 = .ok (.iload_n 1, 1) := by decide +kernel
theorem dX12_takePair_6 : decode cX12_takePair 6 = .ok (.iaload, 1) := by decide +kernel
theorem dX12_takePair_7 : decode cX12_takePair 7 = .ok (.putfield 228, 3) := by decide +kernel
theorem dX12_takePair_10 : decode cX12_takePair 10 = .ok (.aload_n 0, 1) := by decide +kernel
theorem dX12_takePair_11 : decode cX12_takePair 11 = .ok (.aload_n 0, 1) := by decide +kernel
theorem dX12_takePair_12 : decode cX12_takePair 12 = .ok (.getfield 161, 3) := by decide +kernel
theorem dX12_takePair_15 : decode cX12_takePair 15 = .ok (.iload_n 1, 1) := by decide +kernel
theorem dX12_takePair_16 : decode cX12_takePair 16 = .ok (.iaload, 1) := by decide +kernel
theorem dX12_takePair_17 : decode cX12_takePair 17 = .ok (.putfield 231, 3) := by decide +kernel
theorem dX12_takePair_20 : decode cX12_takePair 20 = .ok (.iconst 0, 1) := by decide +kernel
theorem dX12_takePair_21 : decode cX12_takePair 21 = .ok (.istore_n 2, 1) := by decide +kernel
theorem dX12_takePair_22 : decode cX12_takePair 22 = .ok (.iload_n 2, 1) := by decide +kernel
theorem dX12_takePair_23 : decode cX12_takePair 23 = .ok (.bipush 12, 2) := by decide +kernel
theorem dX12_takePair_25 : decode cX12_takePair 25 = .ok (.if_icmp .ge 43, 3) := by decide +kernel
theorem dX12_takePair_28 : decode cX12_takePair 28 = .ok (.aload_n 0, 1) := by decide +kernel
theorem dX12_takePair_29 : decode cX12_takePair 29 = .ok (.getfield 62, 3) := by decide +kernel
theorem dX12_takePair_32 : decode cX12_takePair 32 = .ok (.iload_n 2, 1) := by decide +kernel
theorem dX12_takePair_33 : decode cX12_takePair 33 = .ok (.aload_n 0, 1) := by decide +kernel
theorem dX12_takePair_34 : decode cX12_takePair 34 = .ok (.getfield 158, 3) := by decide +kernel
theorem dX12_takePair_37 : decode cX12_takePair 37 = .ok (.bipush 12, 2) := by decide +kernel
theorem dX12_takePair_39 : decode cX12_takePair 39 = .ok (.iload_n 1, 1) := by decide +kernel
theorem dX12_takePair_40 : decode cX12_takePair 40 = .ok (.imul, 1) := by decide +kernel
theorem dX12_takePair_41 : decode cX12_takePair 41 = .ok (.iload_n 2, 1) := by decide +kernel
theorem dX12_takePair_42 : decode cX12_takePair 42 = .ok (.iadd, 1) := by decide +kernel
theorem dX12_takePair_43 : decode cX12_takePair 43 = .ok (.iaload, 1) := by decide +kernel
theorem dX12_takePair_44 : decode cX12_takePair 44 = .ok (.iastore, 1) := by decide +kernel
theorem dX12_takePair_45 : decode cX12_takePair 45 = .ok (.aload_n 0, 1) := by decide +kernel
theorem dX12_takePair_46 : decode cX12_takePair 46 = .ok (.getfield 65, 3) := by decide +kernel
theorem dX12_takePair_49 : decode cX12_takePair 49 = .ok (.iload_n 2, 1) := by decide +kernel
theorem dX12_takePair_50 : decode cX12_takePair 50 = .ok (.aload_n 0, 1) := by decide +kernel
theorem dX12_takePair_51 : decode cX12_takePair 51 = .ok (.getfield 164, 3) := by decide +kernel
theorem dX12_takePair_54 : decode cX12_takePair 54 = .ok (.bipush 12, 2) := by decide +kernel
theorem dX12_takePair_56 : decode cX12_takePair 56 = .ok (.iload_n 1, 1) := by decide +kernel
theorem dX12_takePair_57 : decode cX12_takePair 57 = .ok (.imul, 1) := by decide +kernel
theorem dX12_takePair_58 : decode cX12_takePair 58 = .ok (.iload_n 2, 1) := by decide +kernel
theorem dX12_takePair_59 : decode cX12_takePair 59 = .ok (.iadd, 1) := by decide +kernel
theorem dX12_takePair_60 : decode cX12_takePair 60 = .ok (.iaload, 1) := by decide +kernel
theorem dX12_takePair_61 : decode cX12_takePair 61 = .ok (.iastore, 1) := by decide +kernel
theorem dX12_takePair_62 : decode cX12_takePair 62 = .ok (.iinc 2 1, 3) := by decide +kernel
theorem dX12_takePair_65 : decode cX12_takePair 65 = .ok (.goto (-43), 3) := by decide +kernel
theorem dX12_takePair_68 : decode cX12_takePair 68 = .ok (.return_, 1) := by decide +kernel
theorem j_Md_takePair_68  {h : xH} {h0 : xH}  (hf : f_Md_takePair_68 h = some h0)  : J mX12_takePair true 0 0 68 xKn [] [] h (xEq none h0) := by
  unfold f_Md_takePair_68 at hf
  exact J_rt dX12_takePair_68 rfl (xq_v hf)
theorem j_Md_takePair_s22 {l1 : Int} {l2 : Int} {h : xH} {x : ((Int × xH) ⊕ xH)} {Q : xQ}  (hf : f_Md_takePair_s22 l1 l2 h = some x) (kb : ∀ (l2' : Int) (h' : xH), x = Sum.inl (l2', h') → J mX12_takePair true 0 0 22 xKn [(0, xR 81), (1, xI l1), (2, xI l2')] [] h' Q) (ke : ∀  (h' : xH), x = (Sum.inr h') → J mX12_takePair true 0 0 68 xKn [] [] h' Q) : J mX12_takePair true 0 0 22 xKn [(0, xR 81), (1, xI l1), (2, xI l2)] [] h Q := by
  unfold f_Md_takePair_s22 at hf
  refine J_iload_n 2 dX12_takePair_22 rfl rfl ?_
  refine J_bip dX12_takePair_23 (by decide) ?_
  refine J_ic_ge (tgt := 68) dX12_takePair_25 (by decide) (fun hc => ?_) (fun hc => ?_)
  · have hf := xip hc hf
    refine J_aload_n 0 dX12_takePair_28 rfl rfl ?_
    refine J_getRl (j := 24) xcf12 dX12_takePair_29 kO81 (Or.inl xq1044) (by decide) (by decide) rf_81_24 ?_
    refine J_iload_n 2 dX12_takePair_32 rfl rfl ?_
    refine J_aload_n 0 dX12_takePair_33 rfl rfl ?_
    refine J_getRl (j := 63) xcf12 dX12_takePair_34 kO81 (Or.inl xq1083) (by decide) (by decide) rf_81_63 ?_
    refine J_bip dX12_takePair_37 (by decide) ?_
    refine J_iload_n 1 dX12_takePair_39 rfl rfl ?_
    refine J_imul dX12_takePair_40 ?_
    refine J_iload_n 2 dX12_takePair_41 rfl rfl ?_
    refine J_iadd dX12_takePair_42 ?_
    obtain ⟨hg, hf⟩ := xgd_e hf
    refine J_iald dX12_takePair_43 (xK_r1 kO128) kO128 hg nA128 ?_
    obtain ⟨hg, hf⟩ := xgd_e hf
    obtain ⟨h1, eh1, hf⟩ := xlet_e hf
    refine J_iast dX12_takePair_44 (xK_r1 kO97) kO97 hg nA97 eh1 ?_
    refine J_aload_n 0 dX12_takePair_45 rfl rfl ?_
    refine J_getRl (j := 25) xcf12 dX12_takePair_46 kO81 (Or.inl xq1045) (by decide) (by decide) rf_81_25 ?_
    refine J_iload_n 2 dX12_takePair_49 rfl rfl ?_
    refine J_aload_n 0 dX12_takePair_50 rfl rfl ?_
    refine J_getRl (j := 65) xcf12 dX12_takePair_51 kO81 (Or.inl xq1085) (by decide) (by decide) rf_81_65 ?_
    refine J_bip dX12_takePair_54 (by decide) ?_
    refine J_iload_n 1 dX12_takePair_56 rfl rfl ?_
    refine J_imul dX12_takePair_57 ?_
    refine J_iload_n 2 dX12_takePair_58 rfl rfl ?_
    refine J_iadd dX12_takePair_59 ?_
    obtain ⟨hg, hf⟩ := xgd_e hf
    refine J_iald dX12_takePair_60 (xK_r1 kO130) kO130 hg nA130 ?_
    obtain ⟨hg, hf⟩ := xgd_e hf
    obtain ⟨h2, eh2, hf⟩ := xlet_e hf
    refine J_iast dX12_takePair_61 (xK_r1 kO98) kO98 hg nA98 eh2 ?_
    obtain ⟨x3, ex3, hf⟩ := xlet_e hf
    refine J_iinc (ls' := [(2, xI x3), (0, xR 81), (1, xI l1)]) 2 dX12_takePair_62 rfl (by decide) ex3 rfl ?_
    refine J_goto (tgt := 22) dX12_takePair_65 (by decide) ?_
    refine J_sub [1, 2, 0] rfl ?_
    exact kb _ _ (xinl hf)
  · have hf := xin' hc hf
    refine J_sub [] rfl ?_
    exact ke _ (xinl hf)
theorem j_Md_takePair_22 {l1 : Int} {l2 : Int} {h : xH} {h0 : xH}  (hf : f_Md_takePair_22 l1 l2 h = some h0)  : J mX12_takePair true 0 0 22 xKn [(0, xR 81), (1, xI l1), (2, xI l2)] [] h (xEq none h0) := by
  unfold f_Md_takePair_22 at hf
  obtain ⟨b0, hb0, hf⟩ := xc1_e hf
  refine xloop_ind (P := fun s : (Int × xH) => J mX12_takePair true 0 0 22 xKn [(0, xR 81), (1, xI l1), (2, xI s.1)] [] s.2 (xEq none h0)) hb0 (fun s x1 hs ib ie => ?_)
  exact j_Md_takePair_s22  hs (fun _ _ e => ib _ e) (fun _ e => by have := ie _ e; subst this; exact j_Md_takePair_68  hf)
theorem jm_Md_takePair {l1 : Int} {h : xH} {h0 : xH}  (hf : f_Md_takePair l1 h = some h0) : J mX12_takePair true 0 0 0 xKn (xen 0 [xR 81, xI l1]) [] h (xEq none h0) := by
  unfold f_Md_takePair at hf
  refine J_cong (ls2 := [(0, xR 81), (1, xI l1)]) (st2 := []) rfl rfl ?_
  refine J_aload_n 0 dX12_takePair_0 rfl rfl ?_
  refine J_aload_n 0 dX12_takePair_1 rfl rfl ?_
  refine J_getRl (j := 62) xcf12 dX12_takePair_2 kO81 (Or.inl xq1082) (by decide) (by decide) rf_81_62 ?_
  refine J_iload_n 1 dX12_takePair_5 rfl rfl ?_
  obtain ⟨hg, hf⟩ := xgd_e hf
  refine J_iald dX12_takePair_6 (xK_r1 kO127) kO127 hg nA127 ?_
  obtain ⟨h1, eh1, hf⟩ := xlet_e hf
  refine J_putI (j := 22) xcf12 dX12_takePair_7 (xK_rg kO81) kO81 (Or.inl xq1042) (by decide) (by decide) eh1 ?_
  refine J_aload_n 0 dX12_takePair_10 rfl rfl ?_
  refine J_aload_n 0 dX12_takePair_11 rfl rfl ?_
  refine J_getRl (j := 64) xcf12 dX12_takePair_12 kO81 (Or.inl xq1084) (by decide) (by decide) rf_81_64 ?_
  refine J_iload_n 1 dX12_takePair_15 rfl rfl ?_
  obtain ⟨hg, hf⟩ := xgd_e hf
  refine J_iald dX12_takePair_16 (xK_r1 kO129) kO129 hg nA129 ?_
  obtain ⟨h2, eh2, hf⟩ := xlet_e hf
  refine J_putI (j := 23) xcf12 dX12_takePair_17 (xK_rg kO81) kO81 (Or.inl xq1043) (by decide) (by decide) eh2 ?_
  refine J_iconst dX12_takePair_20 (by decide) ?_
  refine J_istore_n (ls' := [(2, xI 0), (0, xR 81), (1, xI l1)]) dX12_takePair_21 rfl (by decide) rfl rfl ?_
  refine J_sub [1, 2, 0] rfl ?_
  exact j_Md_takePair_22  hf
theorem dX12_learn_0 : decode cX12_learn 0 = .ok (.aload_n 0, 1) := by decide +kernel
theorem dX12_learn_1 : decode cX12_learn 1 = .ok (.getfield 269, 3) := by decide +kernel
theorem dX12_learn_4 : decode cX12_learn 4 = .ok (.ifCond .ne 5, 3) := by decide +kernel
theorem dX12_learn_7 : decode cX12_learn 7 = .ok (.iconst 0, 1) := by decide +kernel
theorem dX12_learn_8 : decode cX12_learn 8 = .ok (.ireturn, 1) := by decide +kernel
theorem dX12_learn_9 : decode cX12_learn 9 = .ok (.iconst 0, 1) := by decide +kernel
theorem dX12_learn_10 : decode cX12_learn 10 = .ok (.istore_n 1, 1) := by decide +kernel
theorem dX12_learn_11 : decode cX12_learn 11 = .ok (.iconst 1, 1) := by decide +kernel
theorem dX12_learn_12 : decode cX12_learn 12 = .ok (.istore_n 2, 1) := by decide +kernel
theorem dX12_learn_13 : decode cX12_learn 13 = .ok (.iload_n 2, 1) := by decide +kernel
theorem dX12_learn_14 : decode cX12_learn 14 = .ok (.ifCond .eq 332, 3) := by decide +kernel
theorem dX12_learn_17 : decode cX12_learn 17 = .ok (.iinc 1 1, 3) := by decide +kernel
theorem dX12_learn_20 : decode cX12_learn 20 = .ok (.iload_n 1, 1) := by decide +kernel
theorem dX12_learn_21 : decode cX12_learn 21 = .ok (.iconst 1, 1) := by decide +kernel
theorem dX12_learn_22 : decode cX12_learn 22 = .ok (.if_icmp .le 7, 3) := by decide +kernel
theorem dX12_learn_25 : decode cX12_learn 25 = .ok (.iconst 1, 1) := by decide +kernel
theorem dX12_learn_26 : decode cX12_learn 26 = .ok (.goto 4, 3) := by decide +kernel
theorem dX12_learn_29 : decode cX12_learn 29 = .ok (.iconst 0, 1) := by decide +kernel
theorem dX12_learn_30 : decode cX12_learn 30 = .ok (.istore_n 3, 1) := by decide +kernel
theorem dX12_learn_31 : decode cX12_learn 31 = .ok (.iconst 0, 1) := by decide +kernel
theorem dX12_learn_32 : decode cX12_learn 32 = .ok (.istore 4, 2) := by decide +kernel
theorem dX12_learn_34 : decode cX12_learn 34 = .ok (.iload 4, 2) := by decide +kernel
theorem dX12_learn_36 : decode cX12_learn 36 = .ok (.bipush 7, 2) := by decide +kernel
theorem dX12_learn_38 : decode cX12_learn 38 = .ok (.if_icmp .ge 17, 3) := by decide +kernel
theorem dX12_learn_41 : decode cX12_learn 41 = .ok (.aload_n 0, 1) := by decide +kernel
theorem dX12_learn_42 : decode cX12_learn 42 = .ok (.getfield 173, 3) := by decide +kernel
theorem dX12_learn_45 : decode cX12_learn 45 = .ok (.iload 4, 2) := by decide +kernel
theorem dX12_learn_47 : decode cX12_learn 47 = .ok (.iconst 0, 1) := by decide +kernel
theorem dX12_learn_48 : decode cX12_learn 48 = .ok (.iastore, 1) := by decide +kernel
theorem dX12_learn_49 : decode cX12_learn 49 = .ok (.iinc 4 1, 3) := by decide +kernel
theorem dX12_learn_52 : decode cX12_learn 52 = .ok (.goto (-18), 3) := by decide +kernel
theorem dX12_learn_55 : decode cX12_learn 55 = .ok (.iconst 0, 1) := by decide +kernel
theorem dX12_learn_56 : decode cX12_learn 56 = .ok (.istore 4, 2) := by decide +kernel
theorem dX12_learn_58 : decode cX12_learn 58 = .ok (.iload 4, 2) := by decide +kernel
theorem dX12_learn_60 : decode cX12_learn 60 = .ok (.aload_n 0, 1) := by decide +kernel
theorem dX12_learn_61 : decode cX12_learn 61 = .ok (.getfield 269, 3) := by decide +kernel
theorem dX12_learn_64 : decode cX12_learn 64 = .ok (.if_icmp .ge 181, 3) := by decide +kernel
theorem dX12_learn_67 : decode cX12_learn 67 = .ok (.aload_n 0, 1) := by decide +kernel
theorem dX12_learn_68 : decode cX12_learn 68 = .ok (.iload 4, 2) := by decide +kernel
theorem dX12_learn_70 : decode cX12_learn 70 = .ok (.invokevirtual 379, 3) := by decide +kernel
theorem dX12_learn_73 : decode cX12_learn 73 = .ok (.aload_n 0, 1) := by decide +kernel
theorem dX12_learn_74 : decode cX12_learn 74 = .ok (.invokevirtual 329, 3) := by decide +kernel
theorem dX12_learn_77 : decode cX12_learn 77 = .ok (.aload_n 0, 1) := by decide +kernel
theorem dX12_learn_78 : decode cX12_learn 78 = .ok (.invokevirtual 332, 3) := by decide +kernel
theorem dX12_learn_81 : decode cX12_learn 81 = .ok (.iload_n 1, 1) := by decide +kernel
theorem dX12_learn_82 : decode cX12_learn 82 = .ok (.iconst 1, 1) := by decide +kernel
theorem dX12_learn_83 : decode cX12_learn 83 = .ok (.if_icmp .le 19, 3) := by decide +kernel
theorem dX12_learn_86 : decode cX12_learn 86 = .ok (.aload_n 0, 1) := by decide +kernel
theorem dX12_learn_87 : decode cX12_learn 87 = .ok (.getfield 167, 3) := by decide +kernel
theorem dX12_learn_90 : decode cX12_learn 90 = .ok (.iload 4, 2) := by decide +kernel
theorem dX12_learn_92 : decode cX12_learn 92 = .ok (.iaload, 1) := by decide +kernel
theorem dX12_learn_93 : decode cX12_learn 93 = .ok (.aload_n 0, 1) := by decide +kernel
theorem dX12_learn_94 : decode cX12_learn 94 = .ok (.getfield 319, 3) := by decide +kernel
theorem dX12_learn_97 : decode cX12_learn 97 = .ok (.if_icmp .eq 5, 3) := by decide +kernel
theorem dX12_learn_100 : decode cX12_learn 100 = .ok (.iconst 0, 1) := by decide +kernel
theorem dX12_learn_101 : decode cX12_learn 101 = .ok (.istore_n 3, 1) := by decide +kernel
theorem dX12_learn_102 : decode cX12_learn 102 = .ok (.iconst 0, 1) := by decide +kernel
theorem dX12_learn_103 : decode cX12_learn 103 = .ok (.istore 5, 2) := by decide +kernel
theorem dX12_learn_105 : decode cX12_learn 105 = .ok (.iload 5, 2) := by decide +kernel
theorem dX12_learn_107 : decode cX12_learn 107 = .ok (.aload_n 0, 1) := by decide +kernel
theorem dX12_learn_108 : decode cX12_learn 108 = .ok (.getfield 319, 3) := by decide +kernel
theorem dX12_learn_111 : decode cX12_learn 111 = .ok (.if_icmp .ge 117, 3) := by decide +kernel
theorem dX12_learn_114 : decode cX12_learn 114 = .ok (.aload_n 0, 1) := by decide +kernel
theorem dX12_learn_115 : decode cX12_learn 115 = .ok (.getfield 71, 3) := by decide +kernel
theorem dX12_learn_118 : decode cX12_learn 118 = .ok (.iload 5, 2) := by decide +kernel
theorem dX12_learn_120 : decode cX12_learn 120 = .ok (.iaload, 1) := by decide +kernel
theorem dX12_learn_121 : decode cX12_learn 121 = .ok (.bipush 7, 2) := by decide +kernel
theorem dX12_learn_123 : decode cX12_learn 123 = .ok (.if_icmp .ne 16, 3) := by decide +kernel
theorem dX12_learn_126 : decode cX12_learn 126 = .ok (.bipush 7, 2) := by decide +kernel
theorem dX12_learn_128 : decode cX12_learn 128 = .ok (.aload_n 0, 1) := by decide +kernel
theorem dX12_learn_129 : decode cX12_learn 129 = .ok (.getfield 83, 3) := by decide +kernel
theorem dX12_learn_132 : decode cX12_learn 132 = .ok (.iload 5, 2) := by decide +kernel
theorem dX12_learn_134 : decode cX12_learn 134 = .ok (.iaload, 1) := by decide +kernel
theorem dX12_learn_135 : decode cX12_learn 135 = .ok (.iadd, 1) := by decide +kernel
theorem dX12_learn_136 : decode cX12_learn 136 = .ok (.goto 10, 3) := by decide +kernel
theorem dX12_learn_139 : decode cX12_learn 139 = .ok (.aload_n 0, 1) := by decide +kernel
theorem dX12_learn_140 : decode cX12_learn 140 = .ok (.getfield 71, 3) := by decide +kernel
theorem dX12_learn_143 : decode cX12_learn 143 = .ok (.iload 5, 2) := by decide +kernel
theorem dX12_learn_145 : decode cX12_learn 145 = .ok (.iaload, 1) := by decide +kernel
theorem dX12_learn_146 : decode cX12_learn 146 = .ok (.istore 6, 2) := by decide +kernel
theorem dX12_learn_148 : decode cX12_learn 148 = .ok (.iload 6, 2) := by decide +kernel
theorem dX12_learn_150 : decode cX12_learn 150 = .ok (.iconst 1, 1) := by decide +kernel
theorem dX12_learn_151 : decode cX12_learn 151 = .ok (.bipush 6, 2) := by decide +kernel
theorem dX12_learn_153 : decode cX12_learn 153 = .ok (.invokestatic 215, 3) := by decide +kernel
theorem dX12_learn_156 : decode cX12_learn 156 = .ok (.ifCond .eq 14, 3) := by decide +kernel
theorem dX12_learn_159 : decode cX12_learn 159 = .ok (.aload_n 0, 1) := by decide +kernel
theorem dX12_learn_160 : decode cX12_learn 160 = .ok (.getfield 173, 3) := by decide +kernel
theorem dX12_learn_163 : decode cX12_learn 163 = .ok (.iload 6, 2) := by decide +kernel
theorem dX12_learn_165 : decode cX12_learn 165 = .ok (.dup2, 1) := by decide +kernel
theorem dX12_learn_166 : decode cX12_learn 166 = .ok (.iaload, 1) := by decide +kernel
theorem dX12_learn_167 : decode cX12_learn 167 = .ok (.iconst 1, 1) := by decide +kernel
theorem dX12_learn_168 : decode cX12_learn 168 = .ok (.iadd, 1) := by decide +kernel
theorem dX12_learn_169 : decode cX12_learn 169 = .ok (.iastore, 1) := by decide +kernel
theorem dX12_learn_170 : decode cX12_learn 170 = .ok (.iload_n 1, 1) := by decide +kernel
theorem dX12_learn_171 : decode cX12_learn 171 = .ok (.iconst 1, 1) := by decide +kernel
theorem dX12_learn_172 : decode cX12_learn 172 = .ok (.if_icmp .le 35, 3) := by decide +kernel
theorem dX12_learn_175 : decode cX12_learn 175 = .ok (.iload 5, 2) := by decide +kernel
theorem dX12_learn_177 : decode cX12_learn 177 = .ok (.aload_n 0, 1) := by decide +kernel
theorem dX12_learn_178 : decode cX12_learn 178 = .ok (.getfield 167, 3) := by decide +kernel
theorem dX12_learn_181 : decode cX12_learn 181 = .ok (.iload 4, 2) := by decide +kernel
theorem dX12_learn_183 : decode cX12_learn 183 = .ok (.iaload, 1) := by decide +kernel
theorem dX12_learn_184 : decode cX12_learn 184 = .ok (.if_icmp .ge 23, 3) := by decide +kernel
theorem dX12_learn_187 : decode cX12_learn 187 = .ok (.aload_n 0, 1) := by decide +kernel
theorem dX12_learn_188 : decode cX12_learn 188 = .ok (.getfield 170, 3) := by decide +kernel
theorem dX12_learn_191 : decode cX12_learn 191 = .ok (.bipush 24, 2) := by decide +kernel
theorem dX12_learn_193 : decode cX12_learn 193 = .ok (.iload 4, 2) := by decide +kernel
theorem dX12_learn_195 : decode cX12_learn 195 = .ok (.imul, 1) := by decide +kernel
theorem dX12_learn_196 : decode cX12_learn 196 = .ok (.iload 5, 2) := by decide +kernel
theorem dX12_learn_198 : decode cX12_learn 198 = .ok (.iadd, 1) := by decide +kernel
theorem dX12_learn_199 : decode cX12_learn 199 = .ok (.iaload, 1) := by decide +kernel
theorem dX12_learn_200 : decode cX12_learn 200 = .ok (.iload 6, 2) := by decide +kernel
theorem dX12_learn_202 : decode cX12_learn 202 = .ok (.if_icmp .eq 5, 3) := by decide +kernel
theorem dX12_learn_205 : decode cX12_learn 205 = .ok (.iconst 0, 1) := by decide +kernel
theorem dX12_learn_206 : decode cX12_learn 206 = .ok (.istore_n 3, 1) := by decide +kernel
theorem dX12_learn_207 : decode cX12_learn 207 = .ok (.aload_n 0, 1) := by decide +kernel
theorem dX12_learn_208 : decode cX12_learn 208 = .ok (.getfield 170, 3) := by decide +kernel
theorem dX12_learn_211 : decode cX12_learn 211 = .ok (.bipush 24, 2) := by decide +kernel
theorem dX12_learn_213 : decode cX12_learn 213 = .ok (.iload 4, 2) := by decide +kernel
theorem dX12_learn_215 : decode cX12_learn 215 = .ok (.imul, 1) := by decide +kernel
theorem dX12_learn_216 : decode cX12_learn 216 = .ok (.iload 5, 2) := by decide +kernel
theorem dX12_learn_218 : decode cX12_learn 218 = .ok (.iadd, 1) := by decide +kernel
theorem dX12_learn_219 : decode cX12_learn 219 = .ok (.iload 6, 2) := by decide +kernel
theorem dX12_learn_221 : decode cX12_learn 221 = .ok (.iastore, 1) := by decide +kernel
theorem dX12_learn_222 : decode cX12_learn 222 = .ok (.iinc 5 1, 3) := by decide +kernel
theorem dX12_learn_225 : decode cX12_learn 225 = .ok (.goto (-120), 3) := by decide +kernel
theorem dX12_learn_228 : decode cX12_learn 228 = .ok (.aload_n 0, 1) := by decide +kernel
theorem dX12_learn_229 : decode cX12_learn 229 = .ok (.getfield 167, 3) := by decide +kernel
theorem dX12_learn_232 : decode cX12_learn 232 = .ok (.iload 4, 2) := by decide +kernel
theorem dX12_learn_234 : decode cX12_learn 234 = .ok (.aload_n 0, 1) := by decide +kernel
theorem dX12_learn_235 : decode cX12_learn 235 = .ok (.getfield 319, 3) := by decide +kernel
theorem dX12_learn_238 : decode cX12_learn 238 = .ok (.iastore, 1) := by decide +kernel
theorem dX12_learn_239 : decode cX12_learn 239 = .ok (.iinc 4 1, 3) := by decide +kernel
theorem dX12_learn_242 : decode cX12_learn 242 = .ok (.goto (-184), 3) := by decide +kernel
theorem dX12_learn_245 : decode cX12_learn 245 = .ok (.iconst 0, 1) := by decide +kernel
theorem dX12_learn_246 : decode cX12_learn 246 = .ok (.istore 4, 2) := by decide +kernel
theorem dX12_learn_248 : decode cX12_learn 248 = .ok (.iconst 1, 1) := by decide +kernel
theorem dX12_learn_249 : decode cX12_learn 249 = .ok (.istore 5, 2) := by decide +kernel
theorem dX12_learn_251 : decode cX12_learn 251 = .ok (.iload 5, 2) := by decide +kernel
theorem dX12_learn_253 : decode cX12_learn 253 = .ok (.bipush 6, 2) := by decide +kernel
theorem dX12_learn_255 : decode cX12_learn 255 = .ok (.if_icmp .gt 21, 3) := by decide +kernel
theorem dX12_learn_258 : decode cX12_learn 258 = .ok (.iload 4, 2) := by decide +kernel
theorem dX12_learn_260 : decode cX12_learn 260 = .ok (.aload_n 0, 1) := by decide +kernel
theorem dX12_learn_261 : decode cX12_learn 261 = .ok (.getfield 173, 3) := by decide +kernel
theorem dX12_learn_264 : decode cX12_learn 264 = .ok (.iload 5, 2) := by decide +kernel
theorem dX12_learn_266 : decode cX12_learn 266 = .ok (.iaload, 1) := by decide +kernel
theorem dX12_learn_267 : decode cX12_learn 267 = .ok (.iadd, 1) := by decide +kernel
theorem dX12_learn_268 : decode cX12_learn 268 = .ok (.istore 4, 2) := by decide +kernel
theorem dX12_learn_270 : decode cX12_learn 270 = .ok (.iinc 5 1, 3) := by decide +kernel
theorem dX12_learn_273 : decode cX12_learn 273 = .ok (.goto (-22), 3) := by decide +kernel
theorem dX12_learn_276 : decode cX12_learn 276 = .ok (.iload 4, 2) := by decide +kernel
theorem dX12_learn_278 : decode cX12_learn 278 = .ok (.ifCond .le 44, 3) := by decide +kernel
theorem dX12_learn_281 : decode cX12_learn 281 = .ok (.iconst 1, 1) := by decide +kernel
theorem dX12_learn_282 : decode cX12_learn 282 = .ok (.istore 5, 2) := by decide +kernel
theorem dX12_learn_284 : decode cX12_learn 284 = .ok (.iload 5, 2) := by decide +kernel
theorem dX12_learn_286 : decode cX12_learn 286 = .ok (.bipush 6, 2) := by decide +kernel
theorem dX12_learn_288 : decode cX12_learn 288 = .ok (.if_icmp .gt 34, 3) := by decide +kernel
theorem dX12_learn_291 : decode cX12_learn 291 = .ok (.aload_n 0, 1) := by decide +kernel
theorem dX12_learn_292 : decode cX12_learn 292 = .ok (.getfield 28, 3) := by decide +kernel
theorem dX12_learn_295 : decode cX12_learn 295 = .ok (.iload 5, 2) := by decide +kernel
theorem dX12_learn_297 : decode cX12_learn 297 = .ok (.sipush 200, 3) := by decide +kernel
theorem dX12_learn_300 : decode cX12_learn 300 = .ok (.sipush 180, 3) := by decide +kernel
theorem dX12_learn_303 : decode cX12_learn 303 = .ok (.aload_n 0, 1) := by decide +kernel
theorem dX12_learn_304 : decode cX12_learn 304 = .ok (.getfield 173, 3) := by decide +kernel
theorem dX12_learn_307 : decode cX12_learn 307 = .ok (.iload 5, 2) := by decide +kernel
theorem dX12_learn_309 : decode cX12_learn 309 = .ok (.iaload, 1) := by decide +kernel
theorem dX12_learn_310 : decode cX12_learn 310 = .ok (.imul, 1) := by decide +kernel
theorem dX12_learn_311 : decode cX12_learn 311 = .ok (.iload 4, 2) := by decide +kernel
theorem dX12_learn_313 : decode cX12_learn 313 = .ok (.idiv, 1) := by decide +kernel
theorem dX12_learn_314 : decode cX12_learn 314 = .ok (.isub, 1) := by decide +kernel
theorem dX12_learn_315 : decode cX12_learn 315 = .ok (.iastore, 1) := by decide +kernel
theorem dX12_learn_316 : decode cX12_learn 316 = .ok (.iinc 5 1, 3) := by decide +kernel
theorem dX12_learn_319 : decode cX12_learn 319 = .ok (.goto (-35), 3) := by decide +kernel
theorem dX12_learn_322 : decode cX12_learn 322 = .ok (.iload 4, 2) := by decide +kernel
theorem dX12_learn_324 : decode cX12_learn 324 = .ok (.ifCond .le 17, 3) := by decide +kernel
theorem dX12_learn_327 : decode cX12_learn 327 = .ok (.iload_n 3, 1) := by decide +kernel
theorem dX12_learn_328 : decode cX12_learn 328 = .ok (.ifCond .ne 13, 3) := by decide +kernel
theorem dX12_learn_331 : decode cX12_learn 331 = .ok (.iload_n 1, 1) := by decide +kernel
theorem dX12_learn_332 : decode cX12_learn 332 = .ok (.bipush 20, 2) := by decide +kernel
theorem dX12_learn_334 : decode cX12_learn 334 = .ok (.if_icmp .ge 7, 3) := by decide +kernel
theorem dX12_learn_337 : decode cX12_learn 337 = .ok (.iconst 1, 1) := by decide +kernel
theorem dX12_learn_338 : decode cX12_learn 338 = .ok (.goto 4, 3) := by decide +kernel
theorem dX12_learn_341 : decode cX12_learn 341 = .ok (.iconst 0, 1) := by decide +kernel
theorem dX12_learn_342 : decode cX12_learn 342 = .ok (.istore_n 2, 1) := by decide +kernel
theorem dX12_learn_343 : decode cX12_learn 343 = .ok (.goto (-330), 3) := by decide +kernel
theorem dX12_learn_346 : decode cX12_learn 346 = .ok (.iload_n 1, 1) := by decide +kernel
theorem dX12_learn_347 : decode cX12_learn 347 = .ok (.ireturn, 1) := by decide +kernel
theorem j_Md_learn_346 {l1 : Int} {h : xH} {r0 : Int} {h0 : xH}  (hf : f_Md_learn_346 l1 h = some (r0, h0))  : J mX12_learn true 0 0 346 xKn [(1, xI l1)] [] h (xEq (some r0) h0) := by
  unfold f_Md_learn_346 at hf
  refine J_iload_n 0 dX12_learn_346 rfl rfl ?_
  exact J_ireti dX12_learn_347 rfl (xq_i hf)
theorem j_Md_learn_342 {l1 : Int} {s0 : Int} {h : xH} {x : ((Int × Int × xH) ⊕ (Int × xH))} {Q : xQ}  (hf : f_Md_learn_342 l1 s0 h = some x) (kb : ∀ (l1' : Int) (l2' : Int) (h' : xH), x = Sum.inl (l1', l2', h') → J mX12_learn true 0 0 13 xKn [(0, xR 81), (1, xI l1'), (2, xI l2')] [] h' Q) (ke : ∀ (l1' : Int) (h' : xH), x = (Sum.inr (l1', h')) → J mX12_learn true 0 0 346 xKn [(1, xI l1')] [] h' Q) : J mX12_learn true 0 0 342 xKn [(0, xR 81), (1, xI l1)] [xI s0] h Q := by
  unfold f_Md_learn_342 at hf
  refine J_istore_n (ls' := [(2, xI s0), (0, xR 81), (1, xI l1)]) dX12_learn_342 rfl (by decide) rfl rfl ?_
  refine J_goto (tgt := 13) dX12_learn_343 (by decide) ?_
  refine J_sub [1, 2, 0] rfl ?_
  exact kb _ _ _ (xinl hf)
theorem j_Md_learn_341 {l1 : Int} {h : xH} {x : ((Int × Int × xH) ⊕ (Int × xH))} {Q : xQ}  (hf : f_Md_learn_341 l1 h = some x) (kb : ∀ (l1' : Int) (l2' : Int) (h' : xH), x = Sum.inl (l1', l2', h') → J mX12_learn true 0 0 13 xKn [(0, xR 81), (1, xI l1'), (2, xI l2')] [] h' Q) (ke : ∀ (l1' : Int) (h' : xH), x = (Sum.inr (l1', h')) → J mX12_learn true 0 0 346 xKn [(1, xI l1')] [] h' Q) : J mX12_learn true 0 0 341 xKn [(0, xR 81), (1, xI l1)] [] h Q := by
  unfold f_Md_learn_341 at hf
  refine J_iconst dX12_learn_341 (by decide) ?_
  exact j_Md_learn_342  hf kb ke
theorem j_Md_learn_322 {l1 : Int} {l3 : Int} {l4 : Int} {h : xH} {x : ((Int × Int × xH) ⊕ (Int × xH))} {Q : xQ}  (hf : f_Md_learn_322 l1 l3 l4 h = some x) (kb : ∀ (l1' : Int) (l2' : Int) (h' : xH), x = Sum.inl (l1', l2', h') → J mX12_learn true 0 0 13 xKn [(0, xR 81), (1, xI l1'), (2, xI l2')] [] h' Q) (ke : ∀ (l1' : Int) (h' : xH), x = (Sum.inr (l1', h')) → J mX12_learn true 0 0 346 xKn [(1, xI l1')] [] h' Q) : J mX12_learn true 0 0 322 xKn [(0, xR 81), (1, xI l1), (3, xI l3), (4, xI l4)] [] h Q := by
  unfold f_Md_learn_322 at hf
  refine J_iload 3 dX12_learn_322 rfl ?_
  refine J_if_le (tgt := 341) dX12_learn_324 (by decide) (fun hc => ?_) (fun hc => ?_)
  · have hf := xip hc hf
    refine J_iload_n 2 dX12_learn_327 rfl rfl ?_
    refine J_if_ne (tgt := 341) dX12_learn_328 (by decide) (fun hc => ?_) (fun hc => ?_)
    · have hf := xip hc hf
      refine J_iload_n 1 dX12_learn_331 rfl rfl ?_
      refine J_bip dX12_learn_332 (by decide) ?_
      refine J_ic_ge (tgt := 341) dX12_learn_334 (by decide) (fun hc => ?_) (fun hc => ?_)
      · have hf := xip hc hf
        refine J_iconst dX12_learn_337 (by decide) ?_
        refine J_goto (tgt := 342) dX12_learn_338 (by decide) ?_
        refine J_sub [0, 1] rfl ?_
        exact j_Md_learn_342  hf kb ke
      · have hf := xin' hc hf
        refine J_sub [0, 1] rfl ?_
        exact j_Md_learn_341  hf kb ke
    · have hf := xin' hc hf
      refine J_sub [0, 1] rfl ?_
      exact j_Md_learn_341  hf kb ke
  · have hf := xin' hc hf
    refine J_sub [0, 1] rfl ?_
    exact j_Md_learn_341  hf kb ke
theorem j_Md_learn_s284 {l1 : Int} {l3 : Int} {l4 : Int} {l5 : Int} {h : xH} {x : ((Int × xH) ⊕ xH)} {Q : xQ}  (hf : f_Md_learn_s284 l1 l3 l4 l5 h = some x) (kb : ∀ (l5' : Int) (h' : xH), x = Sum.inl (l5', h') → J mX12_learn true 0 0 284 xKn [(0, xR 81), (1, xI l1), (3, xI l3), (4, xI l4), (5, xI l5')] [] h' Q) (ke : ∀  (h' : xH), x = (Sum.inr h') → J mX12_learn true 0 0 322 xKn [(0, xR 81), (1, xI l1), (3, xI l3), (4, xI l4)] [] h' Q) : J mX12_learn true 0 0 284 xKn [(0, xR 81), (1, xI l1), (3, xI l3), (4, xI l4), (5, xI l5)] [] h Q := by
  unfold f_Md_learn_s284 at hf
  refine J_iload 4 dX12_learn_284 rfl ?_
  refine J_bip dX12_learn_286 (by decide) ?_
  refine J_ic_gt (tgt := 322) dX12_learn_288 (by decide) (fun hc => ?_) (fun hc => ?_)
  · have hf := xip hc hf
    refine J_sub [0, 1, 2, 3] rfl ?_
    exact ke _ (xinl hf)
  · have hf := xin' hc hf
    refine J_aload_n 0 dX12_learn_291 rfl rfl ?_
    refine J_getRl (j := 9) xcf12 dX12_learn_292 kO81 (Or.inl xq1029) (by decide) (by decide) rf_81_9 ?_
    refine J_iload 4 dX12_learn_295 rfl ?_
    refine J_sip dX12_learn_297 (by decide) ?_
    refine J_sip dX12_learn_300 (by decide) ?_
    refine J_aload_n 0 dX12_learn_303 rfl rfl ?_
    refine J_getRl (j := 68) xcf12 dX12_learn_304 kO81 (Or.inl xq1088) (by decide) (by decide) rf_81_68 ?_
    refine J_iload 4 dX12_learn_307 rfl ?_
    obtain ⟨hg, hf⟩ := xgd_e hf
    refine J_iald dX12_learn_309 (xK_r1 kO133) kO133 hg nA133 ?_
    refine J_imul dX12_learn_310 ?_
    refine J_iload 3 dX12_learn_311 rfl ?_
    obtain ⟨hy, hf⟩ := xgp_e hf
    refine J_idiv dX12_learn_313 hy ?_
    refine J_isub dX12_learn_314 ?_
    obtain ⟨hg, hf⟩ := xgd_e hf
    obtain ⟨h1, eh1, hf⟩ := xlet_e hf
    refine J_iast dX12_learn_315 (xK_r1 kO88) kO88 hg nA88 eh1 ?_
    obtain ⟨x2, ex2, hf⟩ := xlet_e hf
    refine J_iinc (ls' := [(5, xI x2), (0, xR 81), (1, xI l1), (3, xI l3), (4, xI l4)]) 4 dX12_learn_316 rfl (by decide) ex2 rfl ?_
    refine J_goto (tgt := 284) dX12_learn_319 (by decide) ?_
    refine J_sub [1, 2, 3, 4, 0] rfl ?_
    exact kb _ _ (xinl hf)
theorem j_Md_learn_284 {l1 : Int} {l3 : Int} {l4 : Int} {l5 : Int} {h : xH} {x : ((Int × Int × xH) ⊕ (Int × xH))} {Q : xQ}  (hf : f_Md_learn_284 l1 l3 l4 l5 h = some x) (kb : ∀ (l1' : Int) (l2' : Int) (h' : xH), x = Sum.inl (l1', l2', h') → J mX12_learn true 0 0 13 xKn [(0, xR 81), (1, xI l1'), (2, xI l2')] [] h' Q) (ke : ∀ (l1' : Int) (h' : xH), x = (Sum.inr (l1', h')) → J mX12_learn true 0 0 346 xKn [(1, xI l1')] [] h' Q) : J mX12_learn true 0 0 284 xKn [(0, xR 81), (1, xI l1), (3, xI l3), (4, xI l4), (5, xI l5)] [] h Q := by
  unfold f_Md_learn_284 at hf
  obtain ⟨b0, hb0, hf⟩ := xc1_e hf
  refine xloop_ind (P := fun s : (Int × xH) => J mX12_learn true 0 0 284 xKn [(0, xR 81), (1, xI l1), (3, xI l3), (4, xI l4), (5, xI s.1)] [] s.2 Q) hb0 (fun s x1 hs ib ie => ?_)
  exact j_Md_learn_s284  hs (fun _ _ e => ib _ e) (fun _ e => by have := ie _ e; subst this; exact j_Md_learn_322  hf kb ke)
theorem j_Md_learn_276 {l1 : Int} {l3 : Int} {l4 : Int} {h : xH} {x : ((Int × Int × xH) ⊕ (Int × xH))} {Q : xQ}  (hf : f_Md_learn_276 l1 l3 l4 h = some x) (kb : ∀ (l1' : Int) (l2' : Int) (h' : xH), x = Sum.inl (l1', l2', h') → J mX12_learn true 0 0 13 xKn [(0, xR 81), (1, xI l1'), (2, xI l2')] [] h' Q) (ke : ∀ (l1' : Int) (h' : xH), x = (Sum.inr (l1', h')) → J mX12_learn true 0 0 346 xKn [(1, xI l1')] [] h' Q) : J mX12_learn true 0 0 276 xKn [(0, xR 81), (1, xI l1), (3, xI l3), (4, xI l4)] [] h Q := by
  unfold f_Md_learn_276 at hf
  refine J_iload 3 dX12_learn_276 rfl ?_
  refine J_if_le (tgt := 322) dX12_learn_278 (by decide) (fun hc => ?_) (fun hc => ?_)
  · have hf := xip hc hf
    refine J_iconst dX12_learn_281 (by decide) ?_
    refine J_istore (ls' := [(5, xI 1), (0, xR 81), (1, xI l1), (3, xI l3), (4, xI l4)]) dX12_learn_282 (by decide) rfl rfl ?_
    refine J_sub [1, 2, 3, 4, 0] rfl ?_
    exact j_Md_learn_284  hf kb ke
  · have hf := xin' hc hf
    exact j_Md_learn_322  hf kb ke
theorem j_Md_learn_s251 {l1 : Int} {l3 : Int} {l4 : Int} {l5 : Int} {h : xH} {x : ((Int × Int) ⊕ Int)} {Q : xQ}  (hf : f_Md_learn_s251 l1 l3 l4 l5 h = some x) (kb : ∀ (l4' : Int) (l5' : Int), x = Sum.inl (l4', l5') → J mX12_learn true 0 0 251 xKn [(0, xR 81), (1, xI l1), (3, xI l3), (4, xI l4'), (5, xI l5')] [] h Q) (ke : ∀ (l4' : Int), x = (Sum.inr l4') → J mX12_learn true 0 0 276 xKn [(0, xR 81), (1, xI l1), (3, xI l3), (4, xI l4')] [] h Q) : J mX12_learn true 0 0 251 xKn [(0, xR 81), (1, xI l1), (3, xI l3), (4, xI l4), (5, xI l5)] [] h Q := by
  unfold f_Md_learn_s251 at hf
  refine J_iload 4 dX12_learn_251 rfl ?_
  refine J_bip dX12_learn_253 (by decide) ?_
  refine J_ic_gt (tgt := 276) dX12_learn_255 (by decide) (fun hc => ?_) (fun hc => ?_)
  · have hf := xip hc hf
    refine J_sub [0, 1, 2, 3] rfl ?_
    exact ke _ (xinl hf)
  · have hf := xin' hc hf
    refine J_iload 3 dX12_learn_258 rfl ?_
    refine J_aload_n 0 dX12_learn_260 rfl rfl ?_
    refine J_getRl (j := 68) xcf12 dX12_learn_261 kO81 (Or.inl xq1088) (by decide) (by decide) rf_81_68 ?_
    refine J_iload 4 dX12_learn_264 rfl ?_
    obtain ⟨hg, hf⟩ := xgd_e hf
    refine J_iald dX12_learn_266 (xK_r1 kO133) kO133 hg nA133 ?_
    refine J_iadd dX12_learn_267 ?_
    obtain ⟨x1, ex1, hf⟩ := xlet_e hf
    refine J_istore (ls' := [(4, xI x1), (0, xR 81), (1, xI l1), (3, xI l3), (5, xI l5)]) dX12_learn_268 (by decide) ex1 rfl ?_
    obtain ⟨x2, ex2, hf⟩ := xlet_e hf
    refine J_iinc (ls' := [(5, xI x2), (4, xI x1), (0, xR 81), (1, xI l1), (3, xI l3)]) 4 dX12_learn_270 rfl (by decide) ex2 rfl ?_
    refine J_goto (tgt := 251) dX12_learn_273 (by decide) ?_
    refine J_sub [2, 3, 4, 1, 0] rfl ?_
    exact kb _ _ (xinl hf)
theorem j_Md_learn_251 {l1 : Int} {l3 : Int} {l4 : Int} {l5 : Int} {h : xH} {x : ((Int × Int × xH) ⊕ (Int × xH))} {Q : xQ}  (hf : f_Md_learn_251 l1 l3 l4 l5 h = some x) (kb : ∀ (l1' : Int) (l2' : Int) (h' : xH), x = Sum.inl (l1', l2', h') → J mX12_learn true 0 0 13 xKn [(0, xR 81), (1, xI l1'), (2, xI l2')] [] h' Q) (ke : ∀ (l1' : Int) (h' : xH), x = (Sum.inr (l1', h')) → J mX12_learn true 0 0 346 xKn [(1, xI l1')] [] h' Q) : J mX12_learn true 0 0 251 xKn [(0, xR 81), (1, xI l1), (3, xI l3), (4, xI l4), (5, xI l5)] [] h Q := by
  unfold f_Md_learn_251 at hf
  obtain ⟨b0, hb0, hf⟩ := xc1_e hf
  refine xloop_ind (P := fun s : (Int × Int) => J mX12_learn true 0 0 251 xKn [(0, xR 81), (1, xI l1), (3, xI l3), (4, xI s.1), (5, xI s.2)] [] h Q) hb0 (fun s x1 hs ib ie => ?_)
  exact j_Md_learn_s251  hs (fun _ _ e => ib _ e) (fun _ e => by have := ie _ e; subst this; exact j_Md_learn_276  hf kb ke)
theorem j_Md_learn_245 {l1 : Int} {l3 : Int} {h : xH} {x : ((Int × Int × xH) ⊕ (Int × xH))} {Q : xQ}  (hf : f_Md_learn_245 l1 l3 h = some x) (kb : ∀ (l1' : Int) (l2' : Int) (h' : xH), x = Sum.inl (l1', l2', h') → J mX12_learn true 0 0 13 xKn [(0, xR 81), (1, xI l1'), (2, xI l2')] [] h' Q) (ke : ∀ (l1' : Int) (h' : xH), x = (Sum.inr (l1', h')) → J mX12_learn true 0 0 346 xKn [(1, xI l1')] [] h' Q) : J mX12_learn true 0 0 245 xKn [(0, xR 81), (1, xI l1), (3, xI l3)] [] h Q := by
  unfold f_Md_learn_245 at hf
  refine J_iconst dX12_learn_245 (by decide) ?_
  refine J_istore (ls' := [(4, xI 0), (0, xR 81), (1, xI l1), (3, xI l3)]) dX12_learn_246 (by decide) rfl rfl ?_
  refine J_iconst dX12_learn_248 (by decide) ?_
  refine J_istore (ls' := [(5, xI 1), (4, xI 0), (0, xR 81), (1, xI l1), (3, xI l3)]) dX12_learn_249 (by decide) rfl rfl ?_
  refine J_sub [2, 3, 4, 1, 0] rfl ?_
  exact j_Md_learn_251  hf kb ke
theorem j_Md_learn_228 {l1 : Int} {l3 : Int} {l4 : Int} {h : xH} {x : ((Int × Int × xH) ⊕ (Int × xH))} {Q : xQ}  (hf : f_Md_learn_228 l1 l3 l4 h = some x) (kb : ∀ (l3' : Int) (l4' : Int) (h' : xH), x = Sum.inl (l3', l4', h') → J mX12_learn true 0 0 58 xKn [(0, xR 81), (1, xI l1), (3, xI l3'), (4, xI l4')] [] h' Q) (ke : ∀ (l3' : Int) (h' : xH), x = (Sum.inr (l3', h')) → J mX12_learn true 0 0 245 xKn [(0, xR 81), (1, xI l1), (3, xI l3')] [] h' Q) : J mX12_learn true 0 0 228 xKn [(0, xR 81), (1, xI l1), (3, xI l3), (4, xI l4)] [] h Q := by
  unfold f_Md_learn_228 at hf
  refine J_aload_n 0 dX12_learn_228 rfl rfl ?_
  refine J_getRl (j := 66) xcf12 dX12_learn_229 kO81 (Or.inl xq1086) (by decide) (by decide) rf_81_66 ?_
  refine J_iload 3 dX12_learn_232 rfl ?_
  refine J_aload_n 0 dX12_learn_234 rfl rfl ?_
  refine J_getI (j := 27) xcf12 dX12_learn_235 (xK_rg kO81) kO81 (Or.inl xq1047) (by decide) (by decide) ?_
  obtain ⟨hg, hf⟩ := xgd_e hf
  obtain ⟨h1, eh1, hf⟩ := xlet_e hf
  refine J_iast dX12_learn_238 (xK_r1 kO131) kO131 hg nA131 eh1 ?_
  obtain ⟨x2, ex2, hf⟩ := xlet_e hf
  refine J_iinc (ls' := [(4, xI x2), (0, xR 81), (1, xI l1), (3, xI l3)]) 3 dX12_learn_239 rfl (by decide) ex2 rfl ?_
  refine J_goto (tgt := 58) dX12_learn_242 (by decide) ?_
  refine J_sub [1, 2, 3, 0] rfl ?_
  exact kb _ _ _ (xinl hf)
theorem j_Md_learn_207 {l1 : Int} {l3 : Int} {l4 : Int} {l5 : Int} {l6 : Int} {h : xH} {x : ((Int × Int × xH) ⊕ (Int × xH))} {Q : xQ}  (hf : f_Md_learn_207 l1 l3 l4 l5 l6 h = some x) (kb : ∀ (l3' : Int) (l5' : Int) (h' : xH), x = Sum.inl (l3', l5', h') → J mX12_learn true 0 0 105 xKn [(0, xR 81), (1, xI l1), (3, xI l3'), (4, xI l4), (5, xI l5')] [] h' Q) (ke : ∀ (l3' : Int) (h' : xH), x = (Sum.inr (l3', h')) → J mX12_learn true 0 0 228 xKn [(0, xR 81), (1, xI l1), (3, xI l3'), (4, xI l4)] [] h' Q) : J mX12_learn true 0 0 207 xKn [(0, xR 81), (1, xI l1), (3, xI l3), (4, xI l4), (5, xI l5), (6, xI l6)] [] h Q := by
  unfold f_Md_learn_207 at hf
  refine J_aload_n 0 dX12_learn_207 rfl rfl ?_
  refine J_getRl (j := 67) xcf12 dX12_learn_208 kO81 (Or.inl xq1087) (by decide) (by decide) rf_81_67 ?_
  refine J_bip dX12_learn_211 (by decide) ?_
  refine J_iload 3 dX12_learn_213 rfl ?_
  refine J_imul dX12_learn_215 ?_
  refine J_iload 4 dX12_learn_216 rfl ?_
  refine J_iadd dX12_learn_218 ?_
  refine J_iload 5 dX12_learn_219 rfl ?_
  obtain ⟨hg, hf⟩ := xgd_e hf
  obtain ⟨h1, eh1, hf⟩ := xlet_e hf
  refine J_iast dX12_learn_221 (xK_r1 kO132) kO132 hg nA132 eh1 ?_
  obtain ⟨x2, ex2, hf⟩ := xlet_e hf
  refine J_iinc (ls' := [(5, xI x2), (0, xR 81), (1, xI l1), (3, xI l3), (4, xI l4), (6, xI l6)]) 4 dX12_learn_222 rfl (by decide) ex2 rfl ?_
  refine J_goto (tgt := 105) dX12_learn_225 (by decide) ?_
  refine J_sub [1, 2, 3, 4, 0] rfl ?_
  exact kb _ _ _ (xinl hf)
theorem j_Md_learn_170 {l1 : Int} {l3 : Int} {l4 : Int} {l5 : Int} {l6 : Int} {h : xH} {x : ((Int × Int × xH) ⊕ (Int × xH))} {Q : xQ}  (hf : f_Md_learn_170 l1 l3 l4 l5 l6 h = some x) (kb : ∀ (l3' : Int) (l5' : Int) (h' : xH), x = Sum.inl (l3', l5', h') → J mX12_learn true 0 0 105 xKn [(0, xR 81), (1, xI l1), (3, xI l3'), (4, xI l4), (5, xI l5')] [] h' Q) (ke : ∀ (l3' : Int) (h' : xH), x = (Sum.inr (l3', h')) → J mX12_learn true 0 0 228 xKn [(0, xR 81), (1, xI l1), (3, xI l3'), (4, xI l4)] [] h' Q) : J mX12_learn true 0 0 170 xKn [(0, xR 81), (1, xI l1), (3, xI l3), (4, xI l4), (5, xI l5), (6, xI l6)] [] h Q := by
  unfold f_Md_learn_170 at hf
  refine J_iload_n 1 dX12_learn_170 rfl rfl ?_
  refine J_iconst dX12_learn_171 (by decide) ?_
  refine J_ic_le (tgt := 207) dX12_learn_172 (by decide) (fun hc => ?_) (fun hc => ?_)
  · have hf := xip hc hf
    refine J_iload 4 dX12_learn_175 rfl ?_
    refine J_aload_n 0 dX12_learn_177 rfl rfl ?_
    refine J_getRl (j := 66) xcf12 dX12_learn_178 kO81 (Or.inl xq1086) (by decide) (by decide) rf_81_66 ?_
    refine J_iload 3 dX12_learn_181 rfl ?_
    obtain ⟨hg, hf⟩ := xgd_e hf
    refine J_iald dX12_learn_183 (xK_r1 kO131) kO131 hg nA131 ?_
    refine J_ic_ge (tgt := 207) dX12_learn_184 (by decide) (fun hc => ?_) (fun hc => ?_)
    · have hf := xip hc hf
      refine J_aload_n 0 dX12_learn_187 rfl rfl ?_
      refine J_getRl (j := 67) xcf12 dX12_learn_188 kO81 (Or.inl xq1087) (by decide) (by decide) rf_81_67 ?_
      refine J_bip dX12_learn_191 (by decide) ?_
      refine J_iload 3 dX12_learn_193 rfl ?_
      refine J_imul dX12_learn_195 ?_
      refine J_iload 4 dX12_learn_196 rfl ?_
      refine J_iadd dX12_learn_198 ?_
      obtain ⟨hg, hf⟩ := xgd_e hf
      refine J_iald dX12_learn_199 (xK_r1 kO132) kO132 hg nA132 ?_
      refine J_iload 5 dX12_learn_200 rfl ?_
      refine J_ic_eq (tgt := 207) dX12_learn_202 (by decide) (fun hc => ?_) (fun hc => ?_)
      · have hf := xip hc hf
        exact j_Md_learn_207  hf kb ke
      · have hf := xin' hc hf
        refine J_iconst dX12_learn_205 (by decide) ?_
        refine J_istore_n (ls' := [(3, xI 0), (0, xR 81), (1, xI l1), (4, xI l4), (5, xI l5), (6, xI l6)]) dX12_learn_206 rfl (by decide) rfl rfl ?_
        refine J_sub [1, 2, 0, 3, 4, 5] rfl ?_
        exact j_Md_learn_207  hf kb ke
    · have hf := xin' hc hf
      exact j_Md_learn_207  hf kb ke
  · have hf := xin' hc hf
    exact j_Md_learn_207  hf kb ke
theorem j_Md_learn_146 {l1 : Int} {l3 : Int} {l4 : Int} {l5 : Int} {s0 : Int} {h : xH} {x : ((Int × Int × xH) ⊕ (Int × xH))} {Q : xQ}  (hf : f_Md_learn_146 l1 l3 l4 l5 s0 h = some x) (kb : ∀ (l3' : Int) (l5' : Int) (h' : xH), x = Sum.inl (l3', l5', h') → J mX12_learn true 0 0 105 xKn [(0, xR 81), (1, xI l1), (3, xI l3'), (4, xI l4), (5, xI l5')] [] h' Q) (ke : ∀ (l3' : Int) (h' : xH), x = (Sum.inr (l3', h')) → J mX12_learn true 0 0 228 xKn [(0, xR 81), (1, xI l1), (3, xI l3'), (4, xI l4)] [] h' Q) : J mX12_learn true 0 0 146 xKn [(0, xR 81), (1, xI l1), (3, xI l3), (4, xI l4), (5, xI l5)] [xI s0] h Q := by
  unfold f_Md_learn_146 at hf
  refine J_istore (ls' := [(6, xI s0), (0, xR 81), (1, xI l1), (3, xI l3), (4, xI l4), (5, xI l5)]) dX12_learn_146 (by decide) rfl rfl ?_
  refine J_iload 0 dX12_learn_148 rfl ?_
  refine J_iconst dX12_learn_150 (by decide) ?_
  refine J_bip dX12_learn_151 (by decide) ?_
  obtain ⟨r1, hq, hf⟩ := xc1_e hf
  refine J_cSi (Mc := mX12_in) [xI s0, xI 1, xI 6] dX12_learn_153 (fc_Md_in.fit ⟨xbl rfl, xbl rfl⟩) rfl ⟨Or.inl xq1283, xq1284⟩ rfl (xbl rfl) (xbl rfl) (jm_Md_in  hq) ?_
  refine J_if_eq (tgt := 170) dX12_learn_156 (by decide) (fun hc => ?_) (fun hc => ?_)
  · have hf := xip hc hf
    refine J_sub [1, 2, 3, 4, 5, 0] rfl ?_
    exact j_Md_learn_170  hf kb ke
  · have hf := xin' hc hf
    refine J_aload_n 1 dX12_learn_159 rfl rfl ?_
    refine J_getRl (j := 68) xcf12 dX12_learn_160 kO81 (Or.inl xq1088) (by decide) (by decide) rf_81_68 ?_
    refine J_iload 0 dX12_learn_163 rfl ?_
    refine J_dup2 dX12_learn_165 rfl rfl ?_
    obtain ⟨hg, hf⟩ := xgd_e hf
    refine J_iald dX12_learn_166 (xK_r1 kO133) kO133 hg nA133 ?_
    refine J_iconst dX12_learn_167 (by decide) ?_
    refine J_iadd dX12_learn_168 ?_
    obtain ⟨hg, hf⟩ := xgd_e hf
    obtain ⟨h2, eh2, hf⟩ := xlet_e hf
    refine J_iast dX12_learn_169 (xK_r1 kO133) kO133 hg nA133 eh2 ?_
    refine J_sub [1, 2, 3, 4, 5, 0] rfl ?_
    exact j_Md_learn_170  hf kb ke
theorem j_Md_learn_s105 {l1 : Int} {l3 : Int} {l4 : Int} {l5 : Int} {h : xH} {x : ((Int × Int × xH) ⊕ (Int × xH))} {Q : xQ}  (hf : f_Md_learn_s105 l1 l3 l4 l5 h = some x) (kb : ∀ (l3' : Int) (l5' : Int) (h' : xH), x = Sum.inl (l3', l5', h') → J mX12_learn true 0 0 105 xKn [(0, xR 81), (1, xI l1), (3, xI l3'), (4, xI l4), (5, xI l5')] [] h' Q) (ke : ∀ (l3' : Int) (h' : xH), x = (Sum.inr (l3', h')) → J mX12_learn true 0 0 228 xKn [(0, xR 81), (1, xI l1), (3, xI l3'), (4, xI l4)] [] h' Q) : J mX12_learn true 0 0 105 xKn [(0, xR 81), (1, xI l1), (3, xI l3), (4, xI l4), (5, xI l5)] [] h Q := by
  unfold f_Md_learn_s105 at hf
  refine J_iload 4 dX12_learn_105 rfl ?_
  refine J_aload_n 0 dX12_learn_107 rfl rfl ?_
  refine J_getI (j := 27) xcf12 dX12_learn_108 (xK_rg kO81) kO81 (Or.inl xq1047) (by decide) (by decide) ?_
  refine J_ic_ge (tgt := 228) dX12_learn_111 (by decide) (fun hc => ?_) (fun hc => ?_)
  · have hf := xip hc hf
    refine J_aload_n 0 dX12_learn_114 rfl rfl ?_
    refine J_getRl (j := 28) xcf12 dX12_learn_115 kO81 (Or.inl xq1048) (by decide) (by decide) rf_81_28 ?_
    refine J_iload 4 dX12_learn_118 rfl ?_
    obtain ⟨hg, hf⟩ := xgd_e hf
    refine J_iald dX12_learn_120 (xK_r1 kO100) kO100 hg nA100 ?_
    refine J_bip dX12_learn_121 (by decide) ?_
    refine J_ic_ne (tgt := 139) dX12_learn_123 (by decide) (fun hc => ?_) (fun hc => ?_)
    · have hf := xip hc hf
      refine J_bip dX12_learn_126 (by decide) ?_
      refine J_aload_n 0 dX12_learn_128 rfl rfl ?_
      refine J_getRl (j := 32) xcf12 dX12_learn_129 kO81 (Or.inl xq1052) (by decide) (by decide) rf_81_32 ?_
      refine J_iload 4 dX12_learn_132 rfl ?_
      obtain ⟨hg, hf⟩ := xgd_e hf
      refine J_iald dX12_learn_134 (xK_r1 kO104) kO104 hg nA104 ?_
      refine J_iadd dX12_learn_135 ?_
      refine J_goto (tgt := 146) dX12_learn_136 (by decide) ?_
      exact j_Md_learn_146  hf kb ke
    · have hf := xin' hc hf
      refine J_aload_n 0 dX12_learn_139 rfl rfl ?_
      refine J_getRl (j := 28) xcf12 dX12_learn_140 kO81 (Or.inl xq1048) (by decide) (by decide) rf_81_28 ?_
      refine J_iload 4 dX12_learn_143 rfl ?_
      obtain ⟨hg, hf⟩ := xgd_e hf
      refine J_iald dX12_learn_145 (xK_r1 kO100) kO100 hg nA100 ?_
      exact j_Md_learn_146  hf kb ke
  · have hf := xin' hc hf
    refine J_sub [0, 1, 2, 3] rfl ?_
    exact ke _ _ (xinl hf)
theorem j_Md_learn_105 {l1 : Int} {l3 : Int} {l4 : Int} {l5 : Int} {h : xH} {x : ((Int × Int × xH) ⊕ (Int × xH))} {Q : xQ}  (hf : f_Md_learn_105 l1 l3 l4 l5 h = some x) (kb : ∀ (l3' : Int) (l4' : Int) (h' : xH), x = Sum.inl (l3', l4', h') → J mX12_learn true 0 0 58 xKn [(0, xR 81), (1, xI l1), (3, xI l3'), (4, xI l4')] [] h' Q) (ke : ∀ (l3' : Int) (h' : xH), x = (Sum.inr (l3', h')) → J mX12_learn true 0 0 245 xKn [(0, xR 81), (1, xI l1), (3, xI l3')] [] h' Q) : J mX12_learn true 0 0 105 xKn [(0, xR 81), (1, xI l1), (3, xI l3), (4, xI l4), (5, xI l5)] [] h Q := by
  unfold f_Md_learn_105 at hf
  obtain ⟨b0, hb0, hf⟩ := xc1_e hf
  refine xloop_ind (P := fun s : (Int × Int × xH) => J mX12_learn true 0 0 105 xKn [(0, xR 81), (1, xI l1), (3, xI s.1), (4, xI l4), (5, xI s.2.1)] [] s.2.2 Q) hb0 (fun s x1 hs ib ie => ?_)
  exact j_Md_learn_s105  hs (fun _ _ _ e => ib _ e) (fun _ _ e => by have := ie _ e; subst this; exact j_Md_learn_228  hf kb ke)
theorem j_Md_learn_102 {l1 : Int} {l3 : Int} {l4 : Int} {h : xH} {x : ((Int × Int × xH) ⊕ (Int × xH))} {Q : xQ}  (hf : f_Md_learn_102 l1 l3 l4 h = some x) (kb : ∀ (l3' : Int) (l4' : Int) (h' : xH), x = Sum.inl (l3', l4', h') → J mX12_learn true 0 0 58 xKn [(0, xR 81), (1, xI l1), (3, xI l3'), (4, xI l4')] [] h' Q) (ke : ∀ (l3' : Int) (h' : xH), x = (Sum.inr (l3', h')) → J mX12_learn true 0 0 245 xKn [(0, xR 81), (1, xI l1), (3, xI l3')] [] h' Q) : J mX12_learn true 0 0 102 xKn [(0, xR 81), (1, xI l1), (3, xI l3), (4, xI l4)] [] h Q := by
  unfold f_Md_learn_102 at hf
  refine J_iconst dX12_learn_102 (by decide) ?_
  refine J_istore (ls' := [(5, xI 0), (0, xR 81), (1, xI l1), (3, xI l3), (4, xI l4)]) dX12_learn_103 (by decide) rfl rfl ?_
  refine J_sub [1, 2, 3, 4, 0] rfl ?_
  exact j_Md_learn_105  hf kb ke
theorem j_Md_learn_s58 {l1 : Int} {l3 : Int} {l4 : Int} {h : xH} {x : ((Int × Int × xH) ⊕ (Int × xH))} {Q : xQ}  (hf : f_Md_learn_s58 l1 l3 l4 h = some x) (kb : ∀ (l3' : Int) (l4' : Int) (h' : xH), x = Sum.inl (l3', l4', h') → J mX12_learn true 0 0 58 xKn [(0, xR 81), (1, xI l1), (3, xI l3'), (4, xI l4')] [] h' Q) (ke : ∀ (l3' : Int) (h' : xH), x = (Sum.inr (l3', h')) → J mX12_learn true 0 0 245 xKn [(0, xR 81), (1, xI l1), (3, xI l3')] [] h' Q) : J mX12_learn true 0 0 58 xKn [(0, xR 81), (1, xI l1), (3, xI l3), (4, xI l4)] [] h Q := by
  unfold f_Md_learn_s58 at hf
  refine J_iload 3 dX12_learn_58 rfl ?_
  refine J_aload_n 0 dX12_learn_60 rfl rfl ?_
  refine J_getI (j := 61) xcf12 dX12_learn_61 (xK_rg kO81) kO81 (Or.inl xq1081) (by decide) (by decide) ?_
  refine J_ic_ge (tgt := 245) dX12_learn_64 (by decide) (fun hc => ?_) (fun hc => ?_)
  · have hf := xip hc hf
    refine J_aload_n 0 dX12_learn_67 rfl rfl ?_
    refine J_iload 3 dX12_learn_68 rfl ?_
    obtain ⟨h1, hq, hf⟩ := xc1_e hf
    refine J_cVv (Mc := mX12_takePair) [xI l4] dX12_learn_70 (fc_Md_takePair.fit ⟨xbl rfl, xbl rfl⟩) rfl ⟨Or.inl xq1477, xq1479, xq117⟩ kO81 (ci := 12) rfl rfl (xbl rfl) (xbl rfl) (jm_Md_takePair  hq) ?_
    refine J_aload_n 0 dX12_learn_73 rfl rfl ?_
    obtain ⟨h2, hq, hf⟩ := xc1_e hf
    refine J_cVv (Mc := mX12_sums) [] dX12_learn_74 (fc_Md_sums.fit ⟨xbl rfl, xbl rfl⟩) rfl ⟨Or.inl xq1366, xq1368, xq99⟩ kO81 (ci := 12) rfl rfl (xbl rfl) (xbl rfl) (jm_Md_sums  hq) ?_
    refine J_aload_n 0 dX12_learn_77 rfl rfl ?_
    obtain ⟨h3, hq, hf⟩ := xc1_e hf
    refine J_cVv (Mc := mX12_ways) [] dX12_learn_78 (fc_Md_ways.fit ⟨xbl rfl, xbl rfl⟩) rfl ⟨Or.inl xq1391, xq1393, xq105⟩ kO81 (ci := 12) rfl rfl (xbl rfl) (xbl rfl) (jm_Md_ways  hq) ?_
    refine J_iload_n 1 dX12_learn_81 rfl rfl ?_
    refine J_iconst dX12_learn_82 (by decide) ?_
    refine J_ic_le (tgt := 102) dX12_learn_83 (by decide) (fun hc => ?_) (fun hc => ?_)
    · have hf := xip hc hf
      refine J_aload_n 0 dX12_learn_86 rfl rfl ?_
      refine J_getRl (j := 66) xcf12 dX12_learn_87 kO81 (Or.inl xq1086) (by decide) (by decide) rf_81_66 ?_
      refine J_iload 3 dX12_learn_90 rfl ?_
      obtain ⟨hg, hf⟩ := xgd_e hf
      refine J_iald dX12_learn_92 (xK_r1 kO131) kO131 hg nA131 ?_
      refine J_aload_n 0 dX12_learn_93 rfl rfl ?_
      refine J_getI (j := 27) xcf12 dX12_learn_94 (xK_rg kO81) kO81 (Or.inl xq1047) (by decide) (by decide) ?_
      refine J_ic_eq (tgt := 102) dX12_learn_97 (by decide) (fun hc => ?_) (fun hc => ?_)
      · have hf := xip hc hf
        exact j_Md_learn_102  hf kb ke
      · have hf := xin' hc hf
        refine J_iconst dX12_learn_100 (by decide) ?_
        refine J_istore_n (ls' := [(3, xI 0), (0, xR 81), (1, xI l1), (4, xI l4)]) dX12_learn_101 rfl (by decide) rfl rfl ?_
        refine J_sub [1, 2, 0, 3] rfl ?_
        exact j_Md_learn_102  hf kb ke
    · have hf := xin' hc hf
      exact j_Md_learn_102  hf kb ke
  · have hf := xin' hc hf
    refine J_sub [0, 1, 2] rfl ?_
    exact ke _ _ (xinl hf)
theorem j_Md_learn_58 {l1 : Int} {l3 : Int} {l4 : Int} {h : xH} {x : ((Int × Int × xH) ⊕ (Int × xH))} {Q : xQ}  (hf : f_Md_learn_58 l1 l3 l4 h = some x) (kb : ∀ (l1' : Int) (l2' : Int) (h' : xH), x = Sum.inl (l1', l2', h') → J mX12_learn true 0 0 13 xKn [(0, xR 81), (1, xI l1'), (2, xI l2')] [] h' Q) (ke : ∀ (l1' : Int) (h' : xH), x = (Sum.inr (l1', h')) → J mX12_learn true 0 0 346 xKn [(1, xI l1')] [] h' Q) : J mX12_learn true 0 0 58 xKn [(0, xR 81), (1, xI l1), (3, xI l3), (4, xI l4)] [] h Q := by
  unfold f_Md_learn_58 at hf
  obtain ⟨b0, hb0, hf⟩ := xc1_e hf
  refine xloop_ind (P := fun s : (Int × Int × xH) => J mX12_learn true 0 0 58 xKn [(0, xR 81), (1, xI l1), (3, xI s.1), (4, xI s.2.1)] [] s.2.2 Q) hb0 (fun s x1 hs ib ie => ?_)
  exact j_Md_learn_s58  hs (fun _ _ _ e => ib _ e) (fun _ _ e => by have := ie _ e; subst this; exact j_Md_learn_245  hf kb ke)
theorem j_Md_learn_55 {l1 : Int} {l3 : Int} {h : xH} {x : ((Int × Int × xH) ⊕ (Int × xH))} {Q : xQ}  (hf : f_Md_learn_55 l1 l3 h = some x) (kb : ∀ (l1' : Int) (l2' : Int) (h' : xH), x = Sum.inl (l1', l2', h') → J mX12_learn true 0 0 13 xKn [(0, xR 81), (1, xI l1'), (2, xI l2')] [] h' Q) (ke : ∀ (l1' : Int) (h' : xH), x = (Sum.inr (l1', h')) → J mX12_learn true 0 0 346 xKn [(1, xI l1')] [] h' Q) : J mX12_learn true 0 0 55 xKn [(0, xR 81), (1, xI l1), (3, xI l3)] [] h Q := by
  unfold f_Md_learn_55 at hf
  refine J_iconst dX12_learn_55 (by decide) ?_
  refine J_istore (ls' := [(4, xI 0), (0, xR 81), (1, xI l1), (3, xI l3)]) dX12_learn_56 (by decide) rfl rfl ?_
  refine J_sub [1, 2, 3, 0] rfl ?_
  exact j_Md_learn_58  hf kb ke
theorem j_Md_learn_s34 {l1 : Int} {l3 : Int} {l4 : Int} {h : xH} {x : ((Int × xH) ⊕ xH)} {Q : xQ}  (hf : f_Md_learn_s34 l1 l3 l4 h = some x) (kb : ∀ (l4' : Int) (h' : xH), x = Sum.inl (l4', h') → J mX12_learn true 0 0 34 xKn [(0, xR 81), (1, xI l1), (3, xI l3), (4, xI l4')] [] h' Q) (ke : ∀  (h' : xH), x = (Sum.inr h') → J mX12_learn true 0 0 55 xKn [(0, xR 81), (1, xI l1), (3, xI l3)] [] h' Q) : J mX12_learn true 0 0 34 xKn [(0, xR 81), (1, xI l1), (3, xI l3), (4, xI l4)] [] h Q := by
  unfold f_Md_learn_s34 at hf
  refine J_iload 3 dX12_learn_34 rfl ?_
  refine J_bip dX12_learn_36 (by decide) ?_
  refine J_ic_ge (tgt := 55) dX12_learn_38 (by decide) (fun hc => ?_) (fun hc => ?_)
  · have hf := xip hc hf
    refine J_aload_n 0 dX12_learn_41 rfl rfl ?_
    refine J_getRl (j := 68) xcf12 dX12_learn_42 kO81 (Or.inl xq1088) (by decide) (by decide) rf_81_68 ?_
    refine J_iload 3 dX12_learn_45 rfl ?_
    refine J_iconst dX12_learn_47 (by decide) ?_
    obtain ⟨hg, hf⟩ := xgd_e hf
    obtain ⟨h1, eh1, hf⟩ := xlet_e hf
    refine J_iast dX12_learn_48 (xK_r1 kO133) kO133 hg nA133 eh1 ?_
    obtain ⟨x2, ex2, hf⟩ := xlet_e hf
    refine J_iinc (ls' := [(4, xI x2), (0, xR 81), (1, xI l1), (3, xI l3)]) 3 dX12_learn_49 rfl (by decide) ex2 rfl ?_
    refine J_goto (tgt := 34) dX12_learn_52 (by decide) ?_
    refine J_sub [1, 2, 3, 0] rfl ?_
    exact kb _ _ (xinl hf)
  · have hf := xin' hc hf
    refine J_sub [0, 1, 2] rfl ?_
    exact ke _ (xinl hf)
theorem j_Md_learn_34 {l1 : Int} {l3 : Int} {l4 : Int} {h : xH} {x : ((Int × Int × xH) ⊕ (Int × xH))} {Q : xQ}  (hf : f_Md_learn_34 l1 l3 l4 h = some x) (kb : ∀ (l1' : Int) (l2' : Int) (h' : xH), x = Sum.inl (l1', l2', h') → J mX12_learn true 0 0 13 xKn [(0, xR 81), (1, xI l1'), (2, xI l2')] [] h' Q) (ke : ∀ (l1' : Int) (h' : xH), x = (Sum.inr (l1', h')) → J mX12_learn true 0 0 346 xKn [(1, xI l1')] [] h' Q) : J mX12_learn true 0 0 34 xKn [(0, xR 81), (1, xI l1), (3, xI l3), (4, xI l4)] [] h Q := by
  unfold f_Md_learn_34 at hf
  obtain ⟨b0, hb0, hf⟩ := xc1_e hf
  refine xloop_ind (P := fun s : (Int × xH) => J mX12_learn true 0 0 34 xKn [(0, xR 81), (1, xI l1), (3, xI l3), (4, xI s.1)] [] s.2 Q) hb0 (fun s x1 hs ib ie => ?_)
  exact j_Md_learn_s34  hs (fun _ _ e => ib _ e) (fun _ e => by have := ie _ e; subst this; exact j_Md_learn_55  hf kb ke)
theorem j_Md_learn_30 {l1 : Int} {s0 : Int} {h : xH} {x : ((Int × Int × xH) ⊕ (Int × xH))} {Q : xQ}  (hf : f_Md_learn_30 l1 s0 h = some x) (kb : ∀ (l1' : Int) (l2' : Int) (h' : xH), x = Sum.inl (l1', l2', h') → J mX12_learn true 0 0 13 xKn [(0, xR 81), (1, xI l1'), (2, xI l2')] [] h' Q) (ke : ∀ (l1' : Int) (h' : xH), x = (Sum.inr (l1', h')) → J mX12_learn true 0 0 346 xKn [(1, xI l1')] [] h' Q) : J mX12_learn true 0 0 30 xKn [(0, xR 81), (1, xI l1)] [xI s0] h Q := by
  unfold f_Md_learn_30 at hf
  refine J_istore_n (ls' := [(3, xI s0), (0, xR 81), (1, xI l1)]) dX12_learn_30 rfl (by decide) rfl rfl ?_
  refine J_iconst dX12_learn_31 (by decide) ?_
  refine J_istore (ls' := [(4, xI 0), (3, xI s0), (0, xR 81), (1, xI l1)]) dX12_learn_32 (by decide) rfl rfl ?_
  refine J_sub [2, 3, 1, 0] rfl ?_
  exact j_Md_learn_34  hf kb ke
theorem j_Md_learn_s13 {l1 : Int} {l2 : Int} {h : xH} {x : ((Int × Int × xH) ⊕ (Int × xH))} {Q : xQ}  (hf : f_Md_learn_s13 l1 l2 h = some x) (kb : ∀ (l1' : Int) (l2' : Int) (h' : xH), x = Sum.inl (l1', l2', h') → J mX12_learn true 0 0 13 xKn [(0, xR 81), (1, xI l1'), (2, xI l2')] [] h' Q) (ke : ∀ (l1' : Int) (h' : xH), x = (Sum.inr (l1', h')) → J mX12_learn true 0 0 346 xKn [(1, xI l1')] [] h' Q) : J mX12_learn true 0 0 13 xKn [(0, xR 81), (1, xI l1), (2, xI l2)] [] h Q := by
  unfold f_Md_learn_s13 at hf
  refine J_iload_n 2 dX12_learn_13 rfl rfl ?_
  refine J_if_eq (tgt := 346) dX12_learn_14 (by decide) (fun hc => ?_) (fun hc => ?_)
  · have hf := xip hc hf
    refine J_sub [1] rfl ?_
    exact ke _ _ (xinl hf)
  · have hf := xin' hc hf
    obtain ⟨x1, ex1, hf⟩ := xlet_e hf
    refine J_iinc (ls' := [(1, xI x1), (0, xR 81), (2, xI l2)]) 1 dX12_learn_17 rfl (by decide) ex1 rfl ?_
    refine J_iload_n 0 dX12_learn_20 rfl rfl ?_
    refine J_iconst dX12_learn_21 (by decide) ?_
    refine J_ic_le (tgt := 29) dX12_learn_22 (by decide) (fun hc => ?_) (fun hc => ?_)
    · have hf := xip hc hf
      refine J_iconst dX12_learn_25 (by decide) ?_
      refine J_goto (tgt := 30) dX12_learn_26 (by decide) ?_
      refine J_sub [1, 0] rfl ?_
      exact j_Md_learn_30  hf kb ke
    · have hf := xin' hc hf
      refine J_iconst dX12_learn_29 (by decide) ?_
      refine J_sub [1, 0] rfl ?_
      exact j_Md_learn_30  hf kb ke
theorem j_Md_learn_13 {l1 : Int} {l2 : Int} {h : xH} {r0 : Int} {h0 : xH}  (hf : f_Md_learn_13 l1 l2 h = some (r0, h0))  : J mX12_learn true 0 0 13 xKn [(0, xR 81), (1, xI l1), (2, xI l2)] [] h (xEq (some r0) h0) := by
  unfold f_Md_learn_13 at hf
  obtain ⟨b0, hb0, hf⟩ := xc1_e hf
  refine xloop_ind (P := fun s : (Int × Int × xH) => J mX12_learn true 0 0 13 xKn [(0, xR 81), (1, xI s.1), (2, xI s.2.1)] [] s.2.2 (xEq (some r0) h0)) hb0 (fun s x1 hs ib ie => ?_)
  exact j_Md_learn_s13  hs (fun _ _ _ e => ib _ e) (fun _ _ e => by have := ie _ e; subst this; exact j_Md_learn_346  hf)
theorem jm_Md_learn  {h : xH} {r0 : Int} {h0 : xH}  (hf : f_Md_learn h = some (r0, h0)) : J mX12_learn true 0 0 0 xKn (xen 0 [xR 81]) [] h (xEq (some r0) h0) := by
  unfold f_Md_learn at hf
  refine J_cong (ls2 := [(0, xR 81)]) (st2 := []) rfl rfl ?_
  refine J_aload_n 0 dX12_learn_0 rfl rfl ?_
  refine J_getI (j := 61) xcf12 dX12_learn_1 (xK_rg kO81) kO81 (Or.inl xq1081) (by decide) (by decide) ?_
  refine J_if_ne (tgt := 9) dX12_learn_4 (by decide) (fun hc => ?_) (fun hc => ?_)
  · have hf := xip hc hf
    refine J_iconst dX12_learn_7 (by decide) ?_
    exact J_ireti dX12_learn_8 rfl (xq_i hf)
  · have hf := xin' hc hf
    refine J_iconst dX12_learn_9 (by decide) ?_
    refine J_istore_n (ls' := [(1, xI 0), (0, xR 81)]) dX12_learn_10 rfl (by decide) rfl rfl ?_
    refine J_iconst dX12_learn_11 (by decide) ?_
    refine J_istore_n (ls' := [(2, xI 1), (1, xI 0), (0, xR 81)]) dX12_learn_12 rfl (by decide) rfl rfl ?_
    refine J_sub [2, 1, 0] rfl ?_
    exact j_Md_learn_13  hf
theorem dX12_spread_0 : decode cX12_spread 0 = .ok (.iconst 0, 1) := by decide +kernel
theorem dX12_spread_1 : decode cX12_spread 1 = .ok (.istore_n 1, 1) := by decide +kernel
theorem dX12_spread_2 : decode cX12_spread 2 = .ok (.iconst 0, 1) := by decide +kernel
theorem dX12_spread_3 : decode cX12_spread 3 = .ok (.istore_n 2, 1) := by decide +kernel
theorem dX12_spread_4 : decode cX12_spread 4 = .ok (.iload_n 2, 1) := by decide +kernel
theorem dX12_spread_5 : decode cX12_spread 5 = .ok (.aload_n 0, 1) := by decide +kernel
theorem dX12_spread_6 : decode cX12_spread 6 = .ok (.getfield 269, 3) := by decide +kernel
theorem dX12_spread_9 : decode cX12_spread 9 = .ok (.if_icmp .ge 27, 3) := by decide +kernel
theorem dX12_spread_12 : decode cX12_spread 12 = .ok (.aload_n 0, 1) := by decide +kernel
theorem dX12_spread_13 : decode cX12_spread 13 = .ok (.iload_n 2, 1) := by decide +kernel
theorem dX12_spread_14 : decode cX12_spread 14 = .ok (.invokevirtual 379, 3) := by decide +kernel
theorem dX12_spread_17 : decode cX12_spread 17 = .ok (.aload_n 0, 1) := by decide +kernel
theorem dX12_spread_18 : decode cX12_spread 18 = .ok (.invokevirtual 329, 3) := by decide +kernel
theorem dX12_spread_21 : decode cX12_spread 21 = .ok (.iload_n 1, 1) := by decide +kernel
theorem dX12_spread_22 : decode cX12_spread 22 = .ok (.aload_n 0, 1) := by decide +kernel
theorem dX12_spread_23 : decode cX12_spread 23 = .ok (.getfield 68, 3) := by decide +kernel
theorem dX12_spread_26 : decode cX12_spread 26 = .ok (.iconst 0, 1) := by decide +kernel
theorem dX12_spread_27 : decode cX12_spread 27 = .ok (.iaload, 1) := by decide +kernel
theorem dX12_spread_28 : decode cX12_spread 28 = .ok (.iadd, 1) := by decide +kernel
theorem dX12_spread_29 : decode cX12_spread 29 = .ok (.istore_n 1, 1) := by decide +kernel
theorem dX12_spread_30 : decode cX12_spread 30 = .ok (.iinc 2 1, 3) := by decide +kernel
theorem dX12_spread_33 : decode cX12_spread 33 = .ok (.goto (-29), 3) := by decide +kernel
theorem dX12_spread_36 : decode cX12_spread 36 = .ok (.iload_n 1, 1) := by decide +kernel
theorem dX12_spread_37 : decode cX12_spread 37 = .ok (.ireturn, 1) := by decide +kernel
theorem j_Md_spread_36 {l1 : Int} {h : xH} {r0 : Int} {h0 : xH}  (hf : f_Md_spread_36 l1 h = some (r0, h0))  : J mX12_spread true 0 0 36 xKn [(1, xI l1)] [] h (xEq (some r0) h0) := by
  unfold f_Md_spread_36 at hf
  refine J_iload_n 0 dX12_spread_36 rfl rfl ?_
  exact J_ireti dX12_spread_37 rfl (xq_i hf)
theorem j_Md_spread_s4 {l1 : Int} {l2 : Int} {h : xH} {x : ((Int × Int × xH) ⊕ (Int × xH))} {Q : xQ}  (hf : f_Md_spread_s4 l1 l2 h = some x) (kb : ∀ (l1' : Int) (l2' : Int) (h' : xH), x = Sum.inl (l1', l2', h') → J mX12_spread true 0 0 4 xKn [(0, xR 81), (1, xI l1'), (2, xI l2')] [] h' Q) (ke : ∀ (l1' : Int) (h' : xH), x = (Sum.inr (l1', h')) → J mX12_spread true 0 0 36 xKn [(1, xI l1')] [] h' Q) : J mX12_spread true 0 0 4 xKn [(0, xR 81), (1, xI l1), (2, xI l2)] [] h Q := by
  unfold f_Md_spread_s4 at hf
  refine J_iload_n 2 dX12_spread_4 rfl rfl ?_
  refine J_aload_n 0 dX12_spread_5 rfl rfl ?_
  refine J_getI (j := 61) xcf12 dX12_spread_6 (xK_rg kO81) kO81 (Or.inl xq1081) (by decide) (by decide) ?_
  refine J_ic_ge (tgt := 36) dX12_spread_9 (by decide) (fun hc => ?_) (fun hc => ?_)
  · have hf := xip hc hf
    refine J_aload_n 0 dX12_spread_12 rfl rfl ?_
    refine J_iload_n 2 dX12_spread_13 rfl rfl ?_
    obtain ⟨h1, hq, hf⟩ := xc1_e hf
    refine J_cVv (Mc := mX12_takePair) [xI l2] dX12_spread_14 (fc_Md_takePair.fit ⟨xbl rfl, xbl rfl⟩) rfl ⟨Or.inl xq1477, xq1479, xq117⟩ kO81 (ci := 12) rfl rfl (xbl rfl) (xbl rfl) (jm_Md_takePair  hq) ?_
    refine J_aload_n 0 dX12_spread_17 rfl rfl ?_
    obtain ⟨h2, hq, hf⟩ := xc1_e hf
    refine J_cVv (Mc := mX12_sums) [] dX12_spread_18 (fc_Md_sums.fit ⟨xbl rfl, xbl rfl⟩) rfl ⟨Or.inl xq1366, xq1368, xq99⟩ kO81 (ci := 12) rfl rfl (xbl rfl) (xbl rfl) (jm_Md_sums  hq) ?_
    refine J_iload_n 1 dX12_spread_21 rfl rfl ?_
    refine J_aload_n 0 dX12_spread_22 rfl rfl ?_
    refine J_getRl (j := 26) xcf12 dX12_spread_23 kO81 (Or.inl xq1046) (by decide) (by decide) rf_81_26 ?_
    refine J_iconst dX12_spread_26 (by decide) ?_
    obtain ⟨hg, hf⟩ := xgd_e hf
    refine J_iald dX12_spread_27 (xK_r1 kO99) kO99 hg nA99 ?_
    refine J_iadd dX12_spread_28 ?_
    obtain ⟨x3, ex3, hf⟩ := xlet_e hf
    refine J_istore_n (ls' := [(1, xI x3), (0, xR 81), (2, xI l2)]) dX12_spread_29 rfl (by decide) ex3 rfl ?_
    obtain ⟨x4, ex4, hf⟩ := xlet_e hf
    refine J_iinc (ls' := [(2, xI x4), (1, xI x3), (0, xR 81)]) 2 dX12_spread_30 rfl (by decide) ex4 rfl ?_
    refine J_goto (tgt := 4) dX12_spread_33 (by decide) ?_
    refine J_sub [2, 1, 0] rfl ?_
    exact kb _ _ _ (xinl hf)
  · have hf := xin' hc hf
    refine J_sub [1] rfl ?_
    exact ke _ _ (xinl hf)
theorem j_Md_spread_4 {l1 : Int} {l2 : Int} {h : xH} {r0 : Int} {h0 : xH}  (hf : f_Md_spread_4 l1 l2 h = some (r0, h0))  : J mX12_spread true 0 0 4 xKn [(0, xR 81), (1, xI l1), (2, xI l2)] [] h (xEq (some r0) h0) := by
  unfold f_Md_spread_4 at hf
  obtain ⟨b0, hb0, hf⟩ := xc1_e hf
  refine xloop_ind (P := fun s : (Int × Int × xH) => J mX12_spread true 0 0 4 xKn [(0, xR 81), (1, xI s.1), (2, xI s.2.1)] [] s.2.2 (xEq (some r0) h0)) hb0 (fun s x1 hs ib ie => ?_)
  exact j_Md_spread_s4  hs (fun _ _ _ e => ib _ e) (fun _ _ e => by have := ie _ e; subst this; exact j_Md_spread_36  hf)
theorem jm_Md_spread  {h : xH} {r0 : Int} {h0 : xH}  (hf : f_Md_spread h = some (r0, h0)) : J mX12_spread true 0 0 0 xKn (xen 0 [xR 81]) [] h (xEq (some r0) h0) := by
  unfold f_Md_spread at hf
  refine J_cong (ls2 := [(0, xR 81)]) (st2 := []) rfl rfl ?_
  refine J_iconst dX12_spread_0 (by decide) ?_
  refine J_istore_n (ls' := [(1, xI 0), (0, xR 81)]) dX12_spread_1 rfl (by decide) rfl rfl ?_
  refine J_iconst dX12_spread_2 (by decide) ?_
  refine J_istore_n (ls' := [(2, xI 0), (1, xI 0), (0, xR 81)]) dX12_spread_3 rfl (by decide) rfl rfl ?_
  refine J_sub [2, 1, 0] rfl ?_
  exact j_Md_spread_4  hf
theorem dX12_together_0 : decode cX12_together 0 = .ok (.aload_n 0, 1) := by decide +kernel
theorem dX12_together_1 : decode cX12_together 1 = .ok (.getfield 13, 3) := by decide +kernel
theorem dX12_together_4 : decode cX12_together 4 = .ok (.iload_n 1, 1) := by decide +kernel
theorem dX12_together_5 : decode cX12_together 5 = .ok (.iaload, 1) := by decide +kernel
theorem dX12_together_6 : decode cX12_together 6 = .ok (.aload_n 0, 1) := by decide +kernel
theorem dX12_together_7 : decode cX12_together 7 = .ok (.getfield 13, 3) := by decide +kernel
theorem dX12_together_10 : decode cX12_together 10 = .ok (.iload_n 1, 1) := by decide +kernel
theorem dX12_together_11 : decode cX12_together 11 = .ok (.iconst 1, 1) := by decide +kernel
theorem dX12_together_12 : decode cX12_together 12 = .ok (.iadd, 1) := by decide +kernel
theorem dX12_together_13 : decode cX12_together 13 = .ok (.iaload, 1) := by decide +kernel
theorem dX12_together_14 : decode cX12_together 14 = .ok (.iadd, 1) := by decide +kernel
theorem dX12_together_15 : decode cX12_together 15 = .ok (.istore_n 2, 1) := by decide +kernel
theorem dX12_together_16 : decode cX12_together 16 = .ok (.iload_n 2, 1) := by decide +kernel
theorem dX12_together_17 : decode cX12_together 17 = .ok (.bipush 12, 2) := by decide +kernel
theorem dX12_together_19 : decode cX12_together 19 = .ok (.if_icmp .le 5, 3) := by decide +kernel
theorem dX12_together_22 : decode cX12_together 22 = .ok (.iconst (-1), 1) := by decide +kernel
theorem dX12_together_23 : decode cX12_together 23 = .ok (.ireturn, 1) := by decide +kernel
theorem dX12_together_24 : decode cX12_together 24 = .ok (.iconst 0, 1) := by decide +kernel
theorem dX12_together_25 : decode cX12_together 25 = .ok (.istore_n 3, 1) := by decide +kernel
theorem dX12_together_26 : decode cX12_together 26 = .ok (.iload_n 3, 1) := by decide +kernel
theorem dX12_together_27 : decode cX12_together 27 = .ok (.aload_n 0, 1) := by decide +kernel
theorem dX12_together_28 : decode cX12_together 28 = .ok (.getfield 13, 3) := by decide +kernel
theorem dX12_together_31 : decode cX12_together 31 = .ok (.iload_n 1, 1) := by decide +kernel
theorem dX12_together_32 : decode cX12_together 32 = .ok (.iaload, 1) := by decide +kernel
theorem dX12_together_33 : decode cX12_together 33 = .ok (.if_icmp .ge 26, 3) := by decide +kernel
theorem dX12_together_36 : decode cX12_together 36 = .ok (.aload_n 0, 1) := by decide +kernel
theorem dX12_together_37 : decode cX12_together 37 = .ok (.getfield 212, 3) := by decide +kernel
theorem dX12_together_40 : decode cX12_together 40 = .ok (.iload_n 3, 1) := by decide +kernel
theorem dX12_together_41 : decode cX12_together 41 = .ok (.aload_n 0, 1) := by decide +kernel
theorem dX12_together_42 : decode cX12_together 42 = .ok (.getfield 16, 3) := by decide +kernel
theorem dX12_together_45 : decode cX12_together 45 = .ok (.bipush 12, 2) := by decide +kernel
theorem dX12_together_47 : decode cX12_together 47 = .ok (.iload_n 1, 1) := by decide +kernel
theorem dX12_together_48 : decode cX12_together 48 = .ok (.imul, 1) := by decide +kernel
theorem dX12_together_49 : decode cX12_together 49 = .ok (.iload_n 3, 1) := by decide +kernel
theorem dX12_together_50 : decode cX12_together 50 = .ok (.iadd, 1) := by decide +kernel
theorem dX12_together_51 : decode cX12_together 51 = .ok (.iaload, 1) := by decide +kernel
theorem dX12_together_52 : decode cX12_together 52 = .ok (.iastore, 1) := by decide +kernel
theorem dX12_together_53 : decode cX12_together 53 = .ok (.iinc 3 1, 3) := by decide +kernel
theorem dX12_together_56 : decode cX12_together 56 = .ok (.goto (-30), 3) := by decide +kernel
theorem dX12_together_59 : decode cX12_together 59 = .ok (.iconst 0, 1) := by decide +kernel
theorem dX12_together_60 : decode cX12_together 60 = .ok (.istore_n 3, 1) := by decide +kernel
theorem dX12_together_61 : decode cX12_together 61 = .ok (.iload_n 3, 1) := by decide +kernel
theorem dX12_together_62 : decode cX12_together 62 = .ok (.aload_n 0, 1) := by decide +kernel
theorem dX12_together_63 : decode cX12_together 63 = .ok (.getfield 13, 3) := by decide +kernel
theorem dX12_together_66 : decode cX12_together 66 = .ok (.iload_n 1, 1) := by decide +kernel
theorem dX12_together_67 : decode cX12_together 67 = .ok (.iconst 1, 1) := by decide +kernel
theorem dX12_together_68 : decode cX12_together 68 = .ok (.iadd, 1) := by decide +kernel
theorem dX12_together_69 : decode cX12_together 69 = .ok (.iaload, 1) := by decide +kernel
theorem dX12_together_70 : decode cX12_together 70 = .ok (.if_icmp .ge 35, 3) := by decide +kernel
theorem dX12_together_73 : decode cX12_together 73 = .ok (.aload_n 0, 1) := by decide +kernel
theorem dX12_together_74 : decode cX12_together 74 = .ok (.getfield 212, 3) := by decide +kernel
theorem dX12_together_77 : decode cX12_together 77 = .ok (.aload_n 0, 1) := by decide +kernel
theorem dX12_together_78 : decode cX12_together 78 = .ok (.getfield 13, 3) := by decide +kernel
theorem dX12_together_81 : decode cX12_together 81 = .ok (.iload_n 1, 1) := by decide +kernel
theorem dX12_together_82 : decode cX12_together 82 = .ok (.iaload, 1) := by decide +kernel
theorem dX12_together_83 : decode cX12_together 83 = .ok (.iload_n 3, 1) := by decide +kernel
theorem dX12_together_84 : decode cX12_together 84 = .ok (.iadd, 1) := by decide +kernel
theorem dX12_together_85 : decode cX12_together 85 = .ok (.aload_n 0, 1) := by decide +kernel
theorem dX12_together_86 : decode cX12_together 86 = .ok (.getfield 16, 3) := by decide +kernel
theorem dX12_together_89 : decode cX12_together 89 = .ok (.bipush 12, 2) := by decide +kernel
theorem dX12_together_91 : decode cX12_together 91 = .ok (.iload_n 1, 1) := by decide +kernel
theorem dX12_together_92 : decode cX12_together 92 = .ok (.iconst 1, 1) := by decide +kernel
theorem dX12_together_93 : decode cX12_together 93 = .ok (.iadd, 1) := by decide +kernel
theorem dX12_together_94 : decode cX12_together 94 = .ok (.imul, 1) := by decide +kernel
theorem dX12_together_95 : decode cX12_together 95 = .ok (.iload_n 3, 1) := by decide +kernel
theorem dX12_together_96 : decode cX12_together 96 = .ok (.iadd, 1) := by decide +kernel
theorem dX12_together_97 : decode cX12_together 97 = .ok (.iaload, 1) := by decide +kernel
theorem dX12_together_98 : decode cX12_together 98 = .ok (.iastore, 1) := by decide +kernel
theorem dX12_together_99 : decode cX12_together 99 = .ok (.iinc 3 1, 3) := by decide +kernel
theorem dX12_together_102 : decode cX12_together 102 = .ok (.goto (-41), 3) := by decide +kernel
theorem dX12_together_105 : decode cX12_together 105 = .ok (.aload_n 0, 1) := by decide +kernel
theorem dX12_together_106 : decode cX12_together 106 = .ok (.iload_n 2, 1) := by decide +kernel
theorem dX12_together_107 : decode cX12_together 107 = .ok (.aload_n 0, 1) := by decide +kernel
theorem dX12_together_108 : decode cX12_together 108 = .ok (.getfield 212, 3) := by decide +kernel
theorem dX12_together_111 : decode cX12_together 111 = .ok (.iconst 0, 1) := by decide +kernel
theorem dX12_together_112 : decode cX12_together 112 = .ok (.invokevirtual 246, 3) := by decide +kernel
theorem dX12_together_115 : decode cX12_together 115 = .ok (.ireturn, 1) := by decide +kernel
theorem j_Md_together_105 {l2 : Int} {h : xH} {r0 : Int} {h0 : xH}  (hf : f_Md_together_105 l2 h = some (r0, h0))  : J mX12_together true 0 0 105 xKn [(0, xR 81), (2, xI l2)] [] h (xEq (some r0) h0) := by
  unfold f_Md_together_105 at hf
  refine J_aload_n 0 dX12_together_105 rfl rfl ?_
  refine J_iload_n 1 dX12_together_106 rfl rfl ?_
  refine J_aload_n 0 dX12_together_107 rfl rfl ?_
  refine J_getRl (j := 85) xcf12 dX12_together_108 kO81 (Or.inl xq1105) (by decide) (by decide) rf_81_85 ?_
  refine J_iconst dX12_together_111 (by decide) ?_
  obtain ⟨r1, hq, hf⟩ := xc1_e hf
  refine J_cVi (Mc := mX12_wordOf) [xI l2, xR 145, xI 0] dX12_together_112 (fc_Md_wordOf.fit ⟨xbl rfl, xbl rfl⟩) rfl ⟨Or.inl xq1299, xq1301, xq91⟩ kO81 (ci := 12) rfl rfl (xbl rfl) (xbl rfl) (jm_Md_wordOf kO145 hq) ?_
  exact J_ireti dX12_together_115 rfl (xq_i hf)
theorem j_Md_together_s61 {l1 : Int} {l2 : Int} {l3 : Int} {h : xH} {x : ((Int × xH) ⊕ xH)} {Q : xQ}  (hf : f_Md_together_s61 l1 l2 l3 h = some x) (kb : ∀ (l3' : Int) (h' : xH), x = Sum.inl (l3', h') → J mX12_together true 0 0 61 xKn [(0, xR 81), (1, xI l1), (2, xI l2), (3, xI l3')] [] h' Q) (ke : ∀  (h' : xH), x = (Sum.inr h') → J mX12_together true 0 0 105 xKn [(0, xR 81), (2, xI l2)] [] h' Q) : J mX12_together true 0 0 61 xKn [(0, xR 81), (1, xI l1), (2, xI l2), (3, xI l3)] [] h Q := by
  unfold f_Md_together_s61 at hf
  refine J_iload_n 3 dX12_together_61 rfl rfl ?_
  refine J_aload_n 0 dX12_together_62 rfl rfl ?_
  refine J_getRl (j := 3) xcf12 dX12_together_63 kO81 (Or.inl xq1023) (by decide) (by decide) rf_81_3 ?_
  refine J_iload_n 1 dX12_together_66 rfl rfl ?_
  refine J_iconst dX12_together_67 (by decide) ?_
  refine J_iadd dX12_together_68 ?_
  obtain ⟨hg, hf⟩ := xgd_e hf
  refine J_iald dX12_together_69 (xK_r1 kO83) kO83 hg nA83 ?_
  refine J_ic_ge (tgt := 105) dX12_together_70 (by decide) (fun hc => ?_) (fun hc => ?_)
  · have hf := xip hc hf
    refine J_aload_n 0 dX12_together_73 rfl rfl ?_
    refine J_getRl (j := 85) xcf12 dX12_together_74 kO81 (Or.inl xq1105) (by decide) (by decide) rf_81_85 ?_
    refine J_aload_n 0 dX12_together_77 rfl rfl ?_
    refine J_getRl (j := 3) xcf12 dX12_together_78 kO81 (Or.inl xq1023) (by decide) (by decide) rf_81_3 ?_
    refine J_iload_n 1 dX12_together_81 rfl rfl ?_
    obtain ⟨hg, hf⟩ := xgd_e hf
    refine J_iald dX12_together_82 (xK_r1 kO83) kO83 hg nA83 ?_
    refine J_iload_n 3 dX12_together_83 rfl rfl ?_
    refine J_iadd dX12_together_84 ?_
    refine J_aload_n 0 dX12_together_85 rfl rfl ?_
    refine J_getRl (j := 4) xcf12 dX12_together_86 kO81 (Or.inl xq1024) (by decide) (by decide) rf_81_4 ?_
    refine J_bip dX12_together_89 (by decide) ?_
    refine J_iload_n 1 dX12_together_91 rfl rfl ?_
    refine J_iconst dX12_together_92 (by decide) ?_
    refine J_iadd dX12_together_93 ?_
    refine J_imul dX12_together_94 ?_
    refine J_iload_n 3 dX12_together_95 rfl rfl ?_
    refine J_iadd dX12_together_96 ?_
    obtain ⟨hg, hf⟩ := xgd_e hf
    refine J_iald dX12_together_97 (xK_r1 kO84) kO84 hg nA84 ?_
    obtain ⟨hg, hf⟩ := xgd_e hf
    obtain ⟨h1, eh1, hf⟩ := xlet_e hf
    refine J_iast dX12_together_98 (xK_r1 kO145) kO145 hg nA145 eh1 ?_
    obtain ⟨x2, ex2, hf⟩ := xlet_e hf
    refine J_iinc (ls' := [(3, xI x2), (0, xR 81), (1, xI l1), (2, xI l2)]) 3 dX12_together_99 rfl (by decide) ex2 rfl ?_
    refine J_goto (tgt := 61) dX12_together_102 (by decide) ?_
    refine J_sub [1, 2, 3, 0] rfl ?_
    exact kb _ _ (xinl hf)
  · have hf := xin' hc hf
    refine J_sub [0, 2] rfl ?_
    exact ke _ (xinl hf)
theorem j_Md_together_61 {l1 : Int} {l2 : Int} {l3 : Int} {h : xH} {r0 : Int} {h0 : xH}  (hf : f_Md_together_61 l1 l2 l3 h = some (r0, h0))  : J mX12_together true 0 0 61 xKn [(0, xR 81), (1, xI l1), (2, xI l2), (3, xI l3)] [] h (xEq (some r0) h0) := by
  unfold f_Md_together_61 at hf
  obtain ⟨b0, hb0, hf⟩ := xc1_e hf
  refine xloop_ind (P := fun s : (Int × xH) => J mX12_together true 0 0 61 xKn [(0, xR 81), (1, xI l1), (2, xI l2), (3, xI s.1)] [] s.2 (xEq (some r0) h0)) hb0 (fun s x1 hs ib ie => ?_)
  exact j_Md_together_s61  hs (fun _ _ e => ib _ e) (fun _ e => by have := ie _ e; subst this; exact j_Md_together_105  hf)
theorem j_Md_together_59 {l1 : Int} {l2 : Int} {h : xH} {r0 : Int} {h0 : xH}  (hf : f_Md_together_59 l1 l2 h = some (r0, h0))  : J mX12_together true 0 0 59 xKn [(0, xR 81), (1, xI l1), (2, xI l2)] [] h (xEq (some r0) h0) := by
  unfold f_Md_together_59 at hf
  refine J_iconst dX12_together_59 (by decide) ?_
  refine J_istore_n (ls' := [(3, xI 0), (0, xR 81), (1, xI l1), (2, xI l2)]) dX12_together_60 rfl (by decide) rfl rfl ?_
  refine J_sub [1, 2, 3, 0] rfl ?_
  exact j_Md_together_61  hf
theorem j_Md_together_s26 {l1 : Int} {l2 : Int} {l3 : Int} {h : xH} {x : ((Int × xH) ⊕ xH)} {Q : xQ}  (hf : f_Md_together_s26 l1 l2 l3 h = some x) (kb : ∀ (l3' : Int) (h' : xH), x = Sum.inl (l3', h') → J mX12_together true 0 0 26 xKn [(0, xR 81), (1, xI l1), (2, xI l2), (3, xI l3')] [] h' Q) (ke : ∀  (h' : xH), x = (Sum.inr h') → J mX12_together true 0 0 59 xKn [(0, xR 81), (1, xI l1), (2, xI l2)] [] h' Q) : J mX12_together true 0 0 26 xKn [(0, xR 81), (1, xI l1), (2, xI l2), (3, xI l3)] [] h Q := by
  unfold f_Md_together_s26 at hf
  refine J_iload_n 3 dX12_together_26 rfl rfl ?_
  refine J_aload_n 0 dX12_together_27 rfl rfl ?_
  refine J_getRl (j := 3) xcf12 dX12_together_28 kO81 (Or.inl xq1023) (by decide) (by decide) rf_81_3 ?_
  refine J_iload_n 1 dX12_together_31 rfl rfl ?_
  obtain ⟨hg, hf⟩ := xgd_e hf
  refine J_iald dX12_together_32 (xK_r1 kO83) kO83 hg nA83 ?_
  refine J_ic_ge (tgt := 59) dX12_together_33 (by decide) (fun hc => ?_) (fun hc => ?_)
  · have hf := xip hc hf
    refine J_aload_n 0 dX12_together_36 rfl rfl ?_
    refine J_getRl (j := 85) xcf12 dX12_together_37 kO81 (Or.inl xq1105) (by decide) (by decide) rf_81_85 ?_
    refine J_iload_n 3 dX12_together_40 rfl rfl ?_
    refine J_aload_n 0 dX12_together_41 rfl rfl ?_
    refine J_getRl (j := 4) xcf12 dX12_together_42 kO81 (Or.inl xq1024) (by decide) (by decide) rf_81_4 ?_
    refine J_bip dX12_together_45 (by decide) ?_
    refine J_iload_n 1 dX12_together_47 rfl rfl ?_
    refine J_imul dX12_together_48 ?_
    refine J_iload_n 3 dX12_together_49 rfl rfl ?_
    refine J_iadd dX12_together_50 ?_
    obtain ⟨hg, hf⟩ := xgd_e hf
    refine J_iald dX12_together_51 (xK_r1 kO84) kO84 hg nA84 ?_
    obtain ⟨hg, hf⟩ := xgd_e hf
    obtain ⟨h1, eh1, hf⟩ := xlet_e hf
    refine J_iast dX12_together_52 (xK_r1 kO145) kO145 hg nA145 eh1 ?_
    obtain ⟨x2, ex2, hf⟩ := xlet_e hf
    refine J_iinc (ls' := [(3, xI x2), (0, xR 81), (1, xI l1), (2, xI l2)]) 3 dX12_together_53 rfl (by decide) ex2 rfl ?_
    refine J_goto (tgt := 26) dX12_together_56 (by decide) ?_
    refine J_sub [1, 2, 3, 0] rfl ?_
    exact kb _ _ (xinl hf)
  · have hf := xin' hc hf
    refine J_sub [0, 1, 2] rfl ?_
    exact ke _ (xinl hf)
theorem j_Md_together_26 {l1 : Int} {l2 : Int} {l3 : Int} {h : xH} {r0 : Int} {h0 : xH}  (hf : f_Md_together_26 l1 l2 l3 h = some (r0, h0))  : J mX12_together true 0 0 26 xKn [(0, xR 81), (1, xI l1), (2, xI l2), (3, xI l3)] [] h (xEq (some r0) h0) := by
  unfold f_Md_together_26 at hf
  obtain ⟨b0, hb0, hf⟩ := xc1_e hf
  refine xloop_ind (P := fun s : (Int × xH) => J mX12_together true 0 0 26 xKn [(0, xR 81), (1, xI l1), (2, xI l2), (3, xI s.1)] [] s.2 (xEq (some r0) h0)) hb0 (fun s x1 hs ib ie => ?_)
  exact j_Md_together_s26  hs (fun _ _ e => ib _ e) (fun _ e => by have := ie _ e; subst this; exact j_Md_together_59  hf)
theorem jm_Md_together {l1 : Int} {h : xH} {r0 : Int} {h0 : xH}  (hf : f_Md_together l1 h = some (r0, h0)) : J mX12_together true 0 0 0 xKn (xen 0 [xR 81, xI l1]) [] h (xEq (some r0) h0) := by
  unfold f_Md_together at hf
  refine J_cong (ls2 := [(0, xR 81), (1, xI l1)]) (st2 := []) rfl rfl ?_
  refine J_aload_n 0 dX12_together_0 rfl rfl ?_
  refine J_getRl (j := 3) xcf12 dX12_together_1 kO81 (Or.inl xq1023) (by decide) (by decide) rf_81_3 ?_
  refine J_iload_n 1 dX12_together_4 rfl rfl ?_
  obtain ⟨hg, hf⟩ := xgd_e hf
  refine J_iald dX12_together_5 (xK_r1 kO83) kO83 hg nA83 ?_
  refine J_aload_n 0 dX12_together_6 rfl rfl ?_
  refine J_getRl (j := 3) xcf12 dX12_together_7 kO81 (Or.inl xq1023) (by decide) (by decide) rf_81_3 ?_
  refine J_iload_n 1 dX12_together_10 rfl rfl ?_
  refine J_iconst dX12_together_11 (by decide) ?_
  refine J_iadd dX12_together_12 ?_
  obtain ⟨hg, hf⟩ := xgd_e hf
  refine J_iald dX12_together_13 (xK_r1 kO83) kO83 hg nA83 ?_
  refine J_iadd dX12_together_14 ?_
  obtain ⟨x1, ex1, hf⟩ := xlet_e hf
  refine J_istore_n (ls' := [(2, xI x1), (0, xR 81), (1, xI l1)]) dX12_together_15 rfl (by decide) ex1 rfl ?_
  refine J_iload_n 0 dX12_together_16 rfl rfl ?_
  refine J_bip dX12_together_17 (by decide) ?_
  refine J_ic_le (tgt := 24) dX12_together_19 (by decide) (fun hc => ?_) (fun hc => ?_)
  · have hf := xip hc hf
    refine J_iconst dX12_together_22 (by decide) ?_
    exact J_ireti dX12_together_23 rfl (xq_i hf)
  · have hf := xin' hc hf
    refine J_iconst dX12_together_24 (by decide) ?_
    refine J_istore_n (ls' := [(3, xI 0), (2, xI x1), (0, xR 81), (1, xI l1)]) dX12_together_25 rfl (by decide) rfl rfl ?_
    refine J_sub [2, 3, 1, 0] rfl ?_
    exact j_Md_together_26  hf
theorem dX12_isWord_0 : decode cX12_isWord 0 = .ok (.aload_n 0, 1) := by decide +kernel
theorem dX12_isWord_1 : decode cX12_isWord 1 = .ok (.aload_n 0, 1) := by decide +kernel
theorem dX12_isWord_2 : decode cX12_isWord 2 = .ok (.getfield 13, 3) := by decide +kernel
theorem dX12_isWord_5 : decode cX12_isWord 5 = .ok (.iload_n 1, 1) := by decide +kernel
theorem dX12_isWord_6 : decode cX12_isWord 6 = .ok (.iaload, 1) := by decide +kernel
theorem dX12_isWord_7 : decode cX12_isWord 7 = .ok (.aload_n 0, 1) := by decide +kernel
theorem dX12_isWord_8 : decode cX12_isWord 8 = .ok (.getfield 16, 3) := by decide +kernel
theorem dX12_isWord_11 : decode cX12_isWord 11 = .ok (.bipush 12, 2) := by decide +kernel
theorem dX12_isWord_13 : decode cX12_isWord 13 = .ok (.iload_n 1, 1) := by decide +kernel
theorem dX12_isWord_14 : decode cX12_isWord 14 = .ok (.imul, 1) := by decide +kernel
theorem dX12_isWord_15 : decode cX12_isWord 15 = .ok (.invokevirtual 246, 3) := by decide +kernel
theorem dX12_isWord_18 : decode cX12_isWord 18 = .ok (.ireturn, 1) := by decide +kernel
theorem jm_Md_isWord {l1 : Int} {h : xH} {r0 : Int}  (hf : f_Md_isWord l1 h = some r0) : J mX12_isWord true 0 0 0 xKn (xen 0 [xR 81, xI l1]) [] h (xEq (some r0) h) := by
  unfold f_Md_isWord at hf
  refine J_cong (ls2 := [(0, xR 81), (1, xI l1)]) (st2 := []) rfl rfl ?_
  refine J_aload_n 0 dX12_isWord_0 rfl rfl ?_
  refine J_aload_n 0 dX12_isWord_1 rfl rfl ?_
  refine J_getRl (j := 3) xcf12 dX12_isWord_2 kO81 (Or.inl xq1023) (by decide) (by decide) rf_81_3 ?_
  refine J_iload_n 1 dX12_isWord_5 rfl rfl ?_
  obtain ⟨hg, hf⟩ := xgd_e hf
  refine J_iald dX12_isWord_6 (xK_r1 kO83) kO83 hg nA83 ?_
  refine J_aload_n 0 dX12_isWord_7 rfl rfl ?_
  refine J_getRl (j := 4) xcf12 dX12_isWord_8 kO81 (Or.inl xq1024) (by decide) (by decide) rf_81_4 ?_
  refine J_bip dX12_isWord_11 (by decide) ?_
  refine J_iload_n 1 dX12_isWord_13 rfl rfl ?_
  refine J_imul dX12_isWord_14 ?_
  obtain ⟨r1, hq, hf⟩ := xc1_e hf
  refine J_cVi (Mc := mX12_wordOf) [xI (h 83 l1), xR 84, xI (w32 (12 * l1))] dX12_isWord_15 (fc_Md_wordOf.fit ⟨xbl rfl, xbl rfl⟩) rfl ⟨Or.inl xq1299, xq1301, xq91⟩ kO81 (ci := 12) rfl rfl (xbl rfl) (xbl rfl) (jm_Md_wordOf kO84 hq) ?_
  exact J_ireti dX12_isWord_18 rfl (xq_p hf)
theorem dX12_parting_0 : decode cX12_parting 0 = .ok (.iconst 1, 1) := by decide +kernel
theorem dX12_parting_1 : decode cX12_parting 1 = .ok (.istore_n 2, 1) := by decide +kernel
theorem dX12_parting_2 : decode cX12_parting 2 = .ok (.iload_n 2, 1) := by decide +kernel
theorem dX12_parting_3 : decode cX12_parting 3 = .ok (.aload_n 0, 1) := by decide +kernel
theorem dX12_parting_4 : decode cX12_parting 4 = .ok (.getfield 13, 3) := by decide +kernel
theorem dX12_parting_7 : decode cX12_parting 7 = .ok (.iload_n 1, 1) := by decide +kernel
theorem dX12_parting_8 : decode cX12_parting 8 = .ok (.iaload, 1) := by decide +kernel
theorem dX12_parting_9 : decode cX12_parting 9 = .ok (.if_icmp .ge 54, 3) := by decide +kernel
theorem dX12_parting_12 : decode cX12_parting 12 = .ok (.aload_n 0, 1) := by decide +kernel
theorem dX12_parting_13 : decode cX12_parting 13 = .ok (.iload_n 2, 1) := by decide +kernel
theorem dX12_parting_14 : decode cX12_parting 14 = .ok (.aload_n 0, 1) := by decide +kernel
theorem dX12_parting_15 : decode cX12_parting 15 = .ok (.getfield 16, 3) := by decide +kernel
theorem dX12_parting_18 : decode cX12_parting 18 = .ok (.bipush 12, 2) := by decide +kernel
theorem dX12_parting_20 : decode cX12_parting 20 = .ok (.iload_n 1, 1) := by decide +kernel
theorem dX12_parting_21 : decode cX12_parting 21 = .ok (.imul, 1) := by decide +kernel
theorem dX12_parting_22 : decode cX12_parting 22 = .ok (.invokevirtual 246, 3) := by decide +kernel
theorem dX12_parting_25 : decode cX12_parting 25 = .ok (.iconst (-1), 1) := by decide +kernel
theorem dX12_parting_26 : decode cX12_parting 26 = .ok (.if_icmp .eq 31, 3) := by decide +kernel
theorem dX12_parting_29 : decode cX12_parting 29 = .ok (.aload_n 0, 1) := by decide +kernel
theorem dX12_parting_30 : decode cX12_parting 30 = .ok (.aload_n 0, 1) := by decide +kernel
theorem dX12_parting_31 : decode cX12_parting 31 = .ok (.getfield 13, 3) := by decide +kernel
theorem dX12_parting_34 : decode cX12_parting 34 = .ok (.iload_n 1, 1) := by decide +kernel
theorem dX12_parting_35 : decode cX12_parting 35 = .ok (.iaload, 1) := by decide +kernel
theorem dX12_parting_36 : decode cX12_parting 36 = .ok (.iload_n 2, 1) := by decide +kernel
theorem dX12_parting_37 : decode cX12_parting 37 = .ok (.isub, 1) := by decide +kernel
theorem dX12_parting_38 : decode cX12_parting 38 = .ok (.aload_n 0, 1) := by decide +kernel
theorem dX12_parting_39 : decode cX12_parting 39 = .ok (.getfield 16, 3) := by decide +kernel
theorem dX12_parting_42 : decode cX12_parting 42 = .ok (.bipush 12, 2) := by decide +kernel
theorem dX12_parting_44 : decode cX12_parting 44 = .ok (.iload_n 1, 1) := by decide +kernel
theorem dX12_parting_45 : decode cX12_parting 45 = .ok (.imul, 1) := by decide +kernel
theorem dX12_parting_46 : decode cX12_parting 46 = .ok (.iload_n 2, 1) := by decide +kernel
theorem dX12_parting_47 : decode cX12_parting 47 = .ok (.iadd, 1) := by decide +kernel
theorem dX12_parting_48 : decode cX12_parting 48 = .ok (.invokevirtual 246, 3) := by decide +kernel
theorem dX12_parting_51 : decode cX12_parting 51 = .ok (.iconst (-1), 1) := by decide +kernel
theorem dX12_parting_52 : decode cX12_parting 52 = .ok (.if_icmp .eq 5, 3) := by decide +kernel
theorem dX12_parting_55 : decode cX12_parting 55 = .ok (.iload_n 2, 1) := by decide +kernel
theorem dX12_parting_56 : decode cX12_parting 56 = .ok (.ireturn, 1) := by decide +kernel
theorem dX12_parting_57 : decode cX12_parting 57 = .ok (.iinc 2 1, 3) := by decide +kernel
theorem dX12_parting_60 : decode cX12_parting 60 = .ok (.goto (-58), 3) := by decide +kernel
theorem dX12_parting_63 : decode cX12_parting 63 = .ok (.iconst (-1), 1) := by decide +kernel
theorem dX12_parting_64 : decode cX12_parting 64 = .ok (.ireturn, 1) := by decide +kernel
theorem j_Md_parting_63  {h : xH} {r0 : Int}  (hf : f_Md_parting_63 h = some r0)  : J mX12_parting true 0 0 63 xKn [] [] h (xEq (some r0) h) := by
  unfold f_Md_parting_63 at hf
  refine J_iconst dX12_parting_63 (by decide) ?_
  exact J_ireti dX12_parting_64 rfl (xq_p hf)
theorem j_Md_parting_57 {l1 : Int} {l2 : Int} {h : xH} {x : (Int ⊕ (Unit ⊕ Int))} {Q : xQ}  (hf : f_Md_parting_57 l1 l2 h = some x) (kb : ∀ (l2' : Int), x = Sum.inl l2' → J mX12_parting true 0 0 2 xKn [(0, xR 81), (1, xI l1), (2, xI l2')] [] h Q) (ke : x = (Sum.inr (Sum.inl ())) → J mX12_parting true 0 0 63 xKn [] [] h Q) (kr : ∀ v : Int, x = (Sum.inr (Sum.inr v)) → Q (some v) xKn h) : J mX12_parting true 0 0 57 xKn [(0, xR 81), (1, xI l1), (2, xI l2)] [] h Q := by
  unfold f_Md_parting_57 at hf
  obtain ⟨x1, ex1, hf⟩ := xlet_e hf
  refine J_iinc (ls' := [(2, xI x1), (0, xR 81), (1, xI l1)]) 2 dX12_parting_57 rfl (by decide) ex1 rfl ?_
  refine J_goto (tgt := 2) dX12_parting_60 (by decide) ?_
  refine J_sub [1, 2, 0] rfl ?_
  exact kb _ (xinl hf)
theorem j_Md_parting_s2 {l1 : Int} {l2 : Int} {h : xH} {x : (Int ⊕ (Unit ⊕ Int))} {Q : xQ}  (hf : f_Md_parting_s2 l1 l2 h = some x) (kb : ∀ (l2' : Int), x = Sum.inl l2' → J mX12_parting true 0 0 2 xKn [(0, xR 81), (1, xI l1), (2, xI l2')] [] h Q) (ke : x = (Sum.inr (Sum.inl ())) → J mX12_parting true 0 0 63 xKn [] [] h Q) (kr : ∀ v : Int, x = (Sum.inr (Sum.inr v)) → Q (some v) xKn h) : J mX12_parting true 0 0 2 xKn [(0, xR 81), (1, xI l1), (2, xI l2)] [] h Q := by
  unfold f_Md_parting_s2 at hf
  refine J_iload_n 2 dX12_parting_2 rfl rfl ?_
  refine J_aload_n 0 dX12_parting_3 rfl rfl ?_
  refine J_getRl (j := 3) xcf12 dX12_parting_4 kO81 (Or.inl xq1023) (by decide) (by decide) rf_81_3 ?_
  refine J_iload_n 1 dX12_parting_7 rfl rfl ?_
  obtain ⟨hg, hf⟩ := xgd_e hf
  refine J_iald dX12_parting_8 (xK_r1 kO83) kO83 hg nA83 ?_
  refine J_ic_ge (tgt := 63) dX12_parting_9 (by decide) (fun hc => ?_) (fun hc => ?_)
  · have hf := xip hc hf
    refine J_aload_n 0 dX12_parting_12 rfl rfl ?_
    refine J_iload_n 2 dX12_parting_13 rfl rfl ?_
    refine J_aload_n 0 dX12_parting_14 rfl rfl ?_
    refine J_getRl (j := 4) xcf12 dX12_parting_15 kO81 (Or.inl xq1024) (by decide) (by decide) rf_81_4 ?_
    refine J_bip dX12_parting_18 (by decide) ?_
    refine J_iload_n 1 dX12_parting_20 rfl rfl ?_
    refine J_imul dX12_parting_21 ?_
    obtain ⟨r1, hq, hf⟩ := xc1_e hf
    refine J_cVi (Mc := mX12_wordOf) [xI l2, xR 84, xI (w32 (12 * l1))] dX12_parting_22 (fc_Md_wordOf.fit ⟨xbl rfl, xbl rfl⟩) rfl ⟨Or.inl xq1299, xq1301, xq91⟩ kO81 (ci := 12) rfl rfl (xbl rfl) (xbl rfl) (jm_Md_wordOf kO84 hq) ?_
    refine J_iconst dX12_parting_25 (by decide) ?_
    refine J_ic_eq (tgt := 57) dX12_parting_26 (by decide) (fun hc => ?_) (fun hc => ?_)
    · have hf := xip hc hf
      exact j_Md_parting_57  hf kb ke kr
    · have hf := xin' hc hf
      refine J_aload_n 0 dX12_parting_29 rfl rfl ?_
      refine J_aload_n 0 dX12_parting_30 rfl rfl ?_
      refine J_getRl (j := 3) xcf12 dX12_parting_31 kO81 (Or.inl xq1023) (by decide) (by decide) rf_81_3 ?_
      refine J_iload_n 1 dX12_parting_34 rfl rfl ?_
      obtain ⟨hg, hf⟩ := xgd_e hf
      refine J_iald dX12_parting_35 (xK_r1 kO83) kO83 hg nA83 ?_
      refine J_iload_n 2 dX12_parting_36 rfl rfl ?_
      refine J_isub dX12_parting_37 ?_
      refine J_aload_n 0 dX12_parting_38 rfl rfl ?_
      refine J_getRl (j := 4) xcf12 dX12_parting_39 kO81 (Or.inl xq1024) (by decide) (by decide) rf_81_4 ?_
      refine J_bip dX12_parting_42 (by decide) ?_
      refine J_iload_n 1 dX12_parting_44 rfl rfl ?_
      refine J_imul dX12_parting_45 ?_
      refine J_iload_n 2 dX12_parting_46 rfl rfl ?_
      refine J_iadd dX12_parting_47 ?_
      obtain ⟨r2, hq, hf⟩ := xc1_e hf
      refine J_cVi (Mc := mX12_wordOf) [xI (w32 ((h 83 l1) - l2)), xR 84, xI (w32 ((w32 (12 * l1)) + l2))] dX12_parting_48 (fc_Md_wordOf.fit ⟨xbl rfl, xbl rfl⟩) rfl ⟨Or.inl xq1299, xq1301, xq91⟩ kO81 (ci := 12) rfl rfl (xbl rfl) (xbl rfl) (jm_Md_wordOf kO84 hq) ?_
      refine J_iconst dX12_parting_51 (by decide) ?_
      refine J_ic_eq (tgt := 57) dX12_parting_52 (by decide) (fun hc => ?_) (fun hc => ?_)
      · have hf := xip hc hf
        exact j_Md_parting_57  hf kb ke kr
      · have hf := xin' hc hf
        refine J_iload_n 2 dX12_parting_55 rfl rfl ?_
        exact J_ireti dX12_parting_56 rfl (kr _ (xinl hf))
  · have hf := xin' hc hf
    refine J_sub [] rfl ?_
    exact ke  (xinl hf)
theorem j_Md_parting_2 {l1 : Int} {l2 : Int} {h : xH} {r0 : Int}  (hf : f_Md_parting_2 l1 l2 h = some r0)  : J mX12_parting true 0 0 2 xKn [(0, xR 81), (1, xI l1), (2, xI l2)] [] h (xEq (some r0) h) := by
  unfold f_Md_parting_2 at hf
  obtain ⟨b0, hb0, hf⟩ := xc1_e hf
  refine xloop_ind (P := fun s : Int => J mX12_parting true 0 0 2 xKn [(0, xR 81), (1, xI l1), (2, xI s)] [] h (xEq (some r0) h)) hb0 (fun s x1 hs ib ie => ?_)
  exact j_Md_parting_s2  hs (fun _ e => ib _ e) (fun  e => by have := ie _ e; subst this; exact j_Md_parting_63  hf) (fun _ e => by have := ie _ e; subst this; exact xq_p hf)
theorem jm_Md_parting {l1 : Int} {h : xH} {r0 : Int}  (hf : f_Md_parting l1 h = some r0) : J mX12_parting true 0 0 0 xKn (xen 0 [xR 81, xI l1]) [] h (xEq (some r0) h) := by
  unfold f_Md_parting at hf
  refine J_cong (ls2 := [(0, xR 81), (1, xI l1)]) (st2 := []) rfl rfl ?_
  refine J_iconst dX12_parting_0 (by decide) ?_
  refine J_istore_n (ls' := [(2, xI 1), (0, xR 81), (1, xI l1)]) dX12_parting_1 rfl (by decide) rfl rfl ?_
  refine J_sub [1, 2, 0] rfl ?_
  exact j_Md_parting_2  hf
