/-! ROWS OF THE QUIET MACHINE: what is made -/
theorem xws_succ {cI cZ : ClassId} {ad : Int → Nat} {h : xH} {n : Nat} : xws cI cZ ad h (n + 1) = xws cI cZ ad h n ++ [(ad ((n : Int) + 1), xC cI cZ ad h ((n : Int) + 1))] := by
  unfold xws
  rw [List.range_succ, List.map_append]
  rfl
/-- where the next cell stands -/
theorem xnext {p : Program} {l : Launch} {e : Env} {R : Room} {s : State} {m : MethodId} {args : Array Value} {below : List Frame} {meth : Method} {c : Code} {H1 : Heap} {locs : List Loc} {cells slots n : Nat} {Z : State → Prop} {g : JFrame} {D : va_G} {cI cZ : ClassId} {ad : Int → Nat} {base q : Nat} {h : xH} {x : va_E}
    (had : ∀ k : Nat, ad ((k : Int) + 1) = base + k) (hn : s.heap.size + cells = base + n) (hP : va_P D vwCl (xws cI cZ ad h n ++ [(q, x)]) H1) (hD : va_D (fun q => base ≤ q) (xws cI cZ ad h n ++ [(q, x)]))
    (k : q = base + n → W p l e R s m args below meth c H1 locs (cells + 1) slots Z g) : W p l e R s m args below meth c H1 locs (cells + 1) slots Z g := by
  intro T hT X
  have hlen : (xws cI cZ ad h n).length = n := by simp [xws]
  have hx : (xws cI cZ ad h n ++ [(q, x)])[n]? = some (q, x) := by rw [List.getElem?_append_right (by omega), hlen, Nat.sub_self]; rfl
  refine k ?_ T hT X
  have h1 : T.heap.size ≤ s.heap.size + (cells + 1) := X.same.2.2.1
  rw [hT] at h1
  have h2 : q < H1.size := (hP n _ hx).lt
  have h3 : base ≤ q := hD.2 n _ hx
  by_cases hq : q < base + n
  · have hk : (xws cI cZ ad h n ++ [(q, x)])[q - base]? = some (ad (((q - base : Nat) : Int) + 1), xC cI cZ ad h (((q - base : Nat) : Int) + 1)) := by
      rw [List.getElem?_append_left (by omega)]
      simp only [xws, List.getElem?_map, List.getElem?_range (show q - base < n by omega), Option.map_some]
    have := hD.1 (q - base) n _ _ hk hx (by show ad _ = q; rw [had]; omega)
    omega
  · omega
theorem xflds_new {ad : Int → Nat} {h : xH} {ci : Nat} {o : Int} (hz : ∀ j, h o j = 0) (j : Nat) (hj : j < xNf ci) : vp_V (xflds ad h ci o) j = if xIsR ci j = true then Value.null else .int 0 := by
  have e := xflds_at (ad := ad) (h := h) (o := o) hj
  have e2 : vp_V (xflds ad h ci o) j = xfv ad h ci o j := by
    unfold vp_V
    simp [e]
  rw [e2]
  unfold xfv
  rw [hz, if_pos rfl]
  rfl
section
variable {M : xM} {md : Bool} {rc rs rc2 rs2 pc n m : Nat} {ls ls' : List (Nat × xV)} {st : List xV} {h : xH} {Q : xQ}
theorem J_pc {pc2 : Nat} (hp : pc = pc2) (k : J M md rc rs pc2 n ls st h Q) : J M md rc rs pc n ls st h Q := by
  subst hp; exact k
theorem J_n (hm : n = m) (k : J M md rc rs pc m ls st h Q) : J M md rc rs pc n ls st h Q := by
  subst hm; exact k
theorem J_new {ci idx N : Nat} {C : String} {T : u_T} {ty : Nat → FieldType} (hF : xCF ci C T N ty) (hdf : ∀ j, j < N → defaultValue (ty j) = if xIsR ci j = true then Value.null else .int 0) (hd : decode M.2.1 pc = .ok (.new idx, 3)) (hw : Cond.classLink M.1 idx C ∈ xtbl) (hi : Cond.instantiable C N ∈ xtbl) (hn : Cond.initialized C ∈ xtbl) (hk : xK ((n : Int) + 1) = 3 + ci) (hz : ∀ j, h ((n : Int) + 1) j = 0) (hrc : rc = rc2 + 1) (hrs : rs = rs2 + N) (k : J M false rc2 rs2 (pc + 3) (n + 1) ls (xR ((n : Int) + 1) :: st) h Q) : J M false rc rs pc n ls st h Q := by
  intro hl hs hr hg D cI cZ base ad p l e R s m args below meth c hC H locs cells slots Z lsm hRel hS hls hc hE
  obtain ⟨f1, f2, f3, f4, f5, f6⟩ := hF
  have had := hC.2.2.2.2.2.2.2.2.1.2.2
  have hb := hC.2.2.2.2.2.2.2.2.1.1
  have ht := hC.2.2.2.2.1
  refine va_new (fs := xflds ad h ci ((n : Int) + 1)) hC.1 hC.2.1 ht f2 ty f5 hC.2.2.2.1 (ht _ hw) (ht _ hi) (ht _ hn) hC.2.2.2.2.2.2.2.1 hRel.1 (xD_of had) hS (fun q hq => Nat.le_trans hb hq) f1 (fun j hj => by rw [hdf j hj, xflds_new hz j (by omega)]) (by omega) (by omega) hd (fun q H1 hP1 hD1 hS1 => ?_)
  refine xnext had (hRel.2 rfl) hP1 hD1 (fun hq => ?_)
  have ee : xws cI cZ ad h n ++ [(q, .inr (ci, xflds ad h ci ((n : Int) + 1)))] = xws cI cZ ad h (n + 1) := by
    rw [xws_succ, xC_obj hk, had n, hq]
  rw [ee] at hP1
  have kk := k hl (xsR hs) hr (fun z => by cases z) D cI cZ base ad p l e R s m args below meth c hC H1 locs (cells + 1) (slots + N) Z lsm ⟨hP1, fun _ => by have := hRel.2 rfl; omega⟩ hS1 hls ⟨by omega, by omega⟩ hE
  have e2 : (Value.ref q :: st.map (xcv ad)) = (xR ((n : Int) + 1) :: st).map (xcv ad) := by
    show _ = Value.ref (ad ((n : Int) + 1)) :: _
    rw [had n, hq]
  rw [e2]
  exact kk
theorem J_newa {v : Int} (hd : decode M.2.1 pc = .ok (.newarray .int, 2)) (hw : Cond.arrayClass .int ∈ xtbl) (hk : xK ((n : Int) + 1) = 1) (hN : (xN ((n : Int) + 1) : Int) = v) (hsm : Nat.ble (xN ((n : Int) + 1) * 4) 536870912 = true) (hz : ∀ j, h ((n : Int) + 1) j = 0) (hrc : rc = rc2 + 1) (hrs : rs = rs2 + xN ((n : Int) + 1)) (k : J M false rc2 rs2 (pc + 2) (n + 1) ls (xR ((n : Int) + 1) :: st) h Q) : J M false rc rs pc n ls (xI v :: st) h Q := by
  intro hl hs hr hg D cI cZ base ad p l e R s m args below meth c hC H locs cells slots Z lsm hRel hS hls hc hE
  have had := hC.2.2.2.2.2.2.2.2.1.2.2
  have hb := hC.2.2.2.2.2.2.2.2.1.1
  have ht := hC.2.2.2.2.1
  have hv : xok v := xs0 hs
  have hK := hC.2.2.2.2.2.2.2.1
  have hsm := Nat.le_of_ble_eq_true hsm
  refine va_newa (atype := .int) (ty := .int) (N' := xN ((n : Int) + 1)) (a0 := (xN ((n : Int) + 1), .inl (fun j => Int32.ofInt (h ((n : Int) + 1) j)))) hC.1 hC.2.1 (ht _ hw) rfl hK hRel.1 (xD_of had) hS (fun q hq => Nat.le_trans hb hq) (fun cA => ?_) (fun z => ?_) (by rw [xcl hv]; omega) (by show xN ((n : Int) + 1) * _ ≤ _; refine Nat.le_trans (Nat.mul_le_mul_left _ ?_) hsm; decide) (by omega) (by omega) hd (fun q cA H1 hK1 hP1 hD1 hS1 => ?_)
  · rw [vp_cell_i]
    congr 1
    funext j
    rw [hz]
    rfl
  · have := (xlt hv xok0).mp z
    omega
  · refine xnext had (hRel.2 rfl) hP1 hD1 (fun hq => ?_)
    have eA : cA = cI := by
      have h1 := (hK1.2 2 (cA, .int) rfl).2
      have h2 := (hK1.2 0 (cI, .int) rfl).2
      have h1 : s.vm.findClass _ = some cA := h1
      have h2 : s.vm.findClass _ = some cI := h2
      exact Option.some.inj (h1.symm.trans h2)
    subst eA
    have ee : xws cA cZ ad h n ++ [(q, .inl (cA, xN ((n : Int) + 1), .inl (fun j => Int32.ofInt (h ((n : Int) + 1) j))))] = xws cA cZ ad h (n + 1) := by
      rw [xws_succ, xC_int hk, had n, hq]
    rw [ee] at hP1
    have kk := k hl (xsR (xs2 hs)) hr (fun z => by cases z) D cA cZ base ad p l e R s m args below meth c hC H1 locs (cells + 1) (slots + xN ((n : Int) + 1)) Z lsm ⟨hP1, fun _ => by have := hRel.2 rfl; omega⟩ hS1 hls ⟨by omega, by omega⟩ hE
    have e2 : (Value.ref q :: st.map (xcv ad)) = (xR ((n : Int) + 1) :: st).map (xcv ad) := by
      show _ = Value.ref (ad ((n : Int) + 1)) :: _
      rw [had n, hq]
    rw [e2]
    exact kk
theorem J_newaz {v : Int} (hd : decode M.2.1 pc = .ok (.newarray .boolean, 2)) (hw : Cond.arrayClass .boolean ∈ xtbl) (hk : xK ((n : Int) + 1) = 2) (hN : (xN ((n : Int) + 1) : Int) = v) (hsm : Nat.ble (xN ((n : Int) + 1) * 4) 536870912 = true) (hz : ∀ j, h ((n : Int) + 1) j = 0) (hrc : rc = rc2 + 1) (hrs : rs = rs2 + xN ((n : Int) + 1)) (k : J M false rc2 rs2 (pc + 2) (n + 1) ls (xR ((n : Int) + 1) :: st) h Q) : J M false rc rs pc n ls (xI v :: st) h Q := by
  intro hl hs hr hg D cI cZ base ad p l e R s m args below meth c hC H locs cells slots Z lsm hRel hS hls hc hE
  have had := hC.2.2.2.2.2.2.2.2.1.2.2
  have hb := hC.2.2.2.2.2.2.2.2.1.1
  have ht := hC.2.2.2.2.1
  have hv : xok v := xs0 hs
  have hK := hC.2.2.2.2.2.2.2.1
  have hsm := Nat.le_of_ble_eq_true hsm
  refine va_newa (atype := .boolean) (ty := .boolean) (N' := xN ((n : Int) + 1)) (a0 := (xN ((n : Int) + 1), .inl (fun j => Int32.ofInt (h ((n : Int) + 1) j)))) hC.1 hC.2.1 (ht _ hw) rfl hK hRel.1 (xD_of had) hS (fun q hq => Nat.le_trans hb hq) (fun cA => ?_) (fun z => ?_) (by rw [xcl hv]; omega) (by show xN ((n : Int) + 1) * _ ≤ _; refine Nat.le_trans (Nat.mul_le_mul_left _ ?_) hsm; decide) (by omega) (by omega) hd (fun q cA H1 hK1 hP1 hD1 hS1 => ?_)
  · rw [vp_cell_i]
    congr 1
    funext j
    rw [hz]
    rfl
  · have := (xlt hv xok0).mp z
    omega
  · refine xnext had (hRel.2 rfl) hP1 hD1 (fun hq => ?_)
    have eA : cA = cZ := by
      have h1 := (hK1.2 2 (cA, .boolean) rfl).2
      have h2 := (hK1.2 1 (cZ, .boolean) rfl).2
      have h1 : s.vm.findClass _ = some cA := h1
      have h2 : s.vm.findClass _ = some cZ := h2
      exact Option.some.inj (h1.symm.trans h2)
    subst eA
    have ee : xws cI cA ad h n ++ [(q, .inl (cA, xN ((n : Int) + 1), .inl (fun j => Int32.ofInt (h ((n : Int) + 1) j))))] = xws cI cA ad h (n + 1) := by
      rw [xws_succ, xC_boo hk, had n, hq]
    rw [ee] at hP1
    have kk := k hl (xsR (xs2 hs)) hr (fun z => by cases z) D cI cA base ad p l e R s m args below meth c hC H1 locs (cells + 1) (slots + xN ((n : Int) + 1)) Z lsm ⟨hP1, fun _ => by have := hRel.2 rfl; omega⟩ hS1 hls ⟨by omega, by omega⟩ hE
    have e2 : (Value.ref q :: st.map (xcv ad)) = (xR ((n : Int) + 1) :: st).map (xcv ad) := by
      show _ = Value.ref (ad ((n : Int) + 1)) :: _
      rw [had n, hq]
    rw [e2]
    exact kk
theorem J_putR {o v : Int} {ci j N idx : Nat} {C : String} {T : u_T} {ty : Nat → FieldType} (hF : xCF ci C T N ty) (hd : decode M.2.1 pc = .ok (.putfield idx, 3)) (hMi : M.2.2.2.2.1 = true) (hM1 : M.1 = C) (ho : 1 ≤ o ∧ o ≤ (n : Int)) (hk : xK o = 3 + ci) (hw : Cond.fieldLink M.1 idx C (T j).2.1 (T j).2.2.1 ∈ xtbl) (hj : j < N) (hz : xIsR ci j = true ∧ (T j).2.2.2 = true) (hty : ∀ a : Nat, narrow (ty j) (.ref a) = .ref a ∧ fits (ty j) (.ref a) = true) (hv : xok v ∧ v ≠ 0) {h2 : xH} (he2 : h2 = xup h o j v) (k : J M false rc rs (pc + 3) n ls st h2 Q) : J M false rc rs pc n ls (xR v :: xR o :: st) h Q := by
  subst he2
  intro hl hs hr hg D cI cZ base ad p l e R s m args below meth c hC H locs cells slots Z lsm hRel hS hls hc hE
  obtain ⟨f1, f2, f3, f4, f5, f6⟩ := hF
  have kk := k hl (xs2 (xs2 hs)) (xup_rng hr hv.1) (fun z => by cases z) D cI cZ base ad p l e R s m args below meth c hC
  have he : (xws cI cZ ad h n)[o.toNat - 1]? = some (ad o, .inr (ci, xflds ad h ci o)) := by rw [xws_at ho.1 ho.2, xC_obj hk]
  have hj2 : j < xNf ci := by omega
  have hxx : xup h o j v o (j : Int) = v := by unfold xup; rw [if_pos ⟨rfl, rfl⟩]
  have e2 : (xws cI cZ ad h n).set (o.toNat - 1) (ad o, .inr (ci, (xflds ad h ci o).set j (.ref (ad v)))) = xws cI cZ ad (xup h o j v) n := by
    rw [xflds_set (h := h) (v := v) hj2 (by unfold xfv; rw [if_pos hz.1, hxx, if_neg hv.2]), ← xC_obj (cI := cI) (cZ := cZ) (ad := ad) (h := xup h o j v) hk]
    exact xws_set ho.1 ho.2 (fun o' h1 j' => xup_o o' h1 j')
  have hD := xD_of (cI := cI) (cZ := cZ) (h := h) (n := n) hC.2.2.2.2.2.2.2.2.1.2.2
  refine va_putF hC.1 hC.2.1 hC.2.2.2.2.1 f2 ty f5 f6 hC.2.2.2.1 hC.2.2.2.2.2.2.2.1 hRel.1 hD hS _ he f1 j hj (hC.2.2.2.2.1 _ hw) (fun x q => by rw [f4 j hj] at q; exact q) hz.2 (hC.2.2.2.2.2.1 hMi) (by rw [f4 j hj, hM1]) (f5 j hj) (hty _).1 (hty _).2 (by rw [xflds_len]; exact hj2) hd (fun H1 locs1 hP1 _ hS1 => ?_)
  have hP1 : va_P D vwCl ((xws cI cZ ad h n).set (o.toNat - 1) (ad o, .inr (ci, (xflds ad h ci o).set j (.ref (ad v))))) H1 := hP1
  rw [e2] at hP1
  exact kk H1 locs1 cells slots Z lsm ⟨hP1, hRel.2⟩ hS1 hls hc hE
theorem J_obj {o : Int} {idx : Nat} (hd : decode M.2.1 pc = .ok (.invokespecial idx, 3)) (hw : Cond.methodLink M.1 idx objectInit ∈ xtbl ∧ Cond.instanceMethod objectInit ∈ xtbl ∧ Cond.code objectInit ⟨#[0xb1]⟩ 1 none ∈ xtbl) (hf : 1 ≤ M.2.2.2.2.2.1) (hlo : (st.map xcat).sum + 13 ≤ M.2.2.2.2.2.2.1) (k : J M md rc rs (pc + 3) n ls st h Q) : J M md rc rs pc n ls (xR o :: st) h Q := by
  intro hl hs hr hg D cI cZ base ad p l e R s m args below meth c hC H locs cells slots Z lsm hRel hS hls hc hE
  have ht := hC.2.2.2.2.1
  have kk := k hl (xs2 hs) hr hg D cI cZ base ad p l e R s m args below meth c hC H locs cells slots Z lsm hRel hS hls hc hE
  have h0 : (F0 m pc lsm ((xR o :: st).map (xcv ad))).monitorRoom = 0 := rfl
  exact W.objInit hC.1 hC.2.1 hC.2.2.2.1 (ht _ hw.1) (ht _ hw.2.1) (ht _ hw.2.2) rfl (hls.1.trans hC.2.2.1.symm) rfl hd (by have := hC.2.2.2.2.2.2.1.1; omega) (by rw [xsum]; have := hC.2.2.2.2.2.2.1.2; omega) kk
theorem J_cI {Mc : xM} {y : MethodName} {rc' rs' n2 idx ka : Nat} {stk : List xV} {h2 : xH} (As : List xV) {o : Int} (hd : decode M.2.1 pc = .ok (.invokespecial idx, 3)) (hfit : xFit M Mc y ka) (hka : As.length = ka) (hw : (Cond.methodLink M.1 idx y ∈ xtbl ∨ ∃ host, Cond.methodLinkNest M.1 idx y host ∈ xnst) ∧ y.name = "<init>" ∧ Cond.instanceMethod y ∈ xtbl ∧ Mc.2.2.2.1 = none) (hstk : stk = As.reverse ++ xR o :: st) (h8 : (st.map xcat).sum ≤ 8) (hlen : ((xR o :: As).map xcat).sum ≤ Mc.2.2.1) (hb : rc = rc' + rc2 ∧ rs = rs' + rs2) (hJ : J Mc false rc' rs' 0 n (xen 0 (xR o :: As)) [] h (fun r n' h' => r = none ∧ n' = n2 ∧ h' = h2))
    (k : J M false rc2 rs2 (pc + 3) n2 ls st h2 Q) : J M false rc rs pc n ls stk h Q :=
  J_callI As hd hfit hka hw hstk h8 hlen hb hJ (fun r n' h' hq _ => by rw [hq.1, hq.2.1, hq.2.2]; exact k)
end
