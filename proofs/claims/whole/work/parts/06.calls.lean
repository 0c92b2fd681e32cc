/-! ROWS OF THE QUIET MACHINE: calls -/
def xen : Nat → List xV → List (Nat × xV)
  | _, [] => []
  | i, v :: vs => (i, v) :: xen (if xcat v = 2 then i + 2 else i + 1) vs
theorem xen_map (ad : Int → Nat) : ∀ (vs : List xV) (i : Nat), lv_args i (vs.map (xcv ad)) = (xen i vs).map fun q => (q.1, xcv ad q.2)
  | [], _ => rfl
  | v :: vs, i => by
    show (i, xcv ad v) :: lv_args (if (xcv ad v).category = 2 then i + 2 else i + 1) (vs.map (xcv ad)) = (i, xcv ad v) :: (xen (if xcat v = 2 then i + 2 else i + 1) vs).map _
    rw [xcat_cv, xen_map ad vs]
theorem xsl_len (ad : Int → Nat) (vs : List xV) : (lg_sl (vs.map (xcv ad))).length = (vs.map xcat).sum := by
  induction vs with
  | nil => rfl
  | cons v vs ih =>
    have e : lg_sl ((v :: vs).map (xcv ad)) = (if (xcv ad v).category = 2 then [Slot.val (xcv ad v), .second] else [.val (xcv ad v)]) ++ lg_sl (vs.map (xcv ad)) := rfl
    rw [e, List.length_append, ih, xcat_cv, List.map_cons, List.sum_cons]
    rcases v with x | x | x | x <;> rfl
theorem xen_ok : ∀ (vs : List xV) (i : Nat), (∀ v ∈ vs, xvok v) → ∀ q ∈ xen i vs, xvok q.2
  | [], _, _, _, hq => by cases hq
  | v :: vs, i, h, q, hq => by
    rcases List.mem_cons.mp hq with rfl | hq
    · exact h v List.mem_cons_self
    · exact xen_ok vs _ (fun w hw => h w (List.mem_cons_of_mem _ hw)) q hq
/-- what holds behind a call -/
def xPost (rt : Option FieldType) (D : va_G) (cI cZ : ClassId) (ad : Int → Nat) (base : Nat) (md : Bool) (rc : Nat) (Q : xQ) (sz : Nat) (oc : Outcome) (U : State) : Prop :=
  ∃ (r : Option Int) (n' : Nat) (h' : xH), oc = .returned (xrv r) ∧ Q r n' h' ∧ xrok rt r ∧ xRng h' ∧ xG md n' h' ∧ va_P D vwCl (xws cI cZ ad h' n') U.heap ∧ (md = false → sz + rc = base + n')
def xQc (rt : Option FieldType) (D : va_G) (cI cZ : ClassId) (ad : Int → Nat) (base : Nat) (md : Bool) (rc : Nat) (Q : xQ) : Array Value → State → Outcome → State → Prop := fun _ st oc t =>
  xPost rt D cI cZ ad base md rc Q st.heap.size oc t ∧ va_F (fun q => base ≤ q) st t
/-- what holds ahead of a call -/
def xPre (D : va_G) (cI cZ : ClassId) (ad : Int → Nat) (base : Nat) (md : Bool) (n : Nat) (h : xH) (U : State) : Prop :=
  va_P D vwCl (xws cI cZ ad h n) U.heap ∧ (md = false → U.heap.size = base + n) ∧ va_K D vwCl [(cI, .int), (cZ, .boolean)] U ∧ base ≤ U.heap.size ∧ xSt ad (fun q => base ≤ q) U ∧ (∀ w ∈ xnst, va_Nw w U)
set_option maxHeartbeats 1000000 in
theorem xmet {Mc : xM} {md : Bool} {rc rs n : Nat} {h : xH} {Q : xQ} {As : List xV} {y : MethodName} (l : Launch) (D : va_G) (cI cZ : ClassId) (ad : Int → Nat) (base : Nat) (hJ : J Mc md rc rs 0 n (xen 0 As) [] h Q)
    (hy : plainName y.cls = true ∧ Mc.1 = y.cls ∧ (Mc.2.2.2.2.1 = true → y.name = "<init>") ∧ Mc.2.2.2.2.2.2.2 = none) (hlen : (As.map xcat).sum ≤ Mc.2.2.1) (has : ∀ v ∈ As, xvok v) (hr : xRng h) (hg : xG md n h) (had : ∀ k : Nat, ad ((k : Int) + 1) = base + k) :
    Met l y (Cond.code y Mc.2.1 Mc.2.2.1 Mc.2.2.2.1 :: xtbl) { frames := Mc.2.2.2.2.2.1, cells := rc, slots := rs, locals := Mc.2.2.2.2.2.2.1 } (va_Pc (As.map (xcv ad)) (xPre D cI cZ ad base md n h)) (xQc Mc.2.2.2.1 D cI cZ ad base md rc Q) rc rs (fun q => base ≤ q) := by
  refine Met.ofW (cc := Mc.2.1) (maxL := Mc.2.2.1) (ret := Mc.2.2.2.1) hy.1 rfl ?_
  intro p e s m args below meth c s₁ B hml hv
  obtain ⟨rfl, hP, hm, hK, hb, hSt, hnw⟩ := hv
  have hts := atoms_spec (ws := Cond.code y Mc.2.1 Mc.2.2.1 Mc.2.2.2.1 :: xtbl) B.pre
  have hlocks := B.notSynchronized
  have hin := (name_of_methodNamed B.named B.method).1
  have hret := B.returns
  rw [lg_entry_eq]
  have hls := lv_entry (As.map (xcv ad)) (n := Mc.2.2.1) (by rw [xsl_len]; exact hlen)
  rw [xen_map] at hls
  refine hJ (xen_ok As 0 has) (fun _ q => by cases q) hr hg D cI cZ base ad p l e (headSpec (Cond.code y Mc.2.1 Mc.2.2.1 Mc.2.2.2.1 :: xtbl) { frames := Mc.2.2.2.2.2.1, cells := rc, slots := rs, locals := Mc.2.2.2.2.2.2.1 }).room s m _ below meth c ⟨B.exec, B.bytes, hml, by rw [hy.2.1]; exact findClass_of_methodNamed B.named, fun w hw => hts w (List.mem_cons_of_mem _ hw), fun q => hin.trans (hy.2.2.1 q), ⟨Nat.le_refl _, Nat.le_refl _⟩, hK, ⟨hb, hSt, had⟩, by rw [hy.2.2.2]; trivial, hnw⟩ s.heap [] 0 0 _ _ ⟨hP, fun q => by have := hm q; omega⟩ va_S.rf hls ⟨Nat.zero_add _, Nat.zero_add _⟩ ?_
  intro r n' h' H' locs' pc' lsm' hQ hok hr' hg' hRel' hS' hd'
  have hpost : ∀ t : State, t.heap = H' → xQc Mc.2.2.2.1 D cI cZ ad base md rc Q (As.map (xcv ad)).toArray s (.returned (xrv r)) t := fun t ht => ⟨⟨r, n', h', rfl, hQ, hok, hr', hg', by rw [ht]; exact hRel'.1, hRel'.2⟩, hS'.F ht⟩
  cases r with
  | none =>
    have e : Mc.2.2.2.1 = none := by
      unfold xrok at hok
      split at hok
      · assumption
      all_goals simp_all
    exact W.vret B.exec B.bytes (hret.trans e) (fun t ht _ => hpost t ht) hS'.2.2 hd'
  | some x =>
    unfold xrok at hok
    split at hok
    · simp_all
    · next e q =>
      exact W.iret B.exec B.bytes (hret.trans e) (fun t ht _ => hpost t ht) hS'.2.2 hd'
    · next x' e q =>
      cases q
      exact W.zret B.exec B.bytes (hret.trans e) (by rcases hok with rfl | rfl <;> rfl) (fun t ht _ => hpost t ht) hS'.2.2 hd'
    · exact absurd hok id
def xrl (r : Option Int) : List xV := match r with
  | none => []
  | some x => [xI x]
theorem xrv_map (ad : Int → Nat) (r : Option Int) (st : List xV) : (xrv r).toList ++ st.map (xcv ad) = (xrl r ++ st).map (xcv ad) := by
  cases r <;> rfl
theorem xrok_ok {rt : Option FieldType} {r : Option Int} (h : xrok rt r) : ∀ v ∈ xrl r, xvok v := by
  cases r with
  | none => intro v hv; cases hv
  | some x =>
    intro v hv
    have : v = xI x := by simpa [xrl] using hv
    subst this
    unfold xrok at h
    split at h
    · simp_all
    · next q => cases q; exact h
    · next q => cases q; show xok _; rcases h with rfl | rfl <;> decide
    · exact absurd h id
theorem xPre_blind {D : va_G} {cI cZ : ClassId} {ad : Int → Nat} {base : Nat} {md : Bool} {n : Nat} {h : xH} {av : List Value} : FrameBlind (va_Pc av (xPre D cI cZ ad base md n h)) := fun a U g mk q => by
  obtain ⟨q1, q2, q3, q4, q5, q6, q7⟩ := q
  exact ⟨q1, q2, q3, va_K.moved (u := U) (U := U.calling g mk a) (Vm.Alike.refl U.vm) q4, q5, xSt.to (u := U) (U := U.calling g mk a) q6 (Vm.Alike.refl U.vm) (fun _ _ _ => rfl), fun w hw => va_Nw.same (xisN_on hw) (u := U) (U := U.calling g mk a) rfl (q7 w hw)⟩
/-- the callee fits: its name and code, its room in the caller's -/
def xFit (M Mc : xM) (y : MethodName) (k : Nat) : Prop :=
  (plainName y.cls = true ∧ Mc.1 = y.cls ∧ (Mc.2.2.2.2.1 = true → y.name = "<init>") ∧ Mc.2.2.2.2.2.2.2 = none) ∧ (y.cls ≠ "java/lang/invoke/MethodHandle" ∧ y.cls ≠ "java/lang/invoke/VarHandle" ∧ (parseMethodDescriptor y.desc).map (fun d => d.parameters.length) = some k) ∧
  (Mc.2.2.2.2.2.1 + 1 ≤ M.2.2.2.2.2.1 ∧ 8 + (Mc.2.2.1 + 11) + Mc.2.2.2.2.2.2.1 ≤ M.2.2.2.2.2.2.1) ∧ (Cond.initialized y.cls ∈ xtbl ∧ Cond.code y Mc.2.1 Mc.2.2.1 Mc.2.2.2.1 ∈ xtbl)
theorem xgoodin {y : MethodName} {Mc : xM} (h : Cond.code y Mc.2.1 Mc.2.2.1 Mc.2.2.2.1 ∈ xtbl) : GoodIn xtbl (Cond.code y Mc.2.1 Mc.2.2.1 Mc.2.2.2.1 :: xtbl) := fun w hw => by
  rcases List.mem_cons.mp hw with rfl | hw
  · exact ⟨h, xtbl_good h⟩
  · exact ⟨hw, xtbl_good hw⟩
section
variable {M : xM} {md : Bool} {rc rs rc' rs' rc2 rs2 pc n : Nat} {ls ls' : List (Nat × xV)} {st : List xV} {h : xH} {Q Q' : xQ} {Mc : xM} {y : MethodName}
/-- what every call comes to -/
theorem xcall {p : Program} {l : Launch} {e : Env} {R : Room} {s : State} {m : MethodId} {args : Array Value} {below : List Frame} {meth : Method} {c : Code} {D : va_G} {cI cZ : ClassId} {ad : Int → Nat} {base : Nat} {H : Heap} {locs : List Loc} {cells slots : Nat} {Z : State → Prop} {lsm : Array Slot} {st0 : List Value} {av : Array Value}
    (hl : ∀ q ∈ ls, xvok q.2) (hs : ∀ v ∈ st, xvok v) (hC : xCx M D cI cZ base ad p R s m args meth c) (hRel : xRel D cI cZ ad base md n h H cells s) (hsz : md = false → H.size = base + n) (hS : va_S (fun q => base ≤ q) s.heap H locs) (hls : lv_has lsm M.2.2.1 (ls.map fun q => (q.1, xcv ad q.2))) (hc : cells + rc = R.cells ∧ slots + rs = R.slots) (hb : rc = rc' + rc2 ∧ rs = rs' + rs2)
    (hE : ∀ (r : Option Int) (n' : Nat) (h' : xH) (H' : Heap) (locs' : List Loc) (pc' : Nat) (lsm' : Array Slot), Q r n' h' → xrok M.2.2.2.1 r → xRng h' → xG md n' h' → xRel D cI cZ ad base md n' h' H' R.cells s → va_S (fun q => base ≤ q) s.heap H' locs' → decode M.2.1 pc' = .ok (xretI r, 1) → W p l e R s m args below meth c H' locs' R.cells R.slots Z (F0 m pc' lsm' (xrv r).toList))
    (run : va_Run p l e R s m args below meth c H locs cells slots rc' rs' (F0 m pc lsm st0) (st.map (xcv ad)) (xQc Mc.2.2.2.1 D cI cZ ad base md rc' Q' av) (fun q => base ≤ q))
    (k : ∀ r n' h', Q' r n' h' → xrok Mc.2.2.2.1 r → J M md rc2 rs2 (pc + 3) n' ls (xrl r ++ st) h' Q) : W p l e R s m args below meth c H locs cells slots Z (F0 m pc lsm st0) := by
  intro T hT X
  obtain ⟨v, st₀, t, T', L, h0, X', hL, e1, e2, ⟨⟨r, n', h', hv, hq, hok, hr', hg', hP', hm'⟩, hz, hk⟩, steps⟩ := run T hT X
  cases hv
  rw [h0] at hz hk hm'
  have hS1 : va_S (fun q => base ≤ q) s.heap T'.heap (locs ++ L) := ⟨Nat.le_trans hS.1 (by rw [e1]; exact hz), fun q h1 h2 => by rw [e1, hk q (Nat.lt_of_lt_of_le h1 hS.1) h2]; exact hS.2.1 q h1 h2, fun q hq => by
      rcases List.mem_append.mp hq with h | h
      · exact hS.2.2 q h
      · exact hL q h⟩
  have hJ := k r n' h' hq hok hl (fun v hv => by
    rcases List.mem_append.mp hv with hv | hv
    · exact xrok_ok hok v hv
    · exact hs v hv) hr' hg' D cI cZ base ad p l e R s m args below meth c hC T'.heap (locs ++ L) (cells + rc') (slots + rs') Z lsm ⟨by rw [e1]; exact hP', fun q => by have := hRel.2 q; have := hm' q; have := hsz q; omega⟩ hS1 hls ⟨by omega, by omega⟩ hE
  obtain ⟨t2, a1, b1⟩ := hJ T' rfl X'
  refine ⟨t2, steps t2 ?_, b1⟩
  rw [xrv_map]
  exact a1
theorem xfull {p : Program} {l : Launch} {e : Env} {R : Room} {s : State} {m : MethodId} {args : Array Value} {below : List Frame} {meth : Method} {c : Code} {D : va_G} {cI cZ : ClassId} {ad : Int → Nat} {base : Nat} {H : Heap} {locs : List Loc} {cells slots : Nat} {Z : State → Prop} {g : JFrame}
    (hRel : xRel D cI cZ ad base md n h H cells s) (hS : va_S (fun q => base ≤ q) s.heap H locs) (had : ∀ k : Nat, ad ((k : Int) + 1) = base + k) (hb : base ≤ s.heap.size)
    (k : (md = false → H.size = base + n) → W p l e R s m args below meth c H locs cells slots Z g) : W p l e R s m args below meth c H locs cells slots Z g := by
  intro T hT X
  refine k (fun q => ?_) T hT X
  have h1 := X.same.2.2.1
  have h1 : T.heap.size ≤ s.heap.size + cells := h1
  rw [hT] at h1
  have h2 := hRel.2 q
  by_cases hn : n = 0
  · have := hS.1
    omega
  · have hk := hRel.1 (n - 1) (ad (((n - 1 : Nat) : Int) + 1), xC cI cZ ad h (((n - 1 : Nat) : Int) + 1)) (by simp only [xws, List.getElem?_map, List.getElem?_range (show n - 1 < n by omega), Option.map_some])
    have hlt := hk.lt
    have hlt : ad (((n - 1 : Nat) : Int) + 1) < H.size := hlt
    rw [had] at hlt
    omega
theorem J_callV {idx ka : Nat} {stk : List xV} (As : List xV) {o : Int} {ci : Nat} {T0 : u_T} {N0 : Nat} (hd : decode M.2.1 pc = .ok (.invokevirtual idx, 3)) (hfit : xFit M Mc y ka) (hka : As.length = ka) (hw : (Cond.methodLink M.1 idx y ∈ xtbl ∨ ∃ host, Cond.methodLinkNest M.1 idx y host ∈ xnst) ∧ Cond.instanceMethod y ∈ xtbl ∧ Cond.selects y.cls y y ∈ xtbl) (ho : 1 ≤ o ∧ o ≤ (n : Int)) (hk : xK o = 3 + ci) (hcl : vwCl[ci]? = some (y.cls, T0, N0)) (hstk : stk = As.reverse ++ xR o :: st) (h8 : (st.map xcat).sum ≤ 8) (hlen : ((xR o :: As).map xcat).sum ≤ Mc.2.2.1) (hb : rc = rc' + rc2 ∧ rs = rs' + rs2) (hJ : J Mc md rc' rs' 0 n (xen 0 (xR o :: As)) [] h Q')
    (k : ∀ r n' h', Q' r n' h' → xrok Mc.2.2.2.1 r → J M md rc2 rs2 (pc + 3) n' ls (xrl r ++ st) h' Q) : J M md rc rs pc n ls stk h Q := by
  subst hstk
  intro hl hs hr hg D cI cZ base ad p l e R s m args below meth c hC H locs cells slots Z lsm hRel hS hls hc hE
  obtain ⟨f1, f2, ⟨f3, f4⟩, f5⟩ := hfit
  have hR := hC.2.2.2.2.2.2.1
  have ht := hC.2.2.2.2.1
  have had := hC.2.2.2.2.2.2.2.2.1.2.2
  have hbs := hC.2.2.2.2.2.2.2.2.1.1
  have hstok : ∀ v ∈ st, xvok v := fun v hv => hs v (List.mem_append_right _ (List.mem_cons_of_mem _ hv))
  have hAs : ∀ v ∈ xR o :: As, xvok v := fun v hv => by
    rcases List.mem_cons.mp hv with rfl | hv
    · trivial
    · exact hs v (List.mem_append_left _ (List.mem_reverse.mpr hv))
  refine xfull hRel hS had hbs (fun hsz => ?_)
  have hM := xmet (As := xR o :: As) l D cI cZ ad base hJ f1 hlen hAs hr hg had
  have hpre : ∀ U : State, U.heap = H → s.WarmedH U.vm → va_Pc ((xR o :: As).map (xcv ad)) (xPre D cI cZ ad base md n h) ((xR o :: As).map (xcv ad)).toArray U := fun U hU hW =>
    ⟨rfl, by rw [hU]; exact hRel.1, fun q => by rw [hU]; exact hsz q, va_K.moved hW.alike hC.2.2.2.2.2.2.2.1, by rw [hU]; exact Nat.le_trans hbs hS.1, xSt.to hC.2.2.2.2.2.2.2.2.1.2.1 hW.alike (fun a h1 h2 => by rw [hU]; exact hS.2.1 a h1 h2), fun w hw => xisN_warm hw hW (hC.2.2.2.2.2.2.2.2.2.2 w hw)⟩
  have hrev : ((As.reverse ++ xR o :: st).map (xcv ad)) = (As.map (xcv ad)).reverse ++ Value.ref (ad o) :: st.map (xcv ad) := by
    rw [List.map_append, List.map_reverse]; rfl
  have h8' : (((st.map (xcv ad))).map fun v => v.category).sum ≤ 8 := by rw [xsum]; exact h8
  rw [hrev]
  have hcode : (Cond.code y Mc.2.1 Mc.2.2.1 Mc.2.2.2.1).before args s = true := ht _ f5.2
  have hini : (Cond.initialized y.cls).before args s = true := ht _ f5.1
  have hcells : cells + rc' ≤ R.cells ∧ slots + rs' ≤ R.slots := ⟨by omega, by omega⟩
  rcases hw with ⟨hw | ⟨host, hw⟩, hw2⟩
  · refine xcall (Mc := Mc) hl hstok hC hRel hsz hS hls hc hb hE (va_runV (As := As.map (xcv ad)) (nL := M.2.2.1) ⟨hC.1, hC.2.1, hC.2.2.1, hC.2.2.2.1, ht⟩ hM (C := y.cls) (n := ka) ⟨callB_of (bytes := Mc.2.1) (maxL := Mc.2.2.1) (ret := Mc.2.2.2.1) ka ht (xgoodin f5.2) rfl rfl rfl hini (ht _ hw) f2 ⟨by show Mc.2.2.2.2.2.1 + 1 ≤ R.frames; omega, by show 8 + (Mc.2.2.1 + 11) + Mc.2.2.2.2.2.2.1 ≤ R.locals; omega⟩, ht _ hw2.1, ht _ hw2.2⟩ ⟨xPre_blind, va_recv hC.2.2.2.2.2.2.2.1 hRel.1 hcl (by rw [xws_at ho.1 ho.2, xC_obj hk]), hpre⟩ rfl (by rw [List.length_map]; exact hka) hls.1 rfl (lv_room h8') hd hcells) k
  · refine xcall (Mc := Mc) hl hstok hC hRel hsz hS hls hc hb hE (va_runVN (As := As.map (xcv ad)) (nL := M.2.2.1) ⟨hC.1, hC.2.1, hC.2.2.1, hC.2.2.2.1, ht⟩ hM (C := y.cls) (n := ka) ⟨va_cnB ka ht (xgoodin f5.2) rfl rfl rfl (hC.2.2.2.2.2.2.2.2.2.2 _ hw) hini f2 ⟨by show Mc.2.2.2.2.2.1 + 1 ≤ R.frames; omega, by show 8 + (Mc.2.2.1 + 11) + Mc.2.2.2.2.2.2.1 ≤ R.locals; omega⟩, ht _ hw2.1, ht _ hw2.2⟩ ⟨xPre_blind, va_recv hC.2.2.2.2.2.2.2.1 hRel.1 hcl (by rw [xws_at ho.1 ho.2, xC_obj hk]), hpre⟩ rfl (by rw [List.length_map]; exact hka) hls.1 rfl (lv_room h8') hd hcells) k
theorem J_callS {idx ka : Nat} {stk : List xV} (As : List xV) (hd : decode M.2.1 pc = .ok (.invokestatic idx, 3)) (hfit : xFit M Mc y ka) (hka : As.length = ka) (hw : (Cond.methodLink M.1 idx y ∈ xtbl ∨ ∃ host, Cond.methodLinkNest M.1 idx y host ∈ xnst) ∧ Cond.static y ∈ xtbl) (hstk : stk = As.reverse ++ st) (h8 : (st.map xcat).sum ≤ 8) (hlen : ((As).map xcat).sum ≤ Mc.2.2.1) (hb : rc = rc' + rc2 ∧ rs = rs' + rs2) (hJ : J Mc md rc' rs' 0 n (xen 0 (As)) [] h Q')
    (k : ∀ r n' h', Q' r n' h' → xrok Mc.2.2.2.1 r → J M md rc2 rs2 (pc + 3) n' ls (xrl r ++ st) h' Q) : J M md rc rs pc n ls stk h Q := by
  subst hstk
  intro hl hs hr hg D cI cZ base ad p l e R s m args below meth c hC H locs cells slots Z lsm hRel hS hls hc hE
  obtain ⟨f1, f2, ⟨f3, f4⟩, f5⟩ := hfit
  have hR := hC.2.2.2.2.2.2.1
  have ht := hC.2.2.2.2.1
  have had := hC.2.2.2.2.2.2.2.2.1.2.2
  have hbs := hC.2.2.2.2.2.2.2.2.1.1
  have hstok : ∀ v ∈ st, xvok v := fun v hv => hs v (List.mem_append_right _ hv)
  have hAs : ∀ v ∈ As, xvok v := fun v hv => by
    exact hs v (List.mem_append_left _ (List.mem_reverse.mpr hv))
  refine xfull hRel hS had hbs (fun hsz => ?_)
  have hM := xmet (As := As) l D cI cZ ad base hJ f1 hlen hAs hr hg had
  have hpre : ∀ U : State, U.heap = H → s.WarmedH U.vm → va_Pc ((As).map (xcv ad)) (xPre D cI cZ ad base md n h) ((As).map (xcv ad)).toArray U := fun U hU hW =>
    ⟨rfl, by rw [hU]; exact hRel.1, fun q => by rw [hU]; exact hsz q, va_K.moved hW.alike hC.2.2.2.2.2.2.2.1, by rw [hU]; exact Nat.le_trans hbs hS.1, xSt.to hC.2.2.2.2.2.2.2.2.1.2.1 hW.alike (fun a h1 h2 => by rw [hU]; exact hS.2.1 a h1 h2), fun w hw => xisN_warm hw hW (hC.2.2.2.2.2.2.2.2.2.2 w hw)⟩
  have hrev : ((As.reverse ++ st).map (xcv ad)) = (As.map (xcv ad)).reverse ++ st.map (xcv ad) := by
    rw [List.map_append, List.map_reverse]
  have h8' : (((st.map (xcv ad))).map fun v => v.category).sum ≤ 8 := by rw [xsum]; exact h8
  rw [hrev]
  have hcode : (Cond.code y Mc.2.1 Mc.2.2.1 Mc.2.2.2.1).before args s = true := ht _ f5.2
  have hini : (Cond.initialized y.cls).before args s = true := ht _ f5.1
  have hcells : cells + rc' ≤ R.cells ∧ slots + rs' ≤ R.slots := ⟨by omega, by omega⟩
  rcases hw with ⟨hw | ⟨host, hw⟩, hw2⟩
  · refine xcall (Mc := Mc) hl hstok hC hRel hsz hS hls hc hb hE (va_runS (As := As.map (xcv ad)) (nL := M.2.2.1) ⟨hC.1, hC.2.1, hC.2.2.1, hC.2.2.2.1, ht⟩ hM (n := ka) ⟨callB_of (bytes := Mc.2.1) (maxL := Mc.2.2.1) (ret := Mc.2.2.2.1) ka ht (xgoodin f5.2) rfl rfl rfl hini (ht _ hw) f2 ⟨by show Mc.2.2.2.2.2.1 + 1 ≤ R.frames; omega, by show 8 + (Mc.2.2.1 + 11) + Mc.2.2.2.2.2.2.1 ≤ R.locals; omega⟩, ht _ hw2⟩ ⟨xPre_blind, hpre⟩ rfl (by rw [List.length_map]; exact hka) hls.1 rfl (lv_room h8') hd hcells) k
  · refine xcall (Mc := Mc) hl hstok hC hRel hsz hS hls hc hb hE (va_runSN (As := As.map (xcv ad)) (nL := M.2.2.1) ⟨hC.1, hC.2.1, hC.2.2.1, hC.2.2.2.1, ht⟩ hM (n := ka) ⟨va_cnB ka ht (xgoodin f5.2) rfl rfl rfl (hC.2.2.2.2.2.2.2.2.2.2 _ hw) hini f2 ⟨by show Mc.2.2.2.2.2.1 + 1 ≤ R.frames; omega, by show 8 + (Mc.2.2.1 + 11) + Mc.2.2.2.2.2.2.1 ≤ R.locals; omega⟩, ht _ hw2, trivial⟩ ⟨xPre_blind, hpre⟩ rfl (by rw [List.length_map]; exact hka) hls.1 rfl (lv_room h8') hd hcells) k
theorem J_callI {idx ka : Nat} {stk : List xV} (As : List xV) {o : Int} (hd : decode M.2.1 pc = .ok (.invokespecial idx, 3)) (hfit : xFit M Mc y ka) (hka : As.length = ka) (hw : (Cond.methodLink M.1 idx y ∈ xtbl ∨ ∃ host, Cond.methodLinkNest M.1 idx y host ∈ xnst) ∧ y.name = "<init>" ∧ Cond.instanceMethod y ∈ xtbl ∧ Mc.2.2.2.1 = none) (hstk : stk = As.reverse ++ xR o :: st) (h8 : (st.map xcat).sum ≤ 8) (hlen : ((xR o :: As).map xcat).sum ≤ Mc.2.2.1) (hb : rc = rc' + rc2 ∧ rs = rs' + rs2) (hJ : J Mc md rc' rs' 0 n (xen 0 (xR o :: As)) [] h Q')
    (k : ∀ r n' h', Q' r n' h' → xrok Mc.2.2.2.1 r → J M md rc2 rs2 (pc + 3) n' ls (xrl r ++ st) h' Q) : J M md rc rs pc n ls stk h Q := by
  subst hstk
  intro hl hs hr hg D cI cZ base ad p l e R s m args below meth c hC H locs cells slots Z lsm hRel hS hls hc hE
  obtain ⟨f1, f2, ⟨f3, f4⟩, f5⟩ := hfit
  have hR := hC.2.2.2.2.2.2.1
  have ht := hC.2.2.2.2.1
  have had := hC.2.2.2.2.2.2.2.2.1.2.2
  have hbs := hC.2.2.2.2.2.2.2.2.1.1
  have hstok : ∀ v ∈ st, xvok v := fun v hv => hs v (List.mem_append_right _ (List.mem_cons_of_mem _ hv))
  have hAs : ∀ v ∈ xR o :: As, xvok v := fun v hv => by
    rcases List.mem_cons.mp hv with rfl | hv
    · trivial
    · exact hs v (List.mem_append_left _ (List.mem_reverse.mpr hv))
  refine xfull hRel hS had hbs (fun hsz => ?_)
  have hM := xmet (As := xR o :: As) l D cI cZ ad base hJ f1 hlen hAs hr hg had
  have hpre : ∀ U : State, U.heap = H → s.WarmedH U.vm → va_Pc ((xR o :: As).map (xcv ad)) (xPre D cI cZ ad base md n h) ((xR o :: As).map (xcv ad)).toArray U := fun U hU hW =>
    ⟨rfl, by rw [hU]; exact hRel.1, fun q => by rw [hU]; exact hsz q, va_K.moved hW.alike hC.2.2.2.2.2.2.2.1, by rw [hU]; exact Nat.le_trans hbs hS.1, xSt.to hC.2.2.2.2.2.2.2.2.1.2.1 hW.alike (fun a h1 h2 => by rw [hU]; exact hS.2.1 a h1 h2), fun w hw => xisN_warm hw hW (hC.2.2.2.2.2.2.2.2.2.2 w hw)⟩
  have hrev : ((As.reverse ++ xR o :: st).map (xcv ad)) = (As.map (xcv ad)).reverse ++ Value.ref (ad o) :: st.map (xcv ad) := by
    rw [List.map_append, List.map_reverse]; rfl
  have h8' : (((st.map (xcv ad))).map fun v => v.category).sum ≤ 8 := by rw [xsum]; exact h8
  rw [hrev]
  have hcode : (Cond.code y Mc.2.1 Mc.2.2.1 Mc.2.2.2.1).before args s = true := ht _ f5.2
  have hini : (Cond.initialized y.cls).before args s = true := ht _ f5.1
  have hcells : cells + rc' ≤ R.cells ∧ slots + rs' ≤ R.slots := ⟨by omega, by omega⟩
  rcases hw with ⟨hw | ⟨host, hw⟩, hw2⟩
  · have hg2 := xgoodin f5.2
    rw [hw2.2.2] at hM hcode hg2
    have run : va_Run p l e R s m args below meth c H locs cells slots rc' rs' (F0 m pc lsm ((As.map (xcv ad)).reverse ++ Value.ref (ad o) :: st.map (xcv ad))) (st.map (xcv ad)) (xQc none D cI cZ ad base md rc' Q' (Value.ref (ad o) :: As.map (xcv ad)).toArray) (fun q => base ≤ q) := va_runI (As := As.map (xcv ad)) (nL := M.2.2.1) ⟨hC.1, hC.2.1, hC.2.2.1, hC.2.2.2.1, ht⟩ hM (n := ka) ⟨callB_of (bytes := Mc.2.1) (maxL := Mc.2.2.1) (ret := none) ka ht hg2 rfl rfl rfl hini (ht _ hw) f2 ⟨by show Mc.2.2.2.2.2.1 + 1 ≤ R.frames; omega, by show 8 + (Mc.2.2.1 + 11) + Mc.2.2.2.2.2.2.1 ≤ R.locals; omega⟩, hw2.1, ht _ hw2.2.1⟩ ⟨xPre_blind, hpre⟩ rfl (by rw [List.length_map]; exact hka) hls.1 rfl (lv_room h8') hd hcells
    rw [← hw2.2.2] at run
    exact xcall (Mc := Mc) hl hstok hC hRel hsz hS hls hc hb hE run k
  · have hg2 := xgoodin f5.2
    rw [hw2.2.2] at hM hcode hg2
    have run : va_Run p l e R s m args below meth c H locs cells slots rc' rs' (F0 m pc lsm ((As.map (xcv ad)).reverse ++ Value.ref (ad o) :: st.map (xcv ad))) (st.map (xcv ad)) (xQc none D cI cZ ad base md rc' Q' (Value.ref (ad o) :: As.map (xcv ad)).toArray) (fun q => base ≤ q) := va_runIN (As := As.map (xcv ad)) (nL := M.2.2.1) ⟨hC.1, hC.2.1, hC.2.2.1, hC.2.2.2.1, ht⟩ hM (n := ka) ⟨va_cnB ka ht hg2 rfl rfl rfl (hC.2.2.2.2.2.2.2.2.2.2 _ hw) hini f2 ⟨by show Mc.2.2.2.2.2.1 + 1 ≤ R.frames; omega, by show 8 + (Mc.2.2.1 + 11) + Mc.2.2.2.2.2.2.1 ≤ R.locals; omega⟩, hw2.1, ht _ hw2.2.1⟩ ⟨xPre_blind, hpre⟩ rfl (by rw [List.length_map]; exact hka) hls.1 rfl (lv_room h8') hd hcells
    rw [← hw2.2.2] at run
    exact xcall (Mc := Mc) hl hstok hC hRel hsz hS hls hc hb hE run k
end
