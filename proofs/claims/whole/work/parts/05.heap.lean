/-! ROWS OF THE QUIET MACHINE: the heap -/
/-- a class as the tables have it -/
def xCF (ci : Nat) (C : String) (T : u_T) (N : Nat) (ty : Nat → FieldType) : Prop := vwCl[ci]? = some (C, T, N) ∧ (∀ w ∈ u_ws C T N, w ∈ xtbl) ∧ N = xNf ci ∧ (∀ k, k < N → (T k).1 = C) ∧ (∀ k, k < N → parseFieldDescriptor (T k).2.2.1 = some (ty k)) ∧ (∀ a, a < N → ∀ b, b < N → a ≠ b → (T a).2.1 ≠ (T b).2.1)
def xLk (own : String) (idx : Nat) (C nm d : String) : Prop := Cond.fieldLink own idx C nm d ∈ xtbl ∨ ∃ host, Cond.fieldLinkNest own idx C nm d host ∈ xnst
theorem xK_rng {o : Int} (h : xK o ≠ 0) : 1 ≤ o ∧ o ≤ (xKn : Int) := by
  have key : ∀ k : Nat, k < xTab.length → (xTab.getD k (0, 0)).1 ≠ 0 → 1 ≤ k ∧ k ≤ xKn := by decide +kernel
  unfold xK at h
  by_cases hk : o.toNat < xTab.length
  · have := key _ hk h
    omega
  · exact absurd (by simp [List.getD, List.getElem?_eq_none (Nat.not_lt.mp hk)]) h
theorem xRf_I {o : Int} {ci j : Nat} (hk : xK o = 3 + ci) (hz : xIsR ci j = false) : xRf o j = 0 := by
  have key : ∀ k : Nat, k < xRT.length → ∀ j : Nat, j < 90 → 3 ≤ (xTab.getD k (0, 0)).1 → xIsR ((xTab.getD k (0, 0)).1 - 3) j = false → (xRT.getD k []).getD j 0 = 0 := by decide +kernel
  have klen : ∀ l ∈ xRT, l.length ≤ 90 := by decide +kernel
  unfold xRf
  rw [if_neg (by omega)]
  have hj : (j : Int).toNat = j := by omega
  rw [hj]
  by_cases hl : o.toNat < xRT.length
  · by_cases hj : j < 90
    · unfold xK at hk
      exact key _ hl j hj (by omega) (by rw [hk, Nat.add_sub_cancel_left]; exact hz)
    · have h1 : (xRT.getD o.toNat []).length ≤ 90 := klen _ (by simp only [List.getD, List.getElem?_eq_getElem hl, Option.getD_some]; exact List.getElem_mem hl)
      simp only [List.getD, List.getElem?_eq_none (show (xRT[o.toNat]?.getD []).length ≤ j by simp only [List.getD] at h1; omega), Option.getD_none]
  · simp [List.getD, List.getElem?_eq_none (Nat.not_lt.mp hl)]
theorem xC_obj {cI cZ : ClassId} {ad : Int → Nat} {h : xH} {o : Int} {ci : Nat} (hk : xK o = 3 + ci) : xC cI cZ ad h o = .inr (ci, xflds ad h ci o) := by
  unfold xC
  rw [if_neg (by omega), if_neg (by omega), hk, Nat.add_sub_cancel_left]
theorem xC_int {cI cZ : ClassId} {ad : Int → Nat} {h : xH} {o : Int} (hk : xK o = 1) : xC cI cZ ad h o = .inl (cI, xN o, .inl (fun j => Int32.ofInt (h o j))) := by
  unfold xC
  rw [if_pos hk]
theorem xC_boo {cI cZ : ClassId} {ad : Int → Nat} {h : xH} {o : Int} (hk : xK o = 2) : xC cI cZ ad h o = .inl (cZ, xN o, .inl (fun j => Int32.ofInt (h o j))) := by
  unfold xC
  rw [if_neg (by omega), if_pos hk]
theorem xD_of {cI cZ : ClassId} {ad : Int → Nat} {base n : Nat} {h : xH} (hA : ∀ k : Nat, ad ((k : Int) + 1) = base + k) : va_D (fun q => base ≤ q) (xws cI cZ ad h n) := by
  refine ⟨fun i j p q hi hj e => ?_, fun k q hq => ?_⟩
  · unfold xws at hi hj
    rw [List.getElem?_map, Option.map_eq_some_iff] at hi hj
    obtain ⟨a, ha, rfl⟩ := hi
    obtain ⟨b, hb, rfl⟩ := hj
    have ha2 := List.getElem?_eq_some_iff.mp ha
    have hb2 := List.getElem?_eq_some_iff.mp hb
    obtain ⟨ha3, ha4⟩ := ha2
    obtain ⟨hb3, hb4⟩ := hb2
    rw [List.getElem_range] at ha4 hb4
    have e2 : ad ((a : Int) + 1) = ad ((b : Int) + 1) := e
    rw [hA, hA] at e2
    omega
  · unfold xws at hq
    rw [List.getElem?_map, Option.map_eq_some_iff] at hq
    obtain ⟨a, ha, rfl⟩ := hq
    show base ≤ ad ((a : Int) + 1)
    rw [hA]
    omega
theorem xG_up {md : Bool} {n : Nat} {h : xH} {o j v : Int} (hg : xG md n h) (hn : xRf o j = 0) : xG md n (xup h o j v) := fun e => ⟨(hg e).1, xRef_up (hg e).2 hn⟩
theorem xG_cp {md : Bool} {n : Nat} {h : xH} {s sp d dp m : Int} (hg : xG md n h) (hk : xK d < 3) : xG md n (xcp h s sp d dp m) := fun e => ⟨(hg e).1, xRef_cp (hg e).2 hk⟩
theorem xup_o {h : xH} {o j v : Int} : ∀ o', o' ≠ o → ∀ j', xup h o j v o' j' = h o' j' := by
  intro o' h1 j'
  unfold xup
  rw [if_neg (fun q => h1 q.1)]
theorem xcp_o {h : xH} {s sp d dp m : Int} : ∀ o', o' ≠ d → ∀ j', xcp h s sp d dp m o' j' = h o' j' := by
  intro o' h1 j'
  unfold xcp
  rw [if_neg (fun q => h1 q.1)]
section
variable {M : xM} {md : Bool} {rc rs pc n : Nat} {ls ls' : List (Nat × xV)} {st : List xV} {h : xH} {Q : xQ}
theorem J_lcmp {x y : Int64} (hd : decode M.2.1 pc = .ok (.lcmp, 1)) (k : J M md rc rs (pc + 1) n ls (xI (lg_cmp x y).toInt :: st) h Q) : J M md rc rs pc n ls (xL y :: xL x :: st) h Q :=
  J_op (fun _ => fun {_ _ _ _ _ _ _ _ _ _ _ _ _ _ _ _ _} hx hb _ _ k => W.lcmp hx hb hd (by rw [← xoi (lg_cmp x y)]; exact k)) (fun hs => xsI (xokt _) (xs2 (xs2 hs))) k
/-- a number of an object -/
theorem J_getI {o : Int} {ci j N idx : Nat} {C : String} {T : u_T} {ty : Nat → FieldType} (hF : xCF ci C T N ty) (hd : decode M.2.1 pc = .ok (.getfield idx, 3)) (ho : 1 ≤ o ∧ o ≤ (n : Int)) (hk : xK o = 3 + ci) (hw : xLk M.1 idx C (T j).2.1 (T j).2.2.1) (hj : j < N) (hz : xIsR ci j = false) (k : J M md rc rs (pc + 3) n ls (xI (h o j) :: st) h Q) : J M md rc rs pc n ls (xR o :: st) h Q := by
  intro hl hs hr hg D cI cZ base ad p l e R s m args below meth c hC H locs cells slots Z lsm hRel hS hls hc hE
  obtain ⟨f1, f2, f3, f4, -, -⟩ := hF
  have kk := k hl (xsI (hr o j) (xs2 hs)) hr hg D cI cZ base ad p l e R s m args below meth c hC H locs cells slots Z lsm hRel hS hls hc hE
  have he : (xws cI cZ ad h n)[o.toNat - 1]? = some (ad o, .inr (ci, xflds ad h ci o)) := by rw [xws_at ho.1 ho.2, xC_obj hk]
  have hv : (xflds ad h ci o)[j]? = some (.int (Int32.ofInt (h o j))) := by rw [xflds_at (by omega)]; unfold xfv; rw [if_neg (by rw [hz]; decide)]
  rcases hw with hw | ⟨host, hw⟩
  · exact va_get hC.1 hC.2.1 hC.2.2.2.2.1 f2 hC.2.2.2.1 hC.2.2.2.2.2.2.2.1 hRel.1 _ he f1 j hj (hC.2.2.2.2.1 _ hw) (fun x q => by rw [f4 j hj] at q; exact q) hv hd kk
  · exact va_getN hC.1 hC.2.1 hC.2.2.2.2.1 f2 hC.2.2.2.1 hC.2.2.2.2.2.2.2.1 hRel.1 _ he f1 j hj (va_Nw.use rfl (hC.2.2.2.2.2.2.2.2.2.2 _ hw)) (fun x q => by rw [f4 j hj] at q; exact q) hv hd kk
/-- a cell of an object -/
theorem J_getR {o v : Int} {ci j N idx : Nat} {C : String} {T : u_T} {ty : Nat → FieldType} (hF : xCF ci C T N ty) (hd : decode M.2.1 pc = .ok (.getfield idx, 3)) (ho : 1 ≤ o ∧ o ≤ (n : Int)) (hk : xK o = 3 + ci) (hw : xLk M.1 idx C (T j).2.1 (T j).2.2.1) (hj : j < N) (hz : xIsR ci j = true) (hv : xG md n h → h o j = v ∧ v ≠ 0) (k : J M md rc rs (pc + 3) n ls (xR v :: st) h Q) : J M md rc rs pc n ls (xR o :: st) h Q := by
  intro hl hs hr hg D cI cZ base ad p l e R s m args below meth c hC H locs cells slots Z lsm hRel hS hls hc hE
  obtain ⟨f1, f2, f3, f4, -, -⟩ := hF
  obtain ⟨v1, v2⟩ := hv hg
  have kk := k hl (xsR (xs2 hs)) hr hg D cI cZ base ad p l e R s m args below meth c hC H locs cells slots Z lsm hRel hS hls hc hE
  have he : (xws cI cZ ad h n)[o.toNat - 1]? = some (ad o, .inr (ci, xflds ad h ci o)) := by rw [xws_at ho.1 ho.2, xC_obj hk]
  have hv : (xflds ad h ci o)[j]? = some (.ref (ad v)) := by rw [xflds_at (by omega)]; unfold xfv; rw [if_pos hz, v1, if_neg v2]
  rcases hw with hw | ⟨host, hw⟩
  · exact va_get hC.1 hC.2.1 hC.2.2.2.2.1 f2 hC.2.2.2.1 hC.2.2.2.2.2.2.2.1 hRel.1 _ he f1 j hj (hC.2.2.2.2.1 _ hw) (fun x q => by rw [f4 j hj] at q; exact q) hv hd kk
  · exact va_getN hC.1 hC.2.1 hC.2.2.2.2.1 f2 hC.2.2.2.1 hC.2.2.2.2.2.2.2.1 hRel.1 _ he f1 j hj (va_Nw.use rfl (hC.2.2.2.2.2.2.2.2.2.2 _ hw)) (fun x q => by rw [f4 j hj] at q; exact q) hv hd kk
theorem J_getRt {o : Int} {ci j N idx : Nat} {C : String} {T : u_T} {ty : Nat → FieldType} (hF : xCF ci C T N ty) (hd : decode M.2.1 pc = .ok (.getfield idx, 3)) (hk : xK o = 3 + ci) (hw : xLk M.1 idx C (T j).2.1 (T j).2.2.1) (hj : j < N) (hz : xIsR ci j = true) (hne : xRf o j ≠ 0) (k : J M true rc rs (pc + 3) xKn ls (xR (xRf o j) :: st) h Q) : J M true rc rs pc xKn ls (xR o :: st) h Q :=
  J_getR hF hd (xK_rng (by omega)) hk hw hj hz (fun g => ⟨(g rfl).2 o j hne, hne⟩) k
/-- a number is put -/
theorem J_putI {o v : Int} {ci j N idx : Nat} {C : String} {T : u_T} {ty : Nat → FieldType} (hF : xCF ci C T N ty) (hd : decode M.2.1 pc = .ok (.putfield idx, 3)) (ho : 1 ≤ o ∧ o ≤ (n : Int)) (hk : xK o = 3 + ci) (hw : xLk M.1 idx C (T j).2.1 (T j).2.2.1) (hj : j < N) (hz : xIsR ci j = false ∧ (T j).2.2.2 = false ∧ ty j = .int) {h2 : xH} (he2 : h2 = xup h o j v) (k : J M md rc rs (pc + 3) n ls st h2 Q) : J M md rc rs pc n ls (xI v :: xR o :: st) h Q := by
  subst he2
  intro hl hs hr hg D cI cZ base ad p l e R s m args below meth c hC H locs cells slots Z lsm hRel hS hls hc hE
  obtain ⟨f1, f2, f3, f4, f5, f6⟩ := hF
  have hn0 : xRf o j = 0 := xRf_I hk hz.1
  have kk := k hl (xs2 (xs2 hs)) (xup_rng hr (xs0 hs)) (xG_up hg hn0) D cI cZ base ad p l e R s m args below meth c hC
  have he : (xws cI cZ ad h n)[o.toNat - 1]? = some (ad o, .inr (ci, xflds ad h ci o)) := by rw [xws_at ho.1 ho.2, xC_obj hk]
  have hj2 : j < xNf ci := by omega
  have e2 : (xws cI cZ ad h n).set (o.toNat - 1) (ad o, .inr (ci, (xflds ad h ci o).set j (.int (Int32.ofInt v)))) = xws cI cZ ad (xup h o j v) n := by
    rw [xflds_set (h := h) (v := v) hj2 (by unfold xfv; rw [if_neg (by rw [hz.1]; decide)]; unfold xup; rw [if_pos ⟨rfl, rfl⟩]), ← xC_obj (cI := cI) (cZ := cZ) (ad := ad) (h := xup h o j v) hk]
    exact xws_set ho.1 ho.2 (fun o' h1 j' => xup_o o' h1 j')
  have fin : ∀ (H1 : Heap) (locs1 : List Loc), va_P D vwCl ((xws cI cZ ad h n).set (o.toNat - 1) (ad o, .inr (ci, (xflds ad h ci o).set j (.int (Int32.ofInt v))))) H1 → va_D (fun q => base ≤ q) ((xws cI cZ ad h n).set (o.toNat - 1) (ad o, .inr (ci, (xflds ad h ci o).set j (.int (Int32.ofInt v))))) → va_S (fun q => base ≤ q) s.heap H1 locs1 → W p l e R s m args below meth c H1 locs1 cells slots Z (F0 m (pc + 3) lsm (st.map (xcv ad))) := by
    intro H1 locs1 hP1 _ hS1
    rw [e2] at hP1
    exact kk H1 locs1 cells slots Z lsm ⟨hP1, hRel.2⟩ hS1 hls hc hE
  have hD := xD_of (cI := cI) (cZ := cZ) (h := h) (n := n) hC.2.2.2.2.2.2.2.2.1.2.2
  have hty : parseFieldDescriptor (T j).2.2.1 = some .int := by rw [f5 j hj, hz.2.2]
  rcases hw with hw | ⟨host, hw⟩
  · exact va_put hC.1 hC.2.1 hC.2.2.2.2.1 f2 ty f5 f6 hC.2.2.2.1 hC.2.2.2.2.2.2.2.1 hRel.1 hD hS _ he f1 j hj (hC.2.2.2.2.1 _ hw) (fun x q => by rw [f4 j hj] at q; exact q) hz.2.1 hty rfl rfl (by rw [xflds_len]; exact hj2) hd fin
  · exact va_putN hC.1 hC.2.1 hC.2.2.2.2.1 f2 ty f5 f6 hC.2.2.2.1 hC.2.2.2.2.2.2.2.1 hRel.1 hD hS _ he f1 j hj (va_Nw.use rfl (hC.2.2.2.2.2.2.2.2.2.2 _ hw)) (fun x q => by rw [f4 j hj] at q; exact q) hz.2.1 hty rfl rfl (by rw [xflds_len]; exact hj2) hd fin
theorem xix {i : Int} {a : Int} (hi : xok i) (h : 0 ≤ i ∧ i < (xN a : Int)) : vp_in (Int32.ofInt i) (xN a) ∧ (((Int32.ofInt i).toNatClampNeg : Nat) : Int) = i := ⟨xin hi h.1 h.2, by rw [xcl hi]; omega⟩
theorem J_alen {a : Int} (hd : decode M.2.1 pc = .ok (.arraylength, 1)) (ho : 1 ≤ a ∧ a ≤ (n : Int)) (hk : xK a = 1 ∨ xK a = 2) {nn : Int} (hok : xok nn) (hn : (xN a : Int) = nn) (k : J M md rc rs (pc + 1) n ls (xI nn :: st) h Q) : J M md rc rs pc n ls (xR a :: st) h Q := by
  subst hn
  intro hl hs hr hg D cI cZ base ad p l e R s m args below meth c hC H locs cells slots Z lsm hRel hS hls hc hE
  have kk := k hl (xsI hok (xs2 hs)) hr hg D cI cZ base ad p l e R s m args below meth c hC H locs cells slots Z lsm hRel hS hls hc hE
  have hK := hC.2.2.2.2.2.2.2.1
  rcases hk with hk | hk
  · exact va_alen hC.1 hC.2.1 hK hRel.1 (a.toNat - 1) 0 (by rw [xws_at ho.1 ho.2, xC_int hk]) rfl (by rfl) hd kk
  · exact va_alen hC.1 hC.2.1 hK hRel.1 (a.toNat - 1) 1 (by rw [xws_at ho.1 ho.2, xC_boo hk]) rfl (by rfl) hd kk
theorem J_iald {a i : Int} (hd : decode M.2.1 pc = .ok (.iaload, 1)) (ho : 1 ≤ a ∧ a ≤ (n : Int)) (hk : xK a = 1) {nn : Int} (hi : 0 ≤ i ∧ i < nn) (hn : (xN a : Int) = nn) (k : J M md rc rs (pc + 1) n ls (xI (h a i) :: st) h Q) : J M md rc rs pc n ls (xI i :: xR a :: st) h Q := by
  subst hn
  intro hl hs hr hg D cI cZ base ad p l e R s m args below meth c hC H locs cells slots Z lsm hRel hS hls hc hE
  obtain ⟨h1, h2⟩ := xix (xs0 hs) hi
  have kk := k hl (xsI (hr a i) (xs2 (xs2 hs))) hr hg D cI cZ base ad p l e R s m args below meth c hC H locs cells slots Z lsm hRel hS hls hc hE
  refine va_iald hC.1 hC.2.1 hC.2.2.2.2.2.2.2.1 hRel.1 (a.toNat - 1) 0 (by rw [xws_at ho.1 ho.2, xC_int hk]) rfl h1 hd ?_
  simp only [h2]
  exact kk
theorem J_bald {a i : Int} (hd : decode M.2.1 pc = .ok (.baload, 1)) (ho : 1 ≤ a ∧ a ≤ (n : Int)) (hk : xK a = 2) {nn : Int} (hi : 0 ≤ i ∧ i < nn) (hn : (xN a : Int) = nn) (k : J M md rc rs (pc + 1) n ls (xI (h a i) :: st) h Q) : J M md rc rs pc n ls (xI i :: xR a :: st) h Q := by
  subst hn
  intro hl hs hr hg D cI cZ base ad p l e R s m args below meth c hC H locs cells slots Z lsm hRel hS hls hc hE
  obtain ⟨h1, h2⟩ := xix (xs0 hs) hi
  have kk := k hl (xsI (hr a i) (xs2 (xs2 hs))) hr hg D cI cZ base ad p l e R s m args below meth c hC H locs cells slots Z lsm hRel hS hls hc hE
  refine va_zald hC.1 hC.2.1 hC.2.2.2.2.2.2.2.1 hRel.1 (a.toNat - 1) 1 (by rw [xws_at ho.1 ho.2, xC_boo hk]) rfl h1 hd ?_
  simp only [h2]
  exact kk
theorem xarr_set {cA : ClassId} {h : xH} {a i v : Int} (hi : ((Int32.ofInt i).toNatClampNeg : Int) = i) : upd (fun j : Nat => Int32.ofInt (h a j)) (Int32.ofInt i).toNatClampNeg (Int32.ofInt v) = fun j : Nat => Int32.ofInt (xup h a i v a j) := by
  funext j
  unfold upd xup
  by_cases hj : j = (Int32.ofInt i).toNatClampNeg
  · rw [if_pos hj, if_pos ⟨rfl, by omega⟩]
  · rw [if_neg hj, if_neg (by omega)]
theorem J_iast {a i v : Int} (hd : decode M.2.1 pc = .ok (.iastore, 1)) (ho : 1 ≤ a ∧ a ≤ (n : Int)) (hk : xK a = 1) {nn : Int} (hi : 0 ≤ i ∧ i < nn) (hn : (xN a : Int) = nn) {h2 : xH} (he2 : h2 = xup h a i v) (k : J M md rc rs (pc + 1) n ls st h2 Q) : J M md rc rs pc n ls (xI v :: xI i :: xR a :: st) h Q := by
  subst hn
  subst he2
  intro hl hs hr hg D cI cZ base ad p l e R s m args below meth c hC H locs cells slots Z lsm hRel hS hls hc hE
  obtain ⟨h1, h2⟩ := xix (xs0 (xs2 hs)) hi
  have kk := k hl (xs2 (xs2 (xs2 hs))) (xup_rng hr (xs0 hs)) (xG_up hg (xRf_arr (by omega))) D cI cZ base ad p l e R s m args below meth c hC
  refine va_iast hC.1 hC.2.1 hC.2.2.2.2.2.2.2.1 hRel.1 (xD_of hC.2.2.2.2.2.2.2.2.1.2.2) hS (a.toNat - 1) 0 (by rw [xws_at ho.1 ho.2, xC_int hk]) rfl h1 hd (fun H1 locs1 hP1 _ hS1 => ?_)
  rw [xarr_set (cA := cI) h2, ← xC_int (cI := cI) (cZ := cZ) (ad := ad) (h := xup h a i v) hk, xws_set ho.1 ho.2 (fun o' h1 j' => xup_o o' h1 j')] at hP1
  exact kk H1 locs1 cells slots Z lsm ⟨hP1, hRel.2⟩ hS1 hls hc hE
theorem J_bast {a i v : Int} (hd : decode M.2.1 pc = .ok (.bastore, 1)) (ho : 1 ≤ a ∧ a ≤ (n : Int)) (hk : xK a = 2) {nn : Int} (hi : 0 ≤ i ∧ i < nn) (hn : (xN a : Int) = nn) (hv : v = 0 ∨ v = 1) {h2 : xH} (he2 : h2 = xup h a i v) (k : J M md rc rs (pc + 1) n ls st h2 Q) : J M md rc rs pc n ls (xI v :: xI i :: xR a :: st) h Q := by
  subst hn
  subst he2
  intro hl hs hr hg D cI cZ base ad p l e R s m args below meth c hC H locs cells slots Z lsm hRel hS hls hc hE
  obtain ⟨h1, h2⟩ := xix (xs0 (xs2 hs)) hi
  have kk := k hl (xs2 (xs2 (xs2 hs))) (xup_rng hr (xs0 hs)) (xG_up hg (xRf_arr (by omega))) D cI cZ base ad p l e R s m args below meth c hC
  have hvn : vp_nar .boolean (Int32.ofInt v) = Int32.ofInt v := by rcases hv with rfl | rfl <;> decide
  refine va_zast hC.1 hC.2.1 hC.2.2.2.2.2.2.2.1 hRel.1 (xD_of hC.2.2.2.2.2.2.2.2.1.2.2) hS (a.toNat - 1) 1 (by rw [xws_at ho.1 ho.2, xC_boo hk]) rfl h1 hd (fun H1 locs1 hP1 _ hS1 => ?_)
  rw [hvn, xarr_set (cA := cI) h2, ← xC_boo (cI := cI) (cZ := cZ) (ad := ad) (h := xup h a i v) hk, xws_set ho.1 ho.2 (fun o' h1 j' => xup_o o' h1 j')] at hP1
  exact kk H1 locs1 cells slots Z lsm ⟨hP1, hRel.2⟩ hS1 hls hc hE
/-- the two tables -/
def xTM : List Int := [1, 1, 1, 0, 2, 1, 2]
def xTT : List Int := [1, 1, 0, 1, 2, 2, 1]
def xTb (a i : Int) : Int := (if a = -1 then xTM else xTT).getD i.toNat 0
theorem J_gsM {idx : Nat} (hd : decode M.2.1 pc = .ok (.getstatic idx, 3)) (hw : Cond.fieldLink M.1 idx "WordMender$Slips" "MEANT_TAKEN" "[I" ∈ xtbl) (k : J M md rc rs (pc + 3) n ls (xR (-1) :: st) h Q) : J M md rc rs pc n ls st h Q := by
  intro hl hs hr hg D cI cZ base ad p l e R s m args below meth c hC H locs cells slots Z lsm hRel hS hls hc hE
  exact va_gets hC.1 hC.2.1 hC.2.2.2.2.2.2.2.2.1.2.1.1 hS hC.2.2.2.1 (hC.2.2.2.2.1 _ hw) (fun _ q => q) hd (k hl (xsR hs) hr hg D cI cZ base ad p l e R s m args below meth c hC H locs cells slots Z lsm hRel hS hls hc hE)
theorem J_gsT {idx : Nat} (hd : decode M.2.1 pc = .ok (.getstatic idx, 3)) (hw : Cond.fieldLink M.1 idx "WordMender$Slips" "TYPED_TAKEN" "[I" ∈ xtbl) (k : J M md rc rs (pc + 3) n ls (xR (-2) :: st) h Q) : J M md rc rs pc n ls st h Q := by
  intro hl hs hr hg D cI cZ base ad p l e R s m args below meth c hC H locs cells slots Z lsm hRel hS hls hc hE
  exact va_gets hC.1 hC.2.1 hC.2.2.2.2.2.2.2.2.1.2.1.2.2.1 hS hC.2.2.2.1 (hC.2.2.2.2.1 _ hw) (fun _ q => q) hd (k hl (xsR hs) hr hg D cI cZ base ad p l e R s m args below meth c hC H locs cells slots Z lsm hRel hS hls hc hE)
theorem J_tlen {a : Int} (hd : decode M.2.1 pc = .ok (.arraylength, 1)) (ha : a = -1 ∨ a = -2) (k : J M md rc rs (pc + 1) n ls (xI 7 :: st) h Q) : J M md rc rs pc n ls (xR a :: st) h Q := by
  intro hl hs hr hg D cI cZ base ad p l e R s m args below meth c hC H locs cells slots Z lsm hRel hS hls hc hE
  have kk := k hl (xsI (by decide) (xs2 hs)) hr hg D cI cZ base ad p l e R s m args below meth c hC H locs cells slots Z lsm hRel hS hls hc hE
  have hT := hC.2.2.2.2.2.2.2.2.1.2.1
  rcases ha with rfl | rfl
  · exact va_tlen hC.1 hC.2.1 hT.2.1 hS rfl hd kk
  · exact va_tlen hC.1 hC.2.1 hT.2.2.2 hS rfl hd kk
theorem J_tald {a i : Int} (hd : decode M.2.1 pc = .ok (.iaload, 1)) (ha : a = -1 ∨ a = -2) (hi : 0 ≤ i ∧ i < 7) (k : J M md rc rs (pc + 1) n ls (xI (xTb a i) :: st) h Q) : J M md rc rs pc n ls (xI i :: xR a :: st) h Q := by
  intro hl hs hr hg D cI cZ base ad p l e R s m args below meth c hC H locs cells slots Z lsm hRel hS hls hc hE
  have hT := hC.2.2.2.2.2.2.2.2.1.2.1
  have hi2 : (Int32.ofInt i).toNatClampNeg = i.toNat := xcl (xs0 hs)
  have hok : ∀ j : Nat, j < 7 → xok (xTM.getD j 0) ∧ xok (xTT.getD j 0) := by decide
  have hok2 := hok i.toNat (by omega)
  rcases ha with rfl | rfl
  · exact va_ti hC.1 hC.2.1 hT.2.1 hS (xin (xs0 hs) hi.1 hi.2) (by rw [hi2]; rfl) hd (k hl (xsI hok2.1 (xs2 (xs2 hs))) hr hg D cI cZ base ad p l e R s m args below meth c hC H locs cells slots Z lsm hRel hS hls hc hE)
  · exact va_ti hC.1 hC.2.1 hT.2.2.2 hS (xin (xs0 hs) hi.1 hi.2) (by rw [hi2]; rfl) hd (k hl (xsI hok2.2 (xs2 (xs2 hs))) hr hg D cI cZ base ad p l e R s m args below meth c hC H locs cells slots Z lsm hRel hS hls hc hE)
/-- the law's script -/
theorem J_slen {L : Nat} {xs : Nat → Int32} (hM : M.2.2.2.2.2.2.2 = some (L, xs)) (hL : L ≤ 2560) (hd : decode M.2.1 pc = .ok (.arraylength, 1)) (k : J M md rc rs (pc + 1) n ls (xI L :: st) h Q) : J M md rc rs pc n ls (xR (-3) :: st) h Q := by
  intro hl hs hr hg D cI cZ base ad p l e R s m args below meth c hC H locs cells slots Z lsm hRel hS hls hc hE
  have hX := hC.2.2.2.2.2.2.2.2.2.1
  rw [hM] at hX
  exact va_slen hC.1 hC.2.1 hX.1 hX.2.1 (by have := hX.2.2; omega) hS hd (k hl (xsI (by constructor <;> omega) (xs2 hs)) hr hg D cI cZ base ad p l e R s m args below meth c hC H locs cells slots Z lsm hRel hS hls hc hE)
theorem J_sald {L : Nat} {xs : Nat → Int32} {i : Int} (hM : M.2.2.2.2.2.2.2 = some (L, xs)) (hi : 0 ≤ i ∧ i < (L : Int)) (hd : decode M.2.1 pc = .ok (.iaload, 1)) (k : J M md rc rs (pc + 1) n ls (xI (xs i.toNat).toInt :: st) h Q) : J M md rc rs pc n ls (xI i :: xR (-3) :: st) h Q := by
  intro hl hs hr hg D cI cZ base ad p l e R s m args below meth c hC H locs cells slots Z lsm hRel hS hls hc hE
  have hX := hC.2.2.2.2.2.2.2.2.2.1
  rw [hM] at hX
  refine va_sld hC.1 hC.2.1 hX.1 hX.2.1 (by have := hX.2.2; omega) hS (xin (xs0 hs) hi.1 hi.2) hd ?_
  rw [xcl (xs0 hs), ← xoi (xs i.toNat)]
  exact k hl (xsI (xokt _) (xs2 (xs2 hs))) hr hg D cI cZ base ad p l e R s m args below meth c hC H locs cells slots Z lsm hRel hS hls hc hE
/-- Math.min, max; a row is copied -/
def xMinW (own : String) (idx : Nat) (y : MethodName) (b : ByteArray) : Prop := Cond.methodLink own idx y ∈ xtbl ∧ Cond.static y ∈ xtbl ∧ Cond.initialized "java/lang/Math" ∈ xtbl ∧ Cond.code y b 2 (some .int) ∈ xtbl
theorem xsum (ad : Int → Nat) (st : List xV) : ((st.map (xcv ad)).map fun v => v.category).sum = (st.map xcat).sum := by
  rw [List.map_map]
  congr 1
  refine List.map_congr_left fun v _ => ?_
  exact xcat_cv ad v
theorem J_mmin {x y : Int} {idx : Nat} (hd : decode M.2.1 pc = .ok (.invokestatic idx, 3)) (hw : xMinW M.1 idx Lib.Math.min.name Lib.Math.min.code) (hf : 1 ≤ M.2.2.2.2.2.1) (hlo : (st.map xcat).sum + 13 ≤ M.2.2.2.2.2.2.1) (k : J M md rc rs (pc + 3) n ls (xI (min x y) :: st) h Q) : J M md rc rs pc n ls (xI y :: xI x :: st) h Q := by
  intro hl hs hr hg D cI cZ base ad p l e R s m args below meth c hC H locs cells slots Z lsm hRel hS hls hc hE
  have hy : xok y := xs0 hs
  have hx : xok x := xs0 (xs2 hs)
  have hm : xok (min x y) := by
    rw [Int.min_def]
    split <;> assumption
  have kk := k hl (xsI hm (xs2 (xs2 hs))) hr hg D cI cZ base ad p l e R s m args below meth c hC H locs cells slots Z lsm hRel hS hls hc hE
  have ht := hC.2.2.2.2.1
  refine va_mmin hC.1 hC.2.1 (hC.2.2.1.trans hls.1.symm) hC.2.2.2.1 (ht _ hw.1) (ht _ hw.2.1) (ht _ hw.2.2.1) (ht _ hw.2.2.2) (by have := hC.2.2.2.2.2.2.1.1; omega) (by rw [xsum]; have := hC.2.2.2.2.2.2.1.2; omega) (by omega) (by omega) hd ?_
  have e : (if Int32.ofInt y < Int32.ofInt x then Int32.ofInt y else Int32.ofInt x) = Int32.ofInt (min x y) := by
    rw [Int.min_def]
    by_cases q : y < x
    · rw [if_pos ((xlt hy hx).mpr q)]
      rw [if_neg (by omega)]
    · rw [if_neg (fun z => q ((xlt hy hx).mp z))]
      by_cases q2 : x ≤ y
      · rw [if_pos q2]
        
      · rw [if_neg q2]
        exfalso; omega
  rw [e]
  exact kk
theorem J_mmax {x y : Int} {idx : Nat} (hd : decode M.2.1 pc = .ok (.invokestatic idx, 3)) (hw : xMinW M.1 idx Lib.Math.max.name Lib.Math.max.code) (hf : 1 ≤ M.2.2.2.2.2.1) (hlo : (st.map xcat).sum + 13 ≤ M.2.2.2.2.2.2.1) (k : J M md rc rs (pc + 3) n ls (xI (max x y) :: st) h Q) : J M md rc rs pc n ls (xI y :: xI x :: st) h Q := by
  intro hl hs hr hg D cI cZ base ad p l e R s m args below meth c hC H locs cells slots Z lsm hRel hS hls hc hE
  have hy : xok y := xs0 hs
  have hx : xok x := xs0 (xs2 hs)
  have hm : xok (max x y) := by
    rw [Int.max_def]
    split <;> assumption
  have kk := k hl (xsI hm (xs2 (xs2 hs))) hr hg D cI cZ base ad p l e R s m args below meth c hC H locs cells slots Z lsm hRel hS hls hc hE
  have ht := hC.2.2.2.2.1
  refine va_mmax hC.1 hC.2.1 (hC.2.2.1.trans hls.1.symm) hC.2.2.2.1 (ht _ hw.1) (ht _ hw.2.1) (ht _ hw.2.2.1) (ht _ hw.2.2.2) (by have := hC.2.2.2.2.2.2.1.1; omega) (by rw [xsum]; have := hC.2.2.2.2.2.2.1.2; omega) (by omega) (by omega) hd ?_
  have e : (if Int32.ofInt x < Int32.ofInt y then Int32.ofInt y else Int32.ofInt x) = Int32.ofInt (max x y) := by
    rw [Int.max_def]
    by_cases q : x < y
    · rw [if_pos ((xlt hx hy).mpr q)]
      rw [if_pos (by omega)]
    · rw [if_neg (fun z => q ((xlt hx hy).mp z))]
      by_cases q2 : x ≤ y
      · rw [if_pos q2]
        congr 1; omega
      · rw [if_neg q2]
        
  rw [e]
  exact kk
def xCpW (own : String) (idx : Nat) : Prop := Cond.methodLink own idx arraycopyName ∈ xtbl ∧ Cond.native arraycopyName ∈ xtbl ∧ Cond.static arraycopyName ∈ xtbl ∧ Cond.initialized "java/lang/System" ∈ xtbl
theorem J_copy {a b sp dp k0 : Int} {idx : Nat} (hd : decode M.2.1 pc = .ok (.invokestatic idx, 3)) (hw : xCpW M.1 idx) (hoa : 1 ≤ a ∧ a ≤ (n : Int)) (hob : 1 ≤ b ∧ b ≤ (n : Int)) (hka : xK a = 1) (hkb : xK b = 1) {na nb : Int} (hi : 0 ≤ sp ∧ 0 ≤ dp ∧ 0 ≤ k0 ∧ sp + k0 ≤ na ∧ dp + k0 ≤ nb) (hna : (xN a : Int) = na) (hnb : (xN b : Int) = nb) {h2 : xH} (he2 : h2 = xcp h a sp b dp k0) (hf : 1 ≤ M.2.2.2.2.2.1) (hlo : (st.map xcat).sum + (nativeFrameWords "java/lang/System" "arraycopy" 5 + 11) ≤ M.2.2.2.2.2.2.1) (k : J M md rc rs (pc + 3) n ls st h2 Q) : J M md rc rs pc n ls (xI k0 :: xI dp :: xR b :: xI sp :: xR a :: st) h Q := by
  subst hna
  subst hnb
  subst he2
  intro hl hs hr hg D cI cZ base ad p l e R s m args below meth c hC H locs cells slots Z lsm hRel hS hls hc hE
  have hk0 : xok k0 := xs0 hs
  have hdp : xok dp := xs0 (xs2 hs)
  have hsp : xok sp := xs0 (xs2 (xs2 (xs2 hs)))
  have kk := k hl (xs2 (xs2 (xs2 (xs2 (xs2 hs))))) (xcp_rng hr) (xG_cp hg (by omega)) D cI cZ base ad p l e R s m args below meth c hC
  have ht := hC.2.2.2.2.1
  have nn : ∀ z : Int, xok z → 0 ≤ z → ¬ Int32.ofInt z < 0 := fun z hz h0 q => by
    have := (xlt hz xok0).mp q
    omega
  refine va_copyi hC.1 hC.2.1 (hC.2.2.1.trans hls.1.symm) hC.2.2.2.1 (ht _ hw.1) (ht _ hw.2.1) (ht _ hw.2.2.1) (ht _ hw.2.2.2) hC.2.2.2.2.2.2.2.1 hRel.1 (xD_of hC.2.2.2.2.2.2.2.2.1.2.2) hS (a.toNat - 1) (b.toNat - 1) 0 0 (by rw [xws_at hoa.1 hoa.2, xC_int hka]) (by rw [xws_at hob.1 hob.2, xC_int hkb]) rfl rfl rfl (nn sp hsp hi.1) (nn dp hdp hi.2.1) (nn k0 hk0 hi.2.2.1) (by rw [xcl hsp, xcl hk0]; omega) (by rw [xcl hdp, xcl hk0]; omega) (fun _ _ => rfl) (by have := hC.2.2.2.2.2.2.1.1; omega) (by rw [xsum]; have := hC.2.2.2.2.2.2.1.2; omega) hd (fun H1 locs1 hP1 _ hS1 => ?_)
  have e : va_cpy (fun j : Nat => Int32.ofInt (h a j)) (fun j : Nat => Int32.ofInt (h b j)) (Int32.ofInt sp).toNatClampNeg (Int32.ofInt dp).toNatClampNeg (Int32.ofInt k0).toNatClampNeg = fun j : Nat => Int32.ofInt (xcp h a sp b dp k0 b j) := by
    funext j
    rw [xcl hsp, xcl hdp, xcl hk0]
    unfold xcp
    by_cases q : dp.toNat ≤ j ∧ j < dp.toNat + k0.toNat
    · rw [pk_cpy_in q.1 q.2, if_pos ⟨rfl, by omega, by omega⟩]
      congr 2
      omega
    · rw [pk_cpy_out (by omega), if_neg (by omega)]
  rw [e, ← xC_int (cI := cI) (cZ := cZ) (ad := ad) (h := xcp h a sp b dp k0) hkb, xws_set hob.1 hob.2 (fun o' h1 j' => xcp_o o' h1 j')] at hP1
  exact kk H1 locs1 cells slots Z lsm ⟨hP1, hRel.2⟩ hS1 hls hc hE
end
