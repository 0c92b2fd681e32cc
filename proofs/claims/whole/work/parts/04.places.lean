/-! ROWS OF THE QUIET MACHINE: places, ends, switches -/
def xkeep (i : Nat) (q : Nat × xV) : Bool := !(q.1 == i) && !(q.1 + 1 == i && xcat q.2 == 2)
def xkeepL (i : Nat) (q : Nat × xV) : Bool := !(q.1 == i) && (!(q.1 == i + 1) && !(q.1 + 1 == i && xcat q.2 == 2))
theorem xst_map (ad : Int → Nat) (i : Nat) (w : Value) (v : xV) (hw : w = xcv ad v) (ls : List (Nat × xV)) : (i, w) :: (ls.map fun q => (q.1, xcv ad q.2)).filter (fun q => !(q.1 == i) && !(q.1 + 1 == i && q.2.category == 2)) = ((i, v) :: ls.filter (xkeep i)).map fun q => (q.1, xcv ad q.2) := by
  rw [List.map_cons, List.filter_map, hw]
  congr 2
  refine List.filter_congr fun q _ => ?_
  simp only [Function.comp, xcat_cv, xkeep]
theorem xst_mapL (ad : Int → Nat) (i : Nat) (x : Int64) (ls : List (Nat × xV)) : (i, Value.long x) :: (ls.map fun q => (q.1, xcv ad q.2)).filter (fun q => !(q.1 == i) && (!(q.1 == i + 1) && !(q.1 + 1 == i && q.2.category == 2))) = ((i, xL x) :: ls.filter (xkeepL i)).map fun q => (q.1, xcv ad q.2) := by
  rw [List.map_cons, List.filter_map]
  congr 2
  refine List.filter_congr fun q _ => ?_
  simp only [Function.comp, xcat_cv, xkeepL]
theorem xls1 {f : Nat × xV → Bool} {i : Nat} {v : xV} {ls : List (Nat × xV)} (hv : xvok v) (h : ∀ q ∈ ls, xvok q.2) : ∀ q ∈ (i, v) :: ls.filter f, xvok q.2 := fun q hq => by
  rcases List.mem_cons.mp hq with rfl | hq
  · exact hv
  · exact h q (List.mem_filter.mp hq).1
theorem xlk {ls : List (Nat × xV)} {k i : Nat} {v : xV} (ad : Int → Nat) (hl : ls[k]? = some (i, v)) : (ls.map fun q => (q.1, xcv ad q.2))[k]? = some (i, xcv ad v) := by
  rw [List.getElem?_map, hl]; rfl
theorem xlok {ls : List (Nat × xV)} {k i : Nat} {v : xV} (h : ∀ q ∈ ls, xvok q.2) (hl : ls[k]? = some (i, v)) : xvok v := h _ (List.mem_of_getElem? hl)
def xlushr (x : Int64) (y : Int) : Int64 := (x.toUInt64 >>> ((Int32.ofInt y).toInt64.toUInt64 &&& Int64.toUInt64 63)).toInt64
def xlshl (x : Int64) (y : Int) : Int64 := x <<< ((Int32.ofInt y).toInt64 &&& 63)
def xlshr (x : Int64) (y : Int) : Int64 := x >>> ((Int32.ofInt y).toInt64 &&& 63)
section
variable {M : xM} {md : Bool} {rc rs pc n : Nat} {ls ls' : List (Nat × xV)} {st : List xV} {h : xH} {Q : xQ}
theorem J_iload {i : Nat} {x : Int} (k0 : Nat) (hd : decode M.2.1 pc = .ok (.iload i, 2)) (hl : ls[k0]? = some (i, xI x)) (k : J M md rc rs (pc + 2) n ls (xI x :: st) h Q) : J M md rc rs pc n ls st h Q := by
  intro hl_ hs hr hg D cI cZ base ad p l e R s m args below meth c hC H locs cells slots Z lsm hRel hS hls hc hE
  exact lv_iload hC.1 hC.2.1 hd (lv_at hls k0 (xlk ad hl)) (k hl_ (xs1 (xlok hl_ hl) hs) hr hg D cI cZ base ad p l e R s m args below meth c hC H locs cells slots Z lsm hRel hS hls hc hE)
theorem J_iload_n {i : Nat} {kf : Fin 4} {x : Int} (k0 : Nat) (hd : decode M.2.1 pc = .ok (.iload_n kf, 1)) (hi : (kf : Nat) = i) (hl : ls[k0]? = some (i, xI x)) (k : J M md rc rs (pc + 1) n ls (xI x :: st) h Q) : J M md rc rs pc n ls st h Q := by
  intro hl_ hs hr hg D cI cZ base ad p l e R s m args below meth c hC H locs cells slots Z lsm hRel hS hls hc hE
  exact lv_iload_n hC.1 hC.2.1 hd hi (lv_at hls k0 (xlk ad hl)) (k hl_ (xs1 (xlok hl_ hl) hs) hr hg D cI cZ base ad p l e R s m args below meth c hC H locs cells slots Z lsm hRel hS hls hc hE)
theorem J_aload {i : Nat} {x : Int} (k0 : Nat) (hd : decode M.2.1 pc = .ok (.aload i, 2)) (hl : ls[k0]? = some (i, xR x)) (k : J M md rc rs (pc + 2) n ls (xR x :: st) h Q) : J M md rc rs pc n ls st h Q := by
  intro hl_ hs hr hg D cI cZ base ad p l e R s m args below meth c hC H locs cells slots Z lsm hRel hS hls hc hE
  exact lv_aload hC.1 hC.2.1 hd (lv_at hls k0 (xlk ad hl)) (k hl_ (xs1 (xlok hl_ hl) hs) hr hg D cI cZ base ad p l e R s m args below meth c hC H locs cells slots Z lsm hRel hS hls hc hE)
theorem J_aload_n {i : Nat} {kf : Fin 4} {x : Int} (k0 : Nat) (hd : decode M.2.1 pc = .ok (.aload_n kf, 1)) (hi : (kf : Nat) = i) (hl : ls[k0]? = some (i, xR x)) (k : J M md rc rs (pc + 1) n ls (xR x :: st) h Q) : J M md rc rs pc n ls st h Q := by
  intro hl_ hs hr hg D cI cZ base ad p l e R s m args below meth c hC H locs cells slots Z lsm hRel hS hls hc hE
  exact lv_aload_n hC.1 hC.2.1 hd hi (lv_at hls k0 (xlk ad hl)) (k hl_ (xs1 (xlok hl_ hl) hs) hr hg D cI cZ base ad p l e R s m args below meth c hC H locs cells slots Z lsm hRel hS hls hc hE)
theorem J_lload {i : Nat} {x : Int64} (k0 : Nat) (hd : decode M.2.1 pc = .ok (.lload i, 2)) (hl : ls[k0]? = some (i, xL x)) (k : J M md rc rs (pc + 2) n ls (xL x :: st) h Q) : J M md rc rs pc n ls st h Q := by
  intro hl_ hs hr hg D cI cZ base ad p l e R s m args below meth c hC H locs cells slots Z lsm hRel hS hls hc hE
  exact lv_lload hC.1 hC.2.1 hd (lv_at hls k0 (xlk ad hl)) (k hl_ (xs1 (xlok hl_ hl) hs) hr hg D cI cZ base ad p l e R s m args below meth c hC H locs cells slots Z lsm hRel hS hls hc hE)
theorem J_lload_n {i : Nat} {kf : Fin 4} {x : Int64} (k0 : Nat) (hd : decode M.2.1 pc = .ok (.lload_n kf, 1)) (hi : (kf : Nat) = i) (hl : ls[k0]? = some (i, xL x)) (k : J M md rc rs (pc + 1) n ls (xL x :: st) h Q) : J M md rc rs pc n ls st h Q := by
  intro hl_ hs hr hg D cI cZ base ad p l e R s m args below meth c hC H locs cells slots Z lsm hRel hS hls hc hE
  exact lv_lload_n hC.1 hC.2.1 hd hi (lv_at hls k0 (xlk ad hl)) (k hl_ (xs1 (xlok hl_ hl) hs) hr hg D cI cZ base ad p l e R s m args below meth c hC H locs cells slots Z lsm hRel hS hls hc hE)
theorem J_istore {i : Nat} {x y : Int} (hd : decode M.2.1 pc = .ok (.istore i, 2)) (hn : i < M.2.2.1) (hy : y = x) (hl : (i, xI y) :: ls.filter (xkeep i) = ls') (k : J M md rc rs (pc + 2) n ls' st h Q) : J M md rc rs pc n ls (xI x :: st) h Q := by
  intro hl_ hs hr hg D cI cZ base ad p l e R s m args below meth c hC H locs cells slots Z lsm hRel hS hls hc hE
  subst hy
  subst hl
  exact lv_istore hC.1 hC.2.1 hd hls hn (xst_map ad i _ (xI y) rfl ls) (fun ls2 hls2 => k (xls1 (xs0 hs) hl_) (xs2 hs) hr hg D cI cZ base ad p l e R s m args below meth c hC H locs cells slots Z ls2 hRel hS hls2 hc hE)
theorem J_istore_n {i : Nat} {kf : Fin 4} {x y : Int} (hd : decode M.2.1 pc = .ok (.istore_n kf, 1)) (hi : (kf : Nat) = i) (hn : i < M.2.2.1) (hy : y = x) (hl : (i, xI y) :: ls.filter (xkeep i) = ls') (k : J M md rc rs (pc + 1) n ls' st h Q) : J M md rc rs pc n ls (xI x :: st) h Q := by
  intro hl_ hs hr hg D cI cZ base ad p l e R s m args below meth c hC H locs cells slots Z lsm hRel hS hls hc hE
  subst hy
  subst hl
  exact lv_istore_n hC.1 hC.2.1 hd hi hls hn (xst_map ad i _ (xI y) rfl ls) (fun ls2 hls2 => k (xls1 (xs0 hs) hl_) (xs2 hs) hr hg D cI cZ base ad p l e R s m args below meth c hC H locs cells slots Z ls2 hRel hS hls2 hc hE)
theorem J_astore {i : Nat} {x y : Int} (hd : decode M.2.1 pc = .ok (.astore i, 2)) (hn : i < M.2.2.1) (hy : y = x) (hl : (i, xR y) :: ls.filter (xkeep i) = ls') (k : J M md rc rs (pc + 2) n ls' st h Q) : J M md rc rs pc n ls (xR x :: st) h Q := by
  intro hl_ hs hr hg D cI cZ base ad p l e R s m args below meth c hC H locs cells slots Z lsm hRel hS hls hc hE
  subst hy
  subst hl
  exact lv_astore hC.1 hC.2.1 hd hls hn (xst_map ad i _ (xR y) rfl ls) (fun ls2 hls2 => k (xls1 (xs0 hs) hl_) (xs2 hs) hr hg D cI cZ base ad p l e R s m args below meth c hC H locs cells slots Z ls2 hRel hS hls2 hc hE)
theorem J_astore_n {i : Nat} {kf : Fin 4} {x y : Int} (hd : decode M.2.1 pc = .ok (.astore_n kf, 1)) (hi : (kf : Nat) = i) (hn : i < M.2.2.1) (hy : y = x) (hl : (i, xR y) :: ls.filter (xkeep i) = ls') (k : J M md rc rs (pc + 1) n ls' st h Q) : J M md rc rs pc n ls (xR x :: st) h Q := by
  intro hl_ hs hr hg D cI cZ base ad p l e R s m args below meth c hC H locs cells slots Z lsm hRel hS hls hc hE
  subst hy
  subst hl
  exact lv_astore_n hC.1 hC.2.1 hd hi hls hn (xst_map ad i _ (xR y) rfl ls) (fun ls2 hls2 => k (xls1 (xs0 hs) hl_) (xs2 hs) hr hg D cI cZ base ad p l e R s m args below meth c hC H locs cells slots Z ls2 hRel hS hls2 hc hE)
theorem J_lstore {i : Nat} {x y : Int64} (hd : decode M.2.1 pc = .ok (.lstore i, 2)) (hn : i + 1 < M.2.2.1) (hy : y = x) (hl : (i, xL y) :: ls.filter (xkeepL i) = ls') (k : J M md rc rs (pc + 2) n ls' st h Q) : J M md rc rs pc n ls (xL x :: st) h Q := by
  intro hl_ hs hr hg D cI cZ base ad p l e R s m args below meth c hC H locs cells slots Z lsm hRel hS hls hc hE
  subst hy
  subst hl
  exact lv_lstore hC.1 hC.2.1 hd hls hn (xst_mapL ad i _ ls) (fun ls2 hls2 => k (xls1 (xs0 hs) hl_) (xs2 hs) hr hg D cI cZ base ad p l e R s m args below meth c hC H locs cells slots Z ls2 hRel hS hls2 hc hE)
theorem J_lstore_n {i : Nat} {kf : Fin 4} {x y : Int64} (hd : decode M.2.1 pc = .ok (.lstore_n kf, 1)) (hi : (kf : Nat) = i) (hn : i + 1 < M.2.2.1) (hy : y = x) (hl : (i, xL y) :: ls.filter (xkeepL i) = ls') (k : J M md rc rs (pc + 1) n ls' st h Q) : J M md rc rs pc n ls (xL x :: st) h Q := by
  intro hl_ hs hr hg D cI cZ base ad p l e R s m args below meth c hC H locs cells slots Z lsm hRel hS hls hc hE
  subst hy
  subst hl
  exact lv_lstore_n hC.1 hC.2.1 hd hi hls hn (xst_mapL ad i _ ls) (fun ls2 hls2 => k (xls1 (xs0 hs) hl_) (xs2 hs) hr hg D cI cZ base ad p l e R s m args below meth c hC H locs cells slots Z ls2 hRel hS hls2 hc hE)
theorem J_iinc {i : Nat} {d x y : Int} (k0 : Nat) (hd : decode M.2.1 pc = .ok (.iinc i d, 3)) (hl0 : ls[k0]? = some (i, xI x)) (hn : i < M.2.2.1) (hy : y = w32 (x + d)) (hl : (i, xI y) :: ls.filter (xkeep i) = ls') (k : J M md rc rs (pc + 3) n ls' st h Q) : J M md rc rs pc n ls st h Q := by
  intro hl_ hs hr hg D cI cZ base ad p l e R s m args below meth c hC H locs cells slots Z lsm hRel hS hls hc hE
  subst hy
  subst hl
  exact lv_iinc hC.1 hC.2.1 hd hls (xlk ad hl0) rfl hn (xst_map ad i _ (xI (w32 (x + d))) (by show Value.int _ = Value.int _; rw [w32_of, Int32.ofInt_add]) ls) (fun ls2 hls2 => k (xls1 (w32_ok _) hl_) hs hr hg D cI cZ base ad p l e R s m args below meth c hC H locs cells slots Z ls2 hRel hS hls2 hc hE)
/-- fewer places -/
theorem J_sub (is : List Nat) (hl : is.filterMap (fun i => ls[i]?) = ls') (k : J M md rc rs pc n ls' st h Q) : J M md rc rs pc n ls st h Q := by
  intro hl_ hs hr hg D cI cZ base ad p l e R s m args below meth c hC H locs cells slots Z lsm hRel hS hls hc hE
  subst hl
  refine k (fun q hq => ?_) hs hr hg D cI cZ base ad p l e R s m args below meth c hC H locs cells slots Z lsm hRel hS (lv_sub hls is ?_) hc hE
  · obtain ⟨i, -, hi⟩ := List.mem_filterMap.mp hq
    exact hl_ q (List.mem_of_getElem? hi)
  · unfold lv_pick
    rw [List.map_filterMap]
    simp only [List.getElem?_map]
/-- the same under other names -/
theorem J_cong {ls2 : List (Nat × xV)} {st2 : List xV} (e1 : ls = ls2) (e2 : st = st2) (k : J M md rc rs pc n ls2 st2 h Q) : J M md rc rs pc n ls st h Q := by
  subst e1; subst e2; exact k
theorem J_tswIn {dflt lo hi off : Int} {offs : Array Int} {len tgt : Nat} {x : Int} (hd : decode M.2.1 pc = .ok (.tableswitch dflt lo hi offs, len)) (v : Int) (hx : x = v) (h1 : lo ≤ v) (h2 : v ≤ hi) (ho : offs[(v - lo).toNat]? = some off) (ht : (pc : Int) + off = (tgt : Int)) (k : J M md rc rs tgt n ls st h Q) : J M md rc rs pc n ls (xI x :: st) h Q := by
  intro hl hs hr hg D cI cZ base ad p l e R s m args below meth c hC H locs cells slots Z lsm hRel hS hls hc hE
  have ex : (Int32.ofInt x).toInt = v := by rw [xti (xs0 hs), hx]
  exact lv_tableIn hC.1 hC.2.1 hd (by rw [ex]; omega) (by rw [ex]; omega) (by rw [ex]; exact ho) ht (k hl (xs2 hs) hr hg D cI cZ base ad p l e R s m args below meth c hC H locs cells slots Z lsm hRel hS hls hc hE)
theorem J_tswOut {dflt lo hi : Int} {offs : Array Int} {len tgt : Nat} {x : Int} (hd : decode M.2.1 pc = .ok (.tableswitch dflt lo hi offs, len)) (hx : x < lo ∨ hi < x) (ht : (pc : Int) + dflt = (tgt : Int)) (k : J M md rc rs tgt n ls st h Q) : J M md rc rs pc n ls (xI x :: st) h Q := by
  intro hl hs hr hg D cI cZ base ad p l e R s m args below meth c hC H locs cells slots Z lsm hRel hS hls hc hE
  have ex : (Int32.ofInt x).toInt = x := xti (xs0 hs)
  exact lv_tableOut hC.1 hC.2.1 hd (by rw [ex]; exact hx) ht (k hl (xs2 hs) hr hg D cI cZ base ad p l e R s m args below meth c hC H locs cells slots Z lsm hRel hS hls hc hE)
theorem J_iret {v : Int} (hd : decode M.2.1 pc = .ok (.ireturn, 1)) (ho : xrok M.2.2.2.1 (some v)) (hq : Q (some v) n h) : J M md 0 0 pc n ls [xI v] h Q := by
  intro hl hs hr hg D cI cZ base ad p l e R s m args below meth c hC H locs cells slots Z lsm hRel hS hls hc hE
  have e1 : cells = R.cells := hc.1
  have e2 : slots = R.slots := hc.2
  subst e1
  subst e2
  exact hE (some v) n h H locs pc lsm hq ho hr hg hRel hS hd
theorem J_ret (hd : decode M.2.1 pc = .ok (.return_, 1)) (ho : xrok M.2.2.2.1 none) (hq : Q none n h) : J M md 0 0 pc n ls [] h Q := by
  intro hl hs hr hg D cI cZ base ad p l e R s m args below meth c hC H locs cells slots Z lsm hRel hS hls hc hE
  have e1 : cells = R.cells := hc.1
  have e2 : slots = R.slots := hc.2
  subst e1
  subst e2
  exact hE none n h H locs pc lsm hq ho hr hg hRel hS hd
/-- longs -/
theorem J_ladd {x y : Int64} (hd : decode M.2.1 pc = .ok (.ladd, 1)) (k : J M md rc rs (pc + 1) n ls (xL (x + y) :: st) h Q) : J M md rc rs pc n ls (xL y :: xL x :: st) h Q :=
  J_op (fun _ => fun {_ _ _ _ _ _ _ _ _ _ _ _ _ _ _ _ _} hx hb _ _ k => lv_ladd hx hb hd k) (fun hs => xsL (xs2 (xs2 hs))) k
theorem J_lsub {x y : Int64} (hd : decode M.2.1 pc = .ok (.lsub, 1)) (k : J M md rc rs (pc + 1) n ls (xL (x - y) :: st) h Q) : J M md rc rs pc n ls (xL y :: xL x :: st) h Q :=
  J_op (fun _ => fun {_ _ _ _ _ _ _ _ _ _ _ _ _ _ _ _ _} hx hb _ _ k => lv_lsub hx hb hd k) (fun hs => xsL (xs2 (xs2 hs))) k
theorem J_lmul {x y : Int64} (hd : decode M.2.1 pc = .ok (.lmul, 1)) (k : J M md rc rs (pc + 1) n ls (xL (x * y) :: st) h Q) : J M md rc rs pc n ls (xL y :: xL x :: st) h Q :=
  J_op (fun _ => fun {_ _ _ _ _ _ _ _ _ _ _ _ _ _ _ _ _} hx hb _ _ k => lv_lmul hx hb hd k) (fun hs => xsL (xs2 (xs2 hs))) k
theorem J_land {x y : Int64} (hd : decode M.2.1 pc = .ok (.land, 1)) (k : J M md rc rs (pc + 1) n ls (xL (x &&& y) :: st) h Q) : J M md rc rs pc n ls (xL y :: xL x :: st) h Q :=
  J_op (fun _ => fun {_ _ _ _ _ _ _ _ _ _ _ _ _ _ _ _ _} hx hb _ _ k => lv_land hx hb hd k) (fun hs => xsL (xs2 (xs2 hs))) k
theorem J_lor {x y : Int64} (hd : decode M.2.1 pc = .ok (.lor, 1)) (k : J M md rc rs (pc + 1) n ls (xL (x ||| y) :: st) h Q) : J M md rc rs pc n ls (xL y :: xL x :: st) h Q :=
  J_op (fun _ => fun {_ _ _ _ _ _ _ _ _ _ _ _ _ _ _ _ _} hx hb _ _ k => lv_lor hx hb hd k) (fun hs => xsL (xs2 (xs2 hs))) k
theorem J_ldiv {x y : Int64} (hd : decode M.2.1 pc = .ok (.ldiv, 1)) (hy : ¬ y = 0) (k : J M md rc rs (pc + 1) n ls (xL (x / y) :: st) h Q) : J M md rc rs pc n ls (xL y :: xL x :: st) h Q :=
  J_op (fun _ => fun {_ _ _ _ _ _ _ _ _ _ _ _ _ _ _ _ _} hx hb _ _ k => lv_ldiv hx hb hd hy k) (fun hs => xsL (xs2 (xs2 hs))) k
theorem J_lrem {x y : Int64} (hd : decode M.2.1 pc = .ok (.lrem, 1)) (hy : ¬ y = 0) (k : J M md rc rs (pc + 1) n ls (xL (x - x / y * y) :: st) h Q) : J M md rc rs pc n ls (xL y :: xL x :: st) h Q :=
  J_op (fun _ => fun {_ _ _ _ _ _ _ _ _ _ _ _ _ _ _ _ _} hx hb _ _ k => lv_lrem hx hb hd hy k) (fun hs => xsL (xs2 (xs2 hs))) k
theorem J_lushr {x : Int64} {y : Int} (hd : decode M.2.1 pc = .ok (.lushr, 1)) (k : J M md rc rs (pc + 1) n ls (xL (xlushr x y) :: st) h Q) : J M md rc rs pc n ls (xI y :: xL x :: st) h Q :=
  J_op (fun _ => fun {_ _ _ _ _ _ _ _ _ _ _ _ _ _ _ _ _} hx hb _ _ k => lv_lushr hx hb hd rfl k) (fun hs => xsL (xs2 (xs2 hs))) k
theorem J_lshl {x : Int64} {y : Int} (hd : decode M.2.1 pc = .ok (.lshl, 1)) (k : J M md rc rs (pc + 1) n ls (xL (xlshl x y) :: st) h Q) : J M md rc rs pc n ls (xI y :: xL x :: st) h Q :=
  J_op (fun _ => fun {_ _ _ _ _ _ _ _ _ _ _ _ _ _ _ _ _} hx hb _ _ k => lv_lshl hx hb hd rfl k) (fun hs => xsL (xs2 (xs2 hs))) k
theorem J_lshr {x : Int64} {y : Int} (hd : decode M.2.1 pc = .ok (.lshr, 1)) (k : J M md rc rs (pc + 1) n ls (xL (xlshr x y) :: st) h Q) : J M md rc rs pc n ls (xI y :: xL x :: st) h Q :=
  J_op (fun _ => fun {_ _ _ _ _ _ _ _ _ _ _ _ _ _ _ _ _} hx hb _ _ k => lv_lshr hx hb hd rfl k) (fun hs => xsL (xs2 (xs2 hs))) k
end
