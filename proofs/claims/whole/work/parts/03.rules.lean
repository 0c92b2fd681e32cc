/-! ROWS OF THE QUIET MACHINE: constants, locals, stack, arithmetic, branches -/
/-- a number as the machine keeps it -/
def w32 (z : Int) : Int := (Int32.ofInt z).toInt
theorem w32_ok (z : Int) : xok (w32 z) := xokt _
theorem w32_of (z : Int) : Int32.ofInt (w32 z) = Int32.ofInt z := xoi _
theorem w32_id {z : Int} (h1 : -2147483648 ≤ z) (h2 : z ≤ 2147483647) : w32 z = z := xti ⟨h1, h2⟩
def xand (x y : Int) : Int := (Int32.ofInt x &&& Int32.ofInt y).toInt
def xdiv (x y : Int) : Int := (Int32.ofInt x / Int32.ofInt y).toInt
def xGo (M : xM) (pc : Nat) (st : List xV) (pc' : Nat) (st' : List xV) : Prop := (∀ v ∈ st, xvok v) → ∀ {p : Program} {l : Launch} {e : Env} {R : Room} {s : State} {m : MethodId} {args : Array Value} {below : List Frame} {meth : Method} {c : Code} {H : Heap} {locs : List Loc} {cells slots : Nat} {Z : State → Prop} {lsm : Array Slot} {ad : Int → Nat},
  p.tables.exec = Jvm.exec → c.code = M.2.1 → s.vm.findClass M.1 = some m.cls → (∀ w ∈ xtbl, w.before args s = true) →
  W p l e R s m args below meth c H locs cells slots Z (F0 m pc' lsm (st'.map (xcv ad))) → W p l e R s m args below meth c H locs cells slots Z (F0 m pc lsm (st.map (xcv ad)))
section
variable {p : Program} {l : Launch} {e : Env} {R : Room} {s : State} {m : MethodId} {args : Array Value} {below : List Frame} {meth : Method} {c : Code} {H : Heap} {locs : List Loc} {cells slots pc : Nat} {Z : State → Prop} {lsm : Array Slot} {cc : ByteArray}
theorem J_br_eq {x y off : Int} {tgt : Nat} {rest : List Value} (hx : xok x) (hy : xok y) (hexec : p.tables.exec = Jvm.exec) (hb : c.code = cc) (hd : decode cc pc = .ok (.if_icmp .eq off, 3)) (ht : (pc : Int) + off = (tgt : Int)) (kt : x = y → W p l e R s m args below meth c H locs cells slots Z (F0 m tgt lsm rest)) (kf : ¬ x = y → W p l e R s m args below meth c H locs cells slots Z (F0 m (pc + 3) lsm rest)) : W p l e R s m args below meth c H locs cells slots Z (F0 m pc lsm (.int (Int32.ofInt y) :: .int (Int32.ofInt x) :: rest)) :=
  lv_icmp_eq hexec hb hd ht (fun q => kt ((xeq hx hy).mp q)) (fun q => kf (fun z => q ((xeq hx hy).mpr z)))
theorem J_bz_eq {x off : Int} {tgt : Nat} {rest : List Value} (hx : xok x) (hexec : p.tables.exec = Jvm.exec) (hb : c.code = cc) (hd : decode cc pc = .ok (.ifCond .eq off, 3)) (ht : (pc : Int) + off = (tgt : Int)) (kt : x = 0 → W p l e R s m args below meth c H locs cells slots Z (F0 m tgt lsm rest)) (kf : ¬ x = 0 → W p l e R s m args below meth c H locs cells slots Z (F0 m (pc + 3) lsm rest)) : W p l e R s m args below meth c H locs cells slots Z (F0 m pc lsm (.int (Int32.ofInt x) :: rest)) :=
  lv_if_eq hexec hb hd ht (fun q => kt ((xeq hx xok0).mp q)) (fun q => kf (fun z => q ((xeq hx xok0).mpr z)))
theorem J_br_ne {x y off : Int} {tgt : Nat} {rest : List Value} (hx : xok x) (hy : xok y) (hexec : p.tables.exec = Jvm.exec) (hb : c.code = cc) (hd : decode cc pc = .ok (.if_icmp .ne off, 3)) (ht : (pc : Int) + off = (tgt : Int)) (kt : x = y → W p l e R s m args below meth c H locs cells slots Z (F0 m (pc + 3) lsm rest)) (kf : ¬ x = y → W p l e R s m args below meth c H locs cells slots Z (F0 m tgt lsm rest)) : W p l e R s m args below meth c H locs cells slots Z (F0 m pc lsm (.int (Int32.ofInt y) :: .int (Int32.ofInt x) :: rest)) :=
  lv_icmp_ne hexec hb hd ht (fun q => kf (fun z => q ((xeq hx hy).mpr z))) (fun q => kt ((xeq hx hy).mp q))
theorem J_bz_ne {x off : Int} {tgt : Nat} {rest : List Value} (hx : xok x) (hexec : p.tables.exec = Jvm.exec) (hb : c.code = cc) (hd : decode cc pc = .ok (.ifCond .ne off, 3)) (ht : (pc : Int) + off = (tgt : Int)) (kt : x = 0 → W p l e R s m args below meth c H locs cells slots Z (F0 m (pc + 3) lsm rest)) (kf : ¬ x = 0 → W p l e R s m args below meth c H locs cells slots Z (F0 m tgt lsm rest)) : W p l e R s m args below meth c H locs cells slots Z (F0 m pc lsm (.int (Int32.ofInt x) :: rest)) :=
  lv_if_ne hexec hb hd ht (fun q => kf (fun z => q ((xeq hx xok0).mpr z))) (fun q => kt ((xeq hx xok0).mp q))
theorem J_br_lt {x y off : Int} {tgt : Nat} {rest : List Value} (hx : xok x) (hy : xok y) (hexec : p.tables.exec = Jvm.exec) (hb : c.code = cc) (hd : decode cc pc = .ok (.if_icmp .lt off, 3)) (ht : (pc : Int) + off = (tgt : Int)) (kt : x < y → W p l e R s m args below meth c H locs cells slots Z (F0 m tgt lsm rest)) (kf : ¬ x < y → W p l e R s m args below meth c H locs cells slots Z (F0 m (pc + 3) lsm rest)) : W p l e R s m args below meth c H locs cells slots Z (F0 m pc lsm (.int (Int32.ofInt y) :: .int (Int32.ofInt x) :: rest)) :=
  lv_icmp_lt hexec hb hd ht (fun q => kt ((xlt hx hy).mp q)) (fun q => kf (fun z => q ((xlt hx hy).mpr z)))
theorem J_bz_lt {x off : Int} {tgt : Nat} {rest : List Value} (hx : xok x) (hexec : p.tables.exec = Jvm.exec) (hb : c.code = cc) (hd : decode cc pc = .ok (.ifCond .lt off, 3)) (ht : (pc : Int) + off = (tgt : Int)) (kt : x < 0 → W p l e R s m args below meth c H locs cells slots Z (F0 m tgt lsm rest)) (kf : ¬ x < 0 → W p l e R s m args below meth c H locs cells slots Z (F0 m (pc + 3) lsm rest)) : W p l e R s m args below meth c H locs cells slots Z (F0 m pc lsm (.int (Int32.ofInt x) :: rest)) :=
  lv_if_lt hexec hb hd ht (fun q => kt ((xlt hx xok0).mp q)) (fun q => kf (fun z => q ((xlt hx xok0).mpr z)))
theorem J_br_ge {x y off : Int} {tgt : Nat} {rest : List Value} (hx : xok x) (hy : xok y) (hexec : p.tables.exec = Jvm.exec) (hb : c.code = cc) (hd : decode cc pc = .ok (.if_icmp .ge off, 3)) (ht : (pc : Int) + off = (tgt : Int)) (kt : x < y → W p l e R s m args below meth c H locs cells slots Z (F0 m (pc + 3) lsm rest)) (kf : ¬ x < y → W p l e R s m args below meth c H locs cells slots Z (F0 m tgt lsm rest)) : W p l e R s m args below meth c H locs cells slots Z (F0 m pc lsm (.int (Int32.ofInt y) :: .int (Int32.ofInt x) :: rest)) :=
  lv_icmp_ge hexec hb hd ht (fun q => kf (fun z => absurd ((xlt hx hy).mpr z) (Int32.not_lt.mpr q))) (fun q => kt ((xlt hx hy).mp (Int32.not_le.mp q)))
theorem J_bz_ge {x off : Int} {tgt : Nat} {rest : List Value} (hx : xok x) (hexec : p.tables.exec = Jvm.exec) (hb : c.code = cc) (hd : decode cc pc = .ok (.ifCond .ge off, 3)) (ht : (pc : Int) + off = (tgt : Int)) (kt : x < 0 → W p l e R s m args below meth c H locs cells slots Z (F0 m (pc + 3) lsm rest)) (kf : ¬ x < 0 → W p l e R s m args below meth c H locs cells slots Z (F0 m tgt lsm rest)) : W p l e R s m args below meth c H locs cells slots Z (F0 m pc lsm (.int (Int32.ofInt x) :: rest)) :=
  lv_if_ge hexec hb hd ht (fun q => kf (fun z => absurd ((xlt hx xok0).mpr z) (Int32.not_lt.mpr q))) (fun q => kt ((xlt hx xok0).mp (Int32.not_le.mp q)))
theorem J_br_gt {x y off : Int} {tgt : Nat} {rest : List Value} (hx : xok x) (hy : xok y) (hexec : p.tables.exec = Jvm.exec) (hb : c.code = cc) (hd : decode cc pc = .ok (.if_icmp .gt off, 3)) (ht : (pc : Int) + off = (tgt : Int)) (kt : y < x → W p l e R s m args below meth c H locs cells slots Z (F0 m tgt lsm rest)) (kf : ¬ y < x → W p l e R s m args below meth c H locs cells slots Z (F0 m (pc + 3) lsm rest)) : W p l e R s m args below meth c H locs cells slots Z (F0 m pc lsm (.int (Int32.ofInt y) :: .int (Int32.ofInt x) :: rest)) :=
  lv_icmp_gt hexec hb hd ht (fun q => kt ((xlt hy hx).mp q)) (fun q => kf (fun z => q ((xlt hy hx).mpr z)))
theorem J_bz_gt {x off : Int} {tgt : Nat} {rest : List Value} (hx : xok x) (hexec : p.tables.exec = Jvm.exec) (hb : c.code = cc) (hd : decode cc pc = .ok (.ifCond .gt off, 3)) (ht : (pc : Int) + off = (tgt : Int)) (kt : 0 < x → W p l e R s m args below meth c H locs cells slots Z (F0 m tgt lsm rest)) (kf : ¬ 0 < x → W p l e R s m args below meth c H locs cells slots Z (F0 m (pc + 3) lsm rest)) : W p l e R s m args below meth c H locs cells slots Z (F0 m pc lsm (.int (Int32.ofInt x) :: rest)) :=
  lv_if_gt hexec hb hd ht (fun q => kt ((xlt xok0 hx).mp q)) (fun q => kf (fun z => q ((xlt xok0 hx).mpr z)))
theorem J_br_le {x y off : Int} {tgt : Nat} {rest : List Value} (hx : xok x) (hy : xok y) (hexec : p.tables.exec = Jvm.exec) (hb : c.code = cc) (hd : decode cc pc = .ok (.if_icmp .le off, 3)) (ht : (pc : Int) + off = (tgt : Int)) (kt : y < x → W p l e R s m args below meth c H locs cells slots Z (F0 m (pc + 3) lsm rest)) (kf : ¬ y < x → W p l e R s m args below meth c H locs cells slots Z (F0 m tgt lsm rest)) : W p l e R s m args below meth c H locs cells slots Z (F0 m pc lsm (.int (Int32.ofInt y) :: .int (Int32.ofInt x) :: rest)) :=
  lv_icmp_le hexec hb hd ht (fun q => kf (fun z => absurd ((xlt hy hx).mpr z) (Int32.not_lt.mpr q))) (fun q => kt ((xlt hy hx).mp (Int32.not_le.mp q)))
theorem J_bz_le {x off : Int} {tgt : Nat} {rest : List Value} (hx : xok x) (hexec : p.tables.exec = Jvm.exec) (hb : c.code = cc) (hd : decode cc pc = .ok (.ifCond .le off, 3)) (ht : (pc : Int) + off = (tgt : Int)) (kt : 0 < x → W p l e R s m args below meth c H locs cells slots Z (F0 m (pc + 3) lsm rest)) (kf : ¬ 0 < x → W p l e R s m args below meth c H locs cells slots Z (F0 m tgt lsm rest)) : W p l e R s m args below meth c H locs cells slots Z (F0 m pc lsm (.int (Int32.ofInt x) :: rest)) :=
  lv_if_le hexec hb hd ht (fun q => kf (fun z => absurd ((xlt xok0 hx).mpr z) (Int32.not_lt.mpr q))) (fun q => kt ((xlt xok0 hx).mp (Int32.not_le.mp q)))
end
section
variable {M : xM} {md : Bool} {rc rs pc n : Nat} {ls : List (Nat × xV)} {st : List xV} {h : xH} {Q : xQ}
theorem J_op {pc' : Nat} {st' : List xV} (hw : xGo M pc st pc' st') (hst : (∀ v ∈ st, xvok v) → ∀ v ∈ st', xvok v) (k : J M md rc rs pc' n ls st' h Q) : J M md rc rs pc n ls st h Q := by
  intro hl hs hr hg D cI cZ base ad p l e R s m args below meth c hC H locs cells slots Z lsm hRel hS hls hc hE
  exact hw hs hC.1 hC.2.1 hC.2.2.2.1 hC.2.2.2.2.1 (k hl (hst hs) hr hg D cI cZ base ad p l e R s m args below meth c hC H locs cells slots Z lsm hRel hS hls hc hE)
theorem xs1 {v : xV} {st : List xV} (hv : xvok v) (h : ∀ q ∈ st, xvok q) : ∀ q ∈ v :: st, xvok q := fun q hq => by
  rcases List.mem_cons.mp hq with rfl | hq
  · exact hv
  · exact h q hq
theorem xsI {x : Int} {st : List xV} (hv : xok x) (h : ∀ q ∈ st, xvok q) : ∀ q ∈ xI x :: st, xvok q := xs1 hv h
theorem xsL {x : Int64} {st : List xV} (h : ∀ q ∈ st, xvok q) : ∀ q ∈ xL x :: st, xvok q := xs1 trivial h
theorem xsF {x : UInt32} {st : List xV} (h : ∀ q ∈ st, xvok q) : ∀ q ∈ xF x :: st, xvok q := xs1 trivial h
theorem xsR {x : Int} {st : List xV} (h : ∀ q ∈ st, xvok q) : ∀ q ∈ xR x :: st, xvok q := xs1 trivial h
theorem xs2 {v : xV} {st : List xV} (h : ∀ q ∈ v :: st, xvok q) : ∀ q ∈ st, xvok q := fun q hq => h q (List.mem_cons_of_mem _ hq)
theorem xs0 {v : xV} {st : List xV} (h : ∀ q ∈ v :: st, xvok q) : xvok v := h _ List.mem_cons_self
theorem J_iconst {v : Int} (hd : decode M.2.1 pc = .ok (.iconst v, 1)) (hv : xok v) (k : J M md rc rs (pc + 1) n ls (xI v :: st) h Q) : J M md rc rs pc n ls st h Q :=
  J_op (fun _ => fun hx hb _ _ k => lv_iconst hx hb hd rfl k) (fun hs => xsI hv hs) k
theorem J_bip {v : Int} (hd : decode M.2.1 pc = .ok (.bipush v, 2)) (hv : (Int8.ofInt v).toInt32 = Int32.ofInt v ∧ xok v) (k : J M md rc rs (pc + 2) n ls (xI v :: st) h Q) : J M md rc rs pc n ls st h Q :=
  J_op (fun _ => fun hx hb _ _ k => lv_bipush hx hb hd hv.1 k) (fun hs => xsI hv.2 hs) k
theorem J_sip {v : Int} (hd : decode M.2.1 pc = .ok (.sipush v, 3)) (hv : (Int16.ofInt v).toInt32 = Int32.ofInt v ∧ xok v) (k : J M md rc rs (pc + 3) n ls (xI v :: st) h Q) : J M md rc rs pc n ls st h Q :=
  J_op (fun _ => fun hx hb _ _ k => lv_sipush hx hb hd hv.1 k) (fun hs => xsI hv.2 hs) k
theorem J_lconst {k0 : Fin 2} {v : Int64} (hd : decode M.2.1 pc = .ok (.lconst k0, 1)) (hv : Int64.ofNat (k0 : Nat) = v) (k : J M md rc rs (pc + 1) n ls (xL v :: st) h Q) : J M md rc rs pc n ls st h Q :=
  J_op (fun _ => fun hx hb _ _ k => lv_lconst hx hb hd hv k) (fun hs => xsL hs) k
theorem J_ldc {i : Nat} {v : Int} (hd : decode M.2.1 pc = .ok (.ldc i, 2)) (hw : Cond.constant M.1 i (Int32.ofInt v) ∈ xtbl) (hv : xok v) (k : J M md rc rs (pc + 2) n ls (xI v :: st) h Q) : J M md rc rs pc n ls st h Q :=
  J_op (fun _ => fun hx hb ho ht k => lv_ldc hx hb ho (ht _ hw) hd k) (fun hs => xsI hv hs) k
theorem J_ldcw {i : Nat} {v : Int} (hd : decode M.2.1 pc = .ok (.ldc_w i, 3)) (hw : Cond.constant M.1 i (Int32.ofInt v) ∈ xtbl) (hv : xok v) (k : J M md rc rs (pc + 3) n ls (xI v :: st) h Q) : J M md rc rs pc n ls st h Q :=
  J_op (fun _ => fun hx hb ho ht k => lv_ldcw hx hb ho (ht _ hw) hd k) (fun hs => xsI hv hs) k
theorem J_ldc2 {i : Nat} {v : Int64} (hd : decode M.2.1 pc = .ok (.ldc2_w i, 3)) (hw : Cond.constantLong M.1 i v ∈ xtbl) (k : J M md rc rs (pc + 3) n ls (xL v :: st) h Q) : J M md rc rs pc n ls st h Q :=
  J_op (fun _ => fun hx hb ho ht k => lv_ldc2 hx hb ho (ht _ hw) hd k) (fun hs => xsL hs) k
theorem J_ldcf {i : Nat} {v : UInt32} (hd : decode M.2.1 pc = .ok (.ldc i, 2)) (hw : Cond.constantFloat M.1 i v ∈ xtbl) (k : J M md rc rs (pc + 2) n ls (xF v :: st) h Q) : J M md rc rs pc n ls st h Q :=
  J_op (fun _ => fun hx hb ho ht k => lv_ldcf hx hb ho (ht _ hw) hd k) (fun hs => xsF hs) k
theorem J_dup {v : xV} (hd : decode M.2.1 pc = .ok (.dup, 1)) (hc : xcat v = 1) (k : J M md rc rs (pc + 1) n ls (v :: v :: st) h Q) : J M md rc rs pc n ls (v :: st) h Q :=
  J_op (fun _ => fun hx hb _ _ k => lv_dup hx hb hd (by rw [xcat_cv]; exact hc) k) (fun hs => xs1 (xs0 hs) hs) k
theorem J_pop {v : xV} (hd : decode M.2.1 pc = .ok (.pop, 1)) (hc : xcat v = 1) (k : J M md rc rs (pc + 1) n ls st h Q) : J M md rc rs pc n ls (v :: st) h Q :=
  J_op (fun _ => fun hx hb _ _ k => lv_pop hx hb hd (by rw [xcat_cv]; exact hc) k) (fun hs => xs2 hs) k
theorem J_dupx1 {v w : xV} (hd : decode M.2.1 pc = .ok (.dup_x1, 1)) (hc : xcat v = 1) (hc2 : xcat w = 1) (k : J M md rc rs (pc + 1) n ls (v :: w :: v :: st) h Q) : J M md rc rs pc n ls (v :: w :: st) h Q :=
  J_op (fun _ => fun hx hb _ _ k => lv_dup_x1 hx hb hd (by rw [xcat_cv]; exact hc) (by rw [xcat_cv]; exact hc2) k) (fun hs => xs1 (xs0 hs) (xs1 (xs0 (xs2 hs)) (xs1 (xs0 hs) (xs2 (xs2 hs))))) k
theorem J_dup2 {v w : xV} (hd : decode M.2.1 pc = .ok (.dup2, 1)) (hc : xcat v = 1) (hc2 : xcat w = 1) (k : J M md rc rs (pc + 1) n ls (v :: w :: v :: w :: st) h Q) : J M md rc rs pc n ls (v :: w :: st) h Q :=
  J_op (fun _ => fun hx hb _ _ k => lv_dup2_11 hx hb hd (by rw [xcat_cv]; exact hc) (by rw [xcat_cv]; exact hc2) k) (fun hs => xs1 (xs0 hs) (xs1 (xs0 (xs2 hs)) hs)) k
theorem J_goto {off : Int} {tgt : Nat} (hd : decode M.2.1 pc = .ok (.goto off, 3)) (ht : (pc : Int) + off = (tgt : Int)) (k : J M md rc rs tgt n ls st h Q) : J M md rc rs pc n ls st h Q :=
  J_op (fun _ => fun hx hb _ _ k => lv_goto hx hb hd ht k) (fun hs => hs) k
theorem xw2 {a b : Int32} {z : Int} (e : a = Int32.ofInt z) (h : Int32.ofInt (w32 z) = b) : a = b := by rw [e, ← h, w32_of]
theorem J_iadd {x y : Int} (hd : decode M.2.1 pc = .ok (.iadd, 1)) (k : J M md rc rs (pc + 1) n ls (xI (w32 (x + y)) :: st) h Q) : J M md rc rs pc n ls (xI y :: xI x :: st) h Q :=
  J_op (fun _ => fun {_ _ _ _ _ _ _ _ _ _ _ _ _ _ _ _ _} hx hb _ _ k => lv_iadd hx hb hd (by rw [← Int32.ofInt_add, ← w32_of]; exact k)) (fun hs => xsI (w32_ok _) (xs2 (xs2 hs))) k
theorem J_isub {x y : Int} (hd : decode M.2.1 pc = .ok (.isub, 1)) (k : J M md rc rs (pc + 1) n ls (xI (w32 (x - y)) :: st) h Q) : J M md rc rs pc n ls (xI y :: xI x :: st) h Q :=
  J_op (fun _ => fun {_ _ _ _ _ _ _ _ _ _ _ _ _ _ _ _ _} hx hb _ _ k => lv_isub hx hb hd (by rw [← Int32.ofInt_sub, ← w32_of]; exact k)) (fun hs => xsI (w32_ok _) (xs2 (xs2 hs))) k
theorem J_imul {x y : Int} (hd : decode M.2.1 pc = .ok (.imul, 1)) (k : J M md rc rs (pc + 1) n ls (xI (w32 (x * y)) :: st) h Q) : J M md rc rs pc n ls (xI y :: xI x :: st) h Q :=
  J_op (fun _ => fun {_ _ _ _ _ _ _ _ _ _ _ _ _ _ _ _ _} hx hb _ _ k => lv_imul hx hb hd (by rw [← Int32.ofInt_mul, ← w32_of]; exact k)) (fun hs => xsI (w32_ok _) (xs2 (xs2 hs))) k
theorem J_iand {x y : Int} (hd : decode M.2.1 pc = .ok (.iand, 1)) (k : J M md rc rs (pc + 1) n ls (xI (xand x y) :: st) h Q) : J M md rc rs pc n ls (xI y :: xI x :: st) h Q :=
  J_op (fun _ => fun {_ _ _ _ _ _ _ _ _ _ _ _ _ _ _ _ _} hx hb _ _ k => lv_iand hx hb hd (by rw [← xoi (_ &&& _)]; exact k)) (fun hs => xsI (xokt _) (xs2 (xs2 hs))) k
theorem J_idiv {x y : Int} (hd : decode M.2.1 pc = .ok (.idiv, 1)) (hy : y ≠ 0) (k : J M md rc rs (pc + 1) n ls (xI (xdiv x y) :: st) h Q) : J M md rc rs pc n ls (xI y :: xI x :: st) h Q :=
  J_op (fun hs => fun {_ _ _ _ _ _ _ _ _ _ _ _ _ _ _ _ _} hx hb _ _ k => lv_idiv hx hb hd (fun e => hy ((xeq (xs0 hs) xok0).mp (e.trans xz0))) (by rw [← xoi (_ / _)]; exact k)) (fun hs => xsI (xokt _) (xs2 (xs2 hs))) k
theorem J_i2l {x : Int} (hd : decode M.2.1 pc = .ok (.i2l, 1)) (k : J M md rc rs (pc + 1) n ls (xL (Int32.ofInt x).toInt64 :: st) h Q) : J M md rc rs pc n ls (xI x :: st) h Q :=
  J_op (fun _ => fun {_ _ _ _ _ _ _ _ _ _ _ _ _ _ _ _ _} hx hb _ _ k => lv_i2l hx hb hd rfl k) (fun hs => xsL (xs2 hs)) k
theorem J_l2i {x : Int64} (hd : decode M.2.1 pc = .ok (.l2i, 1)) (k : J M md rc rs (pc + 1) n ls (xI x.toInt32.toInt :: st) h Q) : J M md rc rs pc n ls (xL x :: st) h Q :=
  J_op (fun _ => fun {_ _ _ _ _ _ _ _ _ _ _ _ _ _ _ _ _} hx hb _ _ k => lv_l2i hx hb hd rfl (by rw [← xoi x.toInt32]; exact k)) (fun hs => xsI (xokt _) (xs2 hs)) k
theorem J_i2f {x : Int} (hd : decode M.2.1 pc = .ok (.i2f, 1)) (k : J M md rc rs (pc + 1) n ls (xF (FP.i2f (Int32.ofInt x)) :: st) h Q) : J M md rc rs pc n ls (xI x :: st) h Q :=
  J_op (fun _ => fun {_ _ _ _ _ _ _ _ _ _ _ _ _ _ _ _ _} hx hb _ _ k => lv_i2f hx hb hd k) (fun hs => xsF (xs2 hs)) k
theorem J_f2i {x : UInt32} (hd : decode M.2.1 pc = .ok (.f2i, 1)) (k : J M md rc rs (pc + 1) n ls (xI (FP.f2i x).toInt :: st) h Q) : J M md rc rs pc n ls (xF x :: st) h Q :=
  J_op (fun _ => fun {_ _ _ _ _ _ _ _ _ _ _ _ _ _ _ _ _} hx hb _ _ k => lv_f2i hx hb hd (by rw [← xoi (FP.f2i x)]; exact k)) (fun hs => xsI (xokt _) (xs2 hs)) k
theorem J_fdiv {x y : UInt32} (hd : decode M.2.1 pc = .ok (.fdiv, 1)) (hne : vf_n32 (FP.fdiv x y)) (k : J M md rc rs (pc + 1) n ls (xF (FP.fdiv x y) :: st) h Q) : J M md rc rs pc n ls (xF y :: xF x :: st) h Q :=
  J_op (fun _ => fun {_ _ _ _ _ _ _ _ _ _ _ _ _ _ _ _ _} hx hb _ _ k => lv_fdiv hx hb hd hne k) (fun hs => xsF (xs2 (xs2 hs))) k
theorem J_fmul {x y : UInt32} (hd : decode M.2.1 pc = .ok (.fmul, 1)) (hne : vf_n32 (FP.fmul x y)) (k : J M md rc rs (pc + 1) n ls (xF (FP.fmul x y) :: st) h Q) : J M md rc rs pc n ls (xF y :: xF x :: st) h Q :=
  J_op (fun _ => fun {_ _ _ _ _ _ _ _ _ _ _ _ _ _ _ _ _} hx hb _ _ k => lv_fmul hx hb hd hne k) (fun hs => xsF (xs2 (xs2 hs))) k
theorem J_by {c : Prop} (kt : c → J M md rc rs pc n ls st h Q) (kf : ¬ c → J M md rc rs pc n ls st h Q) : J M md rc rs pc n ls st h Q := by
  by_cases hc : c
  · exact kt hc
  · exact kf hc
theorem J_ic_eq {x y off : Int} {tgt : Nat} (hd : decode M.2.1 pc = .ok (.if_icmp .eq off, 3)) (ht : (pc : Int) + off = (tgt : Int)) (kt : x = y → J M md rc rs tgt n ls st h Q) (kf : ¬ x = y → J M md rc rs (pc + 3) n ls st h Q) : J M md rc rs pc n ls (xI y :: xI x :: st) h Q := by
  intro hl hs hr hg D cI cZ base ad p l e R s m args below meth c hC H locs cells slots Z lsm hRel hS hls hc hE
  have hy : xok y := xs0 hs
  have hx : xok x := xs0 (xs2 hs)
  have kt := fun q => kt q hl (xs2 (xs2 hs)) hr hg D cI cZ base ad p l e R s m args below meth c hC H locs cells slots Z lsm hRel hS hls hc hE
  have kf := fun q => kf q hl (xs2 (xs2 hs)) hr hg D cI cZ base ad p l e R s m args below meth c hC H locs cells slots Z lsm hRel hS hls hc hE
  exact J_br_eq hx hy hC.1 hC.2.1 hd ht kt kf
theorem J_ic_ne {x y off : Int} {tgt : Nat} (hd : decode M.2.1 pc = .ok (.if_icmp .ne off, 3)) (ht : (pc : Int) + off = (tgt : Int)) (kt : x = y → J M md rc rs (pc + 3) n ls st h Q) (kf : ¬ x = y → J M md rc rs tgt n ls st h Q) : J M md rc rs pc n ls (xI y :: xI x :: st) h Q := by
  intro hl hs hr hg D cI cZ base ad p l e R s m args below meth c hC H locs cells slots Z lsm hRel hS hls hc hE
  have hy : xok y := xs0 hs
  have hx : xok x := xs0 (xs2 hs)
  have kt := fun q => kt q hl (xs2 (xs2 hs)) hr hg D cI cZ base ad p l e R s m args below meth c hC H locs cells slots Z lsm hRel hS hls hc hE
  have kf := fun q => kf q hl (xs2 (xs2 hs)) hr hg D cI cZ base ad p l e R s m args below meth c hC H locs cells slots Z lsm hRel hS hls hc hE
  exact J_br_ne hx hy hC.1 hC.2.1 hd ht kt kf
theorem J_ic_lt {x y off : Int} {tgt : Nat} (hd : decode M.2.1 pc = .ok (.if_icmp .lt off, 3)) (ht : (pc : Int) + off = (tgt : Int)) (kt : x < y → J M md rc rs tgt n ls st h Q) (kf : ¬ x < y → J M md rc rs (pc + 3) n ls st h Q) : J M md rc rs pc n ls (xI y :: xI x :: st) h Q := by
  intro hl hs hr hg D cI cZ base ad p l e R s m args below meth c hC H locs cells slots Z lsm hRel hS hls hc hE
  have hy : xok y := xs0 hs
  have hx : xok x := xs0 (xs2 hs)
  have kt := fun q => kt q hl (xs2 (xs2 hs)) hr hg D cI cZ base ad p l e R s m args below meth c hC H locs cells slots Z lsm hRel hS hls hc hE
  have kf := fun q => kf q hl (xs2 (xs2 hs)) hr hg D cI cZ base ad p l e R s m args below meth c hC H locs cells slots Z lsm hRel hS hls hc hE
  exact J_br_lt hx hy hC.1 hC.2.1 hd ht kt kf
theorem J_ic_ge {x y off : Int} {tgt : Nat} (hd : decode M.2.1 pc = .ok (.if_icmp .ge off, 3)) (ht : (pc : Int) + off = (tgt : Int)) (kt : x < y → J M md rc rs (pc + 3) n ls st h Q) (kf : ¬ x < y → J M md rc rs tgt n ls st h Q) : J M md rc rs pc n ls (xI y :: xI x :: st) h Q := by
  intro hl hs hr hg D cI cZ base ad p l e R s m args below meth c hC H locs cells slots Z lsm hRel hS hls hc hE
  have hy : xok y := xs0 hs
  have hx : xok x := xs0 (xs2 hs)
  have kt := fun q => kt q hl (xs2 (xs2 hs)) hr hg D cI cZ base ad p l e R s m args below meth c hC H locs cells slots Z lsm hRel hS hls hc hE
  have kf := fun q => kf q hl (xs2 (xs2 hs)) hr hg D cI cZ base ad p l e R s m args below meth c hC H locs cells slots Z lsm hRel hS hls hc hE
  exact J_br_ge hx hy hC.1 hC.2.1 hd ht kt kf
theorem J_ic_gt {x y off : Int} {tgt : Nat} (hd : decode M.2.1 pc = .ok (.if_icmp .gt off, 3)) (ht : (pc : Int) + off = (tgt : Int)) (kt : y < x → J M md rc rs tgt n ls st h Q) (kf : ¬ y < x → J M md rc rs (pc + 3) n ls st h Q) : J M md rc rs pc n ls (xI y :: xI x :: st) h Q := by
  intro hl hs hr hg D cI cZ base ad p l e R s m args below meth c hC H locs cells slots Z lsm hRel hS hls hc hE
  have hy : xok y := xs0 hs
  have hx : xok x := xs0 (xs2 hs)
  have kt := fun q => kt q hl (xs2 (xs2 hs)) hr hg D cI cZ base ad p l e R s m args below meth c hC H locs cells slots Z lsm hRel hS hls hc hE
  have kf := fun q => kf q hl (xs2 (xs2 hs)) hr hg D cI cZ base ad p l e R s m args below meth c hC H locs cells slots Z lsm hRel hS hls hc hE
  exact J_br_gt hx hy hC.1 hC.2.1 hd ht kt kf
theorem J_ic_le {x y off : Int} {tgt : Nat} (hd : decode M.2.1 pc = .ok (.if_icmp .le off, 3)) (ht : (pc : Int) + off = (tgt : Int)) (kt : y < x → J M md rc rs (pc + 3) n ls st h Q) (kf : ¬ y < x → J M md rc rs tgt n ls st h Q) : J M md rc rs pc n ls (xI y :: xI x :: st) h Q := by
  intro hl hs hr hg D cI cZ base ad p l e R s m args below meth c hC H locs cells slots Z lsm hRel hS hls hc hE
  have hy : xok y := xs0 hs
  have hx : xok x := xs0 (xs2 hs)
  have kt := fun q => kt q hl (xs2 (xs2 hs)) hr hg D cI cZ base ad p l e R s m args below meth c hC H locs cells slots Z lsm hRel hS hls hc hE
  have kf := fun q => kf q hl (xs2 (xs2 hs)) hr hg D cI cZ base ad p l e R s m args below meth c hC H locs cells slots Z lsm hRel hS hls hc hE
  exact J_br_le hx hy hC.1 hC.2.1 hd ht kt kf
theorem J_if_eq {x off : Int} {tgt : Nat} (hd : decode M.2.1 pc = .ok (.ifCond .eq off, 3)) (ht : (pc : Int) + off = (tgt : Int)) (kt : x = 0 → J M md rc rs tgt n ls st h Q) (kf : ¬ x = 0 → J M md rc rs (pc + 3) n ls st h Q) : J M md rc rs pc n ls (xI x :: st) h Q := by
  intro hl hs hr hg D cI cZ base ad p l e R s m args below meth c hC H locs cells slots Z lsm hRel hS hls hc hE
  have hx : xok x := xs0 hs
  have kt := fun q => kt q hl (xs2 hs) hr hg D cI cZ base ad p l e R s m args below meth c hC H locs cells slots Z lsm hRel hS hls hc hE
  have kf := fun q => kf q hl (xs2 hs) hr hg D cI cZ base ad p l e R s m args below meth c hC H locs cells slots Z lsm hRel hS hls hc hE
  exact J_bz_eq hx hC.1 hC.2.1 hd ht kt kf
theorem J_if_ne {x off : Int} {tgt : Nat} (hd : decode M.2.1 pc = .ok (.ifCond .ne off, 3)) (ht : (pc : Int) + off = (tgt : Int)) (kt : x = 0 → J M md rc rs (pc + 3) n ls st h Q) (kf : ¬ x = 0 → J M md rc rs tgt n ls st h Q) : J M md rc rs pc n ls (xI x :: st) h Q := by
  intro hl hs hr hg D cI cZ base ad p l e R s m args below meth c hC H locs cells slots Z lsm hRel hS hls hc hE
  have hx : xok x := xs0 hs
  have kt := fun q => kt q hl (xs2 hs) hr hg D cI cZ base ad p l e R s m args below meth c hC H locs cells slots Z lsm hRel hS hls hc hE
  have kf := fun q => kf q hl (xs2 hs) hr hg D cI cZ base ad p l e R s m args below meth c hC H locs cells slots Z lsm hRel hS hls hc hE
  exact J_bz_ne hx hC.1 hC.2.1 hd ht kt kf
theorem J_if_lt {x off : Int} {tgt : Nat} (hd : decode M.2.1 pc = .ok (.ifCond .lt off, 3)) (ht : (pc : Int) + off = (tgt : Int)) (kt : x < 0 → J M md rc rs tgt n ls st h Q) (kf : ¬ x < 0 → J M md rc rs (pc + 3) n ls st h Q) : J M md rc rs pc n ls (xI x :: st) h Q := by
  intro hl hs hr hg D cI cZ base ad p l e R s m args below meth c hC H locs cells slots Z lsm hRel hS hls hc hE
  have hx : xok x := xs0 hs
  have kt := fun q => kt q hl (xs2 hs) hr hg D cI cZ base ad p l e R s m args below meth c hC H locs cells slots Z lsm hRel hS hls hc hE
  have kf := fun q => kf q hl (xs2 hs) hr hg D cI cZ base ad p l e R s m args below meth c hC H locs cells slots Z lsm hRel hS hls hc hE
  exact J_bz_lt hx hC.1 hC.2.1 hd ht kt kf
theorem J_if_ge {x off : Int} {tgt : Nat} (hd : decode M.2.1 pc = .ok (.ifCond .ge off, 3)) (ht : (pc : Int) + off = (tgt : Int)) (kt : x < 0 → J M md rc rs (pc + 3) n ls st h Q) (kf : ¬ x < 0 → J M md rc rs tgt n ls st h Q) : J M md rc rs pc n ls (xI x :: st) h Q := by
  intro hl hs hr hg D cI cZ base ad p l e R s m args below meth c hC H locs cells slots Z lsm hRel hS hls hc hE
  have hx : xok x := xs0 hs
  have kt := fun q => kt q hl (xs2 hs) hr hg D cI cZ base ad p l e R s m args below meth c hC H locs cells slots Z lsm hRel hS hls hc hE
  have kf := fun q => kf q hl (xs2 hs) hr hg D cI cZ base ad p l e R s m args below meth c hC H locs cells slots Z lsm hRel hS hls hc hE
  exact J_bz_ge hx hC.1 hC.2.1 hd ht kt kf
theorem J_if_gt {x off : Int} {tgt : Nat} (hd : decode M.2.1 pc = .ok (.ifCond .gt off, 3)) (ht : (pc : Int) + off = (tgt : Int)) (kt : 0 < x → J M md rc rs tgt n ls st h Q) (kf : ¬ 0 < x → J M md rc rs (pc + 3) n ls st h Q) : J M md rc rs pc n ls (xI x :: st) h Q := by
  intro hl hs hr hg D cI cZ base ad p l e R s m args below meth c hC H locs cells slots Z lsm hRel hS hls hc hE
  have hx : xok x := xs0 hs
  have kt := fun q => kt q hl (xs2 hs) hr hg D cI cZ base ad p l e R s m args below meth c hC H locs cells slots Z lsm hRel hS hls hc hE
  have kf := fun q => kf q hl (xs2 hs) hr hg D cI cZ base ad p l e R s m args below meth c hC H locs cells slots Z lsm hRel hS hls hc hE
  exact J_bz_gt hx hC.1 hC.2.1 hd ht kt kf
theorem J_if_le {x off : Int} {tgt : Nat} (hd : decode M.2.1 pc = .ok (.ifCond .le off, 3)) (ht : (pc : Int) + off = (tgt : Int)) (kt : 0 < x → J M md rc rs (pc + 3) n ls st h Q) (kf : ¬ 0 < x → J M md rc rs tgt n ls st h Q) : J M md rc rs pc n ls (xI x :: st) h Q := by
  intro hl hs hr hg D cI cZ base ad p l e R s m args below meth c hC H locs cells slots Z lsm hRel hS hls hc hE
  have hx : xok x := xs0 hs
  have kt := fun q => kt q hl (xs2 hs) hr hg D cI cZ base ad p l e R s m args below meth c hC H locs cells slots Z lsm hRel hS hls hc hE
  have kf := fun q => kf q hl (xs2 hs) hr hg D cI cZ base ad p l e R s m args below meth c hC H locs cells slots Z lsm hRel hS hls hc hE
  exact J_bz_le hx hC.1 hC.2.1 hd ht kt kf
end
