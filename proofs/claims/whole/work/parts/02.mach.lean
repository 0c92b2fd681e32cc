/-! THE QUIET MACHINE: numbers are integers, cells are numbers, a heap is a function; each row is one instruction -/
abbrev xV : Type := Int ⊕ (Int ⊕ (Int64 ⊕ UInt32))
abbrev xI (x : Int) : xV := Sum.inl x
abbrev xR (x : Int) : xV := Sum.inr (Sum.inl x)
abbrev xL (x : Int64) : xV := Sum.inr (Sum.inr (Sum.inl x))
abbrev xF (x : UInt32) : xV := Sum.inr (Sum.inr (Sum.inr x))
abbrev xH : Type := Int → Int → Int
abbrev xok (z : Int) : Prop := -2147483648 ≤ z ∧ z ≤ 2147483647
def xRng (h : xH) : Prop := ∀ o j, xok (h o j)
def xvok (v : xV) : Prop := match v with
  | .inl x => xok x
  | _ => True
def xcat (v : xV) : Nat := match v with
  | .inr (.inr (.inl _)) => 2
  | _ => 1
def xcv (ad : Int → Nat) (v : xV) : Value := match v with
  | .inl x => .int (Int32.ofInt x)
  | .inr (.inl o) => .ref (ad o)
  | .inr (.inr (.inl x)) => .long x
  | .inr (.inr (.inr x)) => .float x
theorem xcat_cv (ad : Int → Nat) (v : xV) : (xcv ad v).category = xcat v := by
  rcases v with x | x | x | x <;> rfl
theorem xti {x : Int} (h : xok x) : (Int32.ofInt x).toInt = x := Int32.toInt_ofInt_of_le (by have := h.1; omega) (by have := h.2; omega)
theorem xlt {x y : Int} (hx : xok x) (hy : xok y) : Int32.ofInt x < Int32.ofInt y ↔ x < y := by rw [Int32.lt_iff_toInt_lt, xti hx, xti hy]
theorem xle {x y : Int} (hx : xok x) (hy : xok y) : Int32.ofInt x ≤ Int32.ofInt y ↔ x ≤ y := by rw [Int32.le_iff_toInt_le, xti hx, xti hy]
theorem xeq {x y : Int} (hx : xok x) (hy : xok y) : Int32.ofInt x = Int32.ofInt y ↔ x = y := by rw [← Int32.toInt_inj, xti hx, xti hy]
theorem xz0 : (0 : Int32) = Int32.ofInt 0 := by decide
theorem xok0 : xok 0 := by decide
theorem xcl {x : Int} (h : xok x) : (Int32.ofInt x).toNatClampNeg = x.toNat := by show (Int32.ofInt x).toInt.toNat = _; rw [xti h]
theorem xin {i : Int} {n : Nat} (h : xok i) (h0 : 0 ≤ i) (h1 : i < n) : vp_in (Int32.ofInt i) n := by rw [vp_in_iff, xti h]; exact ⟨h0, h1⟩
theorem xoi (z : Int32) : Int32.ofInt z.toInt = z := Int32.ofInt_toInt z
theorem xokt (z : Int32) : xok z.toInt := ⟨by have := Int32.le_toInt z; omega, by have := Int32.toInt_lt z; omega⟩
def xup (h : xH) (o j v : Int) : xH := fun o' j' => if o' = o ∧ j' = j then v else h o' j'
def xcp (h : xH) (s sp d dp n : Int) : xH := fun o j => if o = d ∧ dp ≤ j ∧ j < dp + n then h s (sp + (j - dp)) else h o j
theorem xup_rng {h : xH} {o j v : Int} (hr : xRng h) (hv : xok v) : xRng (xup h o j v) := by
  intro a b
  unfold xup
  split
  · exact hv
  · exact hr a b
theorem xcp_rng {h : xH} {s sp d dp n : Int} (hr : xRng h) : xRng (xcp h s sp d dp n) := by
  intro a b
  unfold xcp
  split
  · exact hr _ _
  · exact hr a b
/-- the references of the cells stand as the constructors left them -/
def xRef (h : xH) : Prop := ∀ o j, xRf o j ≠ 0 → h o j = xRf o j
def xG (md : Bool) (n : Nat) (h : xH) : Prop := md = true → n = xKn ∧ xRef h
theorem xRf_kind {o j : Int} (h : xRf o j ≠ 0) : 3 ≤ xK o := by
  have key : ∀ k : Nat, k < xRT.length → xRT.getD k [] ≠ [] → 3 ≤ (xTab.getD k (0, 0)).1 := by decide +kernel
  unfold xRf at h
  unfold xK
  split at h
  · exact absurd rfl h
  · have hne : xRT.getD o.toNat [] ≠ [] := by intro e; rw [e] at h; simp at h
    by_cases hk : o.toNat < xRT.length
    · exact key _ hk hne
    · exact absurd (by simp [List.getD, List.getElem?_eq_none (Nat.not_lt.mp hk)]) hne
theorem xRef_up {h : xH} {o j v : Int} (hf : xRef h) (hn : xRf o j = 0) : xRef (xup h o j v) := by
  intro a b hab
  unfold xup
  split
  · next q => obtain ⟨rfl, rfl⟩ := q; exact absurd hn hab
  · exact hf a b hab
theorem xRef_cp {h : xH} {s sp d dp n : Int} (hf : xRef h) (hk : xK d < 3) : xRef (xcp h s sp d dp n) := by
  intro a b hab
  unfold xcp
  split
  · next q => obtain ⟨rfl, -⟩ := q; exact absurd (xRf_kind hab) (by omega)
  · exact hf a b hab
theorem xRf_arr {o j : Int} (hk : xK o < 3) : xRf o j = 0 := Classical.byContradiction fun h => absurd (xRf_kind h) (by omega)
section XW
variable (cI cZ : ClassId) (ad : Int → Nat)
def xfv (h : xH) (ci : Nat) (o : Int) (j : Nat) : Value := if xIsR ci j = true then (if h o j = 0 then Value.null else .ref (ad (h o j))) else .int (Int32.ofInt (h o j))
def xflds (h : xH) (ci : Nat) (o : Int) : List Value := (List.range (xNf ci)).map (xfv ad h ci o)
def xC (h : xH) (o : Int) : va_E :=
  if xK o = 1 then .inl (cI, xN o, .inl (fun j => Int32.ofInt (h o j)))
  else if xK o = 2 then .inl (cZ, xN o, .inl (fun j => Int32.ofInt (h o j)))
  else .inr (xK o - 3, xflds ad h (xK o - 3) o)
def xws (h : xH) (n : Nat) : va_W := (List.range n).map fun k : Nat => (ad ((k : Int) + 1), xC cI cZ ad h ((k : Int) + 1))
end XW
theorem xws_at {cI cZ : ClassId} {ad : Int → Nat} {h : xH} {n : Nat} {o : Int} (h1 : 1 ≤ o) (h2 : o ≤ n) : (xws cI cZ ad h n)[o.toNat - 1]? = some (ad o, xC cI cZ ad h o) := by
  have hk : o.toNat - 1 < n := by omega
  have e : (((o.toNat - 1 : Nat)) : Int) + 1 = o := by omega
  simp only [xws, List.getElem?_map, List.getElem?_range hk, Option.map_some, e]
theorem xflds_congr {ad : Int → Nat} {h h' : xH} {ci : Nat} {o : Int} (hh : ∀ j, h' o j = h o j) : xflds ad h' ci o = xflds ad h ci o := by
  unfold xflds
  refine List.map_congr_left fun j _ => ?_
  simp only [xfv, hh]
theorem xC_congr {cI cZ : ClassId} {ad : Int → Nat} {h h' : xH} {o : Int} (hh : ∀ j, h' o j = h o j) : xC cI cZ ad h' o = xC cI cZ ad h o := by
  unfold xC
  simp only [hh, xflds_congr hh]
theorem xws_set {cI cZ : ClassId} {ad : Int → Nat} {h h' : xH} {n : Nat} {o : Int} (h1 : 1 ≤ o) (h2 : o ≤ n) (hh : ∀ o', o' ≠ o → ∀ j, h' o' j = h o' j) : (xws cI cZ ad h n).set (o.toNat - 1) (ad o, xC cI cZ ad h' o) = xws cI cZ ad h' n := by
  refine List.ext_getElem? fun i => ?_
  by_cases hi : i < n
  · by_cases he : i = o.toNat - 1
    · subst he
      rw [List.getElem?_set_self (by simp [xws]; omega), xws_at h1 h2]
    · rw [List.getElem?_set_ne (fun q => he q.symm)]
      simp only [xws, List.getElem?_map, List.getElem?_range hi, Option.map_some]
      rw [xC_congr (hh _ (by omega))]
  · rw [List.getElem?_eq_none (by simp [xws]; omega), List.getElem?_eq_none (by simp [xws]; omega)]
theorem xflds_len {ad : Int → Nat} {h : xH} {ci : Nat} {o : Int} : (xflds ad h ci o).length = xNf ci := by simp [xflds]
theorem xflds_at {ad : Int → Nat} {h : xH} {ci : Nat} {o : Int} {k : Nat} (hk : k < xNf ci) : (xflds ad h ci o)[k]? = some (xfv ad h ci o k) := by
  simp only [xflds, List.getElem?_map, List.getElem?_range hk, Option.map_some]
theorem xflds_set {ad : Int → Nat} {h : xH} {ci : Nat} {o v : Int} {k : Nat} {w : Value} (hk : k < xNf ci) (hw : w = xfv ad (xup h o k v) ci o k) : (xflds ad h ci o).set k w = xflds ad (xup h o k v) ci o := by
  refine List.ext_getElem? fun i => ?_
  by_cases hi : i < xNf ci
  · by_cases he : i = k
    · subst he
      rw [List.getElem?_set_self (by rw [xflds_len]; exact hi), xflds_at hi, hw]
    · rw [List.getElem?_set_ne (fun q => he q.symm), xflds_at hi, xflds_at hi]
      have e : xup h o k v o (i : Int) = h o (i : Int) := by
        unfold xup
        rw [if_neg (by omega)]
      simp only [xfv, e]
  · rw [List.getElem?_eq_none (by rw [List.length_set, xflds_len]; omega), List.getElem?_eq_none (by rw [xflds_len]; omega)]
/-- the heap holds the first n cells; while they are made there are no others -/
def xRel (D : va_G) (cI cZ : ClassId) (ad : Int → Nat) (base : Nat) (md : Bool) (n : Nat) (h : xH) (H : Heap) (cells : Nat) (s : State) : Prop :=
  va_P D vwCl (xws cI cZ ad h n) H ∧ (md = false → s.heap.size + cells = base + n)
/-- the class's two tables -/
def xfM (j : Nat) : Value := .int (Int32.ofInt (([1, 1, 1, 0, 2, 1, 2] : List Int).getD j 0))
def xfT (j : Nat) : Value := .int (Int32.ofInt (([1, 1, 0, 1, 2, 2, 1] : List Int).getD j 0))
def xSt (ad : Int → Nat) (A : Nat → Prop) (s : State) : Prop :=
  va_Z "WordMender$Slips" "MEANT_TAKEN" "[I" (.ref (ad (-1))) A s s.heap ∧ va_T .int (ad (-1)) 7 xfM A s s.heap ∧
  va_Z "WordMender$Slips" "TYPED_TAKEN" "[I" (.ref (ad (-2))) A s s.heap ∧ va_T .int (ad (-2)) 7 xfT A s s.heap
theorem xSt.to {ad : Int → Nat} {A : Nat → Prop} {u U : State} (h : xSt ad A u) (hvm : u.vm.Alike U.vm) (hq : ∀ a : Nat, a < u.heap.size → ¬ A a → U.heap[a]? = u.heap[a]?) : xSt ad A U :=
  ⟨((h.1.kept hq).moved hvm), ((h.2.1.kept hq).moved hvm), ((h.2.2.1.kept hq).moved hvm), ((h.2.2.2.kept hq).moved hvm)⟩
/-- the words that a call hands on -/
def xgood (w : Cond) : Bool := (w.onTables && w.keeps) || (match w with | .arrayClass _ => true | _ => false)
def xtbl : List Cond := lw_tbl.filter xgood
theorem xq_of {w : Cond} (i : Nat) (h : lw_tbl[i]? = some w) (hg : xgood w = true) : w ∈ xtbl := List.mem_filter.mpr ⟨List.mem_of_getElem? h, hg⟩
theorem xtbl_good {w : Cond} (h : w ∈ xtbl) : (w.onTables && w.keeps) = true ∨ ∃ ty, w = .arrayClass ty := by
  have h2 := (List.mem_filter.mp h).2
  unfold xgood at h2
  rcases Bool.or_eq_true _ _ ▸ h2 with h2 | h2
  · exact Or.inl h2
  · right
    split at h2
    · exact ⟨_, rfl⟩
    · cases h2
def xisN (w : Cond) : Bool := match w with
  | .fieldLinkNest .. => true
  | .methodLinkNest .. => true
  | _ => false
def xnst : List Cond := lw_tbl.filter xisN
theorem xn_of {w : Cond} (i : Nat) (h : lw_tbl[i]? = some w) (hg : xisN w = true) : w ∈ xnst := List.mem_filter.mpr ⟨List.mem_of_getElem? h, hg⟩
theorem xisN_on {w : Cond} (h : w ∈ xnst) : w.onTables = true := by
  have h2 := (List.mem_filter.mp h).2
  unfold xisN at h2
  split at h2
  · rfl
  · rfl
  · cases h2
theorem xisN_warm {w : Cond} (h : w ∈ xnst) {s U : State} (hW : s.WarmedH U.vm) (hZ : va_Nw w s) : va_Nw w U := by
  have h2 := (List.mem_filter.mp h).2
  unfold xisN at h2
  split at h2
  · exact va_Nw.warmF hW hZ
  · exact va_Nw.warmM hW hZ
  · cases h2
/-- a method: its class, code, places, answer, whether a constructor; frames and words that it needs; the law's script -/
abbrev xM : Type := String × ByteArray × Nat × Option FieldType × Bool × Nat × Nat × Option (Nat × (Nat → Int32))
def xScr (sc : Option (Nat × (Nat → Int32))) (ad : Int → Nat) (base : Nat) (s : State) : Prop := match sc with
  | none => True
  | some (L, xs) => va_X (ad (-3)) L xs s s.heap ∧ ad (-3) < s.heap.size ∧ ad (-3) < base
def xCx (M : xM) (D : va_G) (cI cZ : ClassId) (base : Nat) (ad : Int → Nat) (p : Program) (R : Room) (s : State) (m : MethodId) (args : Array Value) (meth : Method) (c : Code) : Prop :=
  p.tables.exec = Jvm.exec ∧ c.code = M.2.1 ∧ c.maxLocals = M.2.2.1 ∧ s.vm.findClass M.1 = some m.cls ∧ (∀ w ∈ xtbl, w.before args s = true) ∧
  (M.2.2.2.2.1 = true → meth.name = "<init>") ∧ (M.2.2.2.2.2.1 ≤ R.frames ∧ M.2.2.2.2.2.2.1 ≤ R.locals) ∧ va_K D vwCl [(cI, .int), (cZ, .boolean)] s ∧
  (base ≤ s.heap.size ∧ xSt ad (fun q => base ≤ q) s ∧ ∀ k : Nat, ad ((k : Int) + 1) = base + k) ∧ xScr M.2.2.2.2.2.2.2 ad base s ∧ (∀ w ∈ xnst, va_Nw w s)
def xretI (r : Option Int) : Instr := match r with
  | none => .return_
  | some _ => .ireturn
def xrv (r : Option Int) : Option Value := r.map fun x => .int (Int32.ofInt x)
def xrok (rt : Option FieldType) (r : Option Int) : Prop := match rt, r with
  | none, none => True
  | some .int, some x => xok x
  | some .boolean, some x => x = 0 ∨ x = 1
  | _, _ => False
abbrev xQ : Type := Option Int → Nat → xH → Prop
/-- from this place the method comes to its end, and Q holds of answer, number of cells and heap -/
def J (M : xM) (md : Bool) (rc rs : Nat) (pc n : Nat) (ls : List (Nat × xV)) (st : List xV) (h : xH) (Q : xQ) : Prop :=
  (∀ q ∈ ls, xvok q.2) → (∀ v ∈ st, xvok v) → xRng h → xG md n h →
  ∀ (D : va_G) (cI cZ : ClassId) (base : Nat) (ad : Int → Nat) (p : Program) (l : Launch) (e : Env) (R : Room) (s : State) (m : MethodId) (args : Array Value) (below : List Frame) (meth : Method) (c : Code),
  xCx M D cI cZ base ad p R s m args meth c →
  ∀ (H : Heap) (locs : List Loc) (cells slots : Nat) (Z : State → Prop) (lsm : Array Slot),
  xRel D cI cZ ad base md n h H cells s → va_S (fun q => base ≤ q) s.heap H locs → lv_has lsm M.2.2.1 (ls.map fun q => (q.1, xcv ad q.2)) →
  cells + rc = R.cells ∧ slots + rs = R.slots →
  (∀ (r : Option Int) (n' : Nat) (h' : xH) (H' : Heap) (locs' : List Loc) (pc' : Nat) (lsm' : Array Slot), Q r n' h' → xrok M.2.2.2.1 r → xRng h' → xG md n' h' → xRel D cI cZ ad base md n' h' H' R.cells s → va_S (fun q => base ≤ q) s.heap H' locs' → decode M.2.1 pc' = .ok (xretI r, 1) →
    W p l e R s m args below meth c H' locs' R.cells R.slots Z (F0 m pc' lsm' (xrv r).toList)) →
  W p l e R s m args below meth c H locs cells slots Z (F0 m pc lsm (st.map (xcv ad)))
