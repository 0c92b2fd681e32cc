/-! WHAT THE METHODS SAY, as functions: their pieces -/
def xgd {α : Type} (i n : Int) (k : Option α) : Option α := if 0 ≤ i ∧ i < n then k else none
theorem xgd_e {α : Type} {i n : Int} {k : Option α} {x : α} (hf : xgd i n k = some x) : (0 ≤ i ∧ i < n) ∧ k = some x := by
  unfold xgd at hf
  split at hf
  · next q => exact ⟨q, hf⟩
  · cases hf
theorem xgd_pos {α : Type} {i n : Int} {k : Option α} (h1 : 0 ≤ i) (h2 : i < n) : xgd i n k = k := if_pos ⟨h1, h2⟩
noncomputable def xgp {α : Type} (p : Prop) (k : Option α) : Option α := @ite _ p (Classical.propDecidable p) k none
theorem xgp_e {α : Type} {p : Prop} {k : Option α} {x : α} (hf : xgp p k = some x) : p ∧ k = some x := by
  unfold xgp at hf
  split at hf
  · next q => exact ⟨q, hf⟩
  · cases hf
theorem xgp_pos {α : Type} {p : Prop} {k : Option α} (h : p) : xgp p k = k := if_pos h
def xgb {α : Type} (v : Int) (k : Option α) : Option α := if v = 0 ∨ v = 1 then k else none
theorem xgb_e {α : Type} {v : Int} {k : Option α} {x : α} (hf : xgb v k = some x) : (v = 0 ∨ v = 1) ∧ k = some x := by
  unfold xgb at hf
  split at hf
  · next q => exact ⟨q, hf⟩
  · cases hf
theorem xgb_pos {α : Type} {v : Int} {k : Option α} (h : v = 0 ∨ v = 1) : xgb v k = k := if_pos h
def xgc {α : Type} (sp dp k0 na nb : Int) (k : Option α) : Option α := if 0 ≤ sp ∧ 0 ≤ dp ∧ 0 ≤ k0 ∧ sp + k0 ≤ na ∧ dp + k0 ≤ nb then k else none
theorem xgc_e {α : Type} {sp dp k0 na nb : Int} {k : Option α} {x : α} (hf : xgc sp dp k0 na nb k = some x) : (0 ≤ sp ∧ 0 ≤ dp ∧ 0 ≤ k0 ∧ sp + k0 ≤ na ∧ dp + k0 ≤ nb) ∧ k = some x := by
  unfold xgc at hf
  split at hf
  · next q => exact ⟨q, hf⟩
  · cases hf
theorem xgc_pos {α : Type} {sp dp k0 na nb : Int} {k : Option α} (h1 : 0 ≤ sp) (h2 : 0 ≤ dp) (h3 : 0 ≤ k0) (h4 : sp + k0 ≤ na) (h5 : dp + k0 ≤ nb) : xgc sp dp k0 na nb k = k := if_pos ⟨h1, h2, h3, h4, h5⟩
def xlet {β α : Type} (e : β) (f : β → Option α) : Option α := f e
theorem xlet_e {β α : Type} {e : β} {f : β → Option α} {x : α} (hf : xlet e f = some x) : ∃ y, y = e ∧ f y = some x := ⟨e, rfl, hf⟩
def xc1 {β α : Type} (o : Option β) (f : β → Option α) : Option α := o.bind f
theorem xc1_e {β α : Type} {o : Option β} {f : β → Option α} {x : α} (hf : xc1 o f = some x) : ∃ y, o = some y ∧ f y = some x := Option.bind_eq_some_iff.mp hf
theorem xc1_some {β α : Type} {y : β} {f : β → Option α} : xc1 (some y) f = f y := rfl
def xc2 {γ β α : Type} (o : Option (γ × β)) (f : γ → β → Option α) : Option α := o.bind fun q => f q.1 q.2
theorem xc2_e {γ β α : Type} {o : Option (γ × β)} {f : γ → β → Option α} {x : α} (hf : xc2 o f = some x) : ∃ r h, o = some (r, h) ∧ f r h = some x := by
  obtain ⟨q, h1, h2⟩ := Option.bind_eq_some_iff.mp hf
  exact ⟨q.1, q.2, h1, h2⟩
theorem xc2_some {γ β α : Type} {y : γ} {h : β} {f : γ → β → Option α} : xc2 (some (y, h)) f = f y h := rfl
def xsw {β γ δ : Type} (b : β ⊕ γ) (f : β → δ) (g : γ → δ) : δ := match b with
  | .inl x => f x
  | .inr y => g y
theorem xip {α : Type} {c : Prop} {i : Decidable c} {A B : Option α} {x : α} (hc : c) (hf : @ite _ c i A B = some x) : A = some x := by rw [if_pos hc] at hf; exact hf
theorem xin' {α : Type} {c : Prop} {i : Decidable c} {A B : Option α} {x : α} (hc : ¬ c) (hf : @ite _ c i A B = some x) : B = some x := by rw [if_neg hc] at hf; exact hf
def xiter {σ β : Type} (step : σ → Option (σ ⊕ β)) : Nat → σ → Option β
  | 0, _ => none
  | n + 1, s => match step s with
    | none => none
    | some (.inl s') => xiter step n s'
    | some (.inr b) => some b
/-- the step, again and again, till it leaves -/
noncomputable def xloop {σ β : Type} (step : σ → Option (σ ⊕ β)) (s : σ) : Option β := @dite _ (∃ n b, xiter step n s = some b) (Classical.propDecidable _) (fun h => some h.choose_spec.choose) (fun _ => none)
theorem xiter_mono {σ β : Type} {step : σ → Option (σ ⊕ β)} : ∀ (n : Nat) (s : σ) (b : β), xiter step n s = some b → ∀ m, n ≤ m → xiter step m s = some b
  | 0, s, b, h, _, _ => by cases h
  | n + 1, s, b, h, m, hm => by
    obtain ⟨k, rfl⟩ : ∃ k, m = k + 1 := ⟨m - 1, by omega⟩
    cases hs : step s with
    | none => simp [xiter, hs] at h
    | some q =>
      cases q with
      | inl s' => simp only [xiter, hs] at h ⊢; exact xiter_mono n s' b h k (by omega)
      | inr b' => simp only [xiter, hs] at h ⊢; exact h
theorem xloop_iff {σ β : Type} {step : σ → Option (σ ⊕ β)} {s : σ} {b : β} : xloop step s = some b ↔ ∃ n, xiter step n s = some b := by
  constructor
  · intro h
    unfold xloop at h
    split at h
    · next q => exact ⟨q.choose, by rw [q.choose_spec.choose_spec]; exact h⟩
    · cases h
  · intro ⟨n, hn⟩
    unfold xloop
    split
    · next q =>
      have h1 := q.choose_spec.choose_spec
      have h2 := xiter_mono _ _ _ h1 (max q.choose n) (by omega)
      have h3 := xiter_mono _ _ _ hn (max q.choose n) (by omega)
      rw [h2] at h3
      exact h3
    · next q => exact absurd ⟨n, b, hn⟩ q
theorem xloop_ind {σ β : Type} {step : σ → Option (σ ⊕ β)} {s0 : σ} {b : β} {P : σ → Prop} (hl : xloop step s0 = some b) (hb : ∀ s x, step s = some x → (∀ s', x = .inl s' → P s') → (∀ b', x = .inr b' → b' = b) → P s) : P s0 := by
  obtain ⟨n, hn⟩ := xloop_iff.mp hl
  clear hl
  induction n generalizing s0 with
  | zero => cases hn
  | succ n ih =>
    unfold xiter at hn
    split at hn
    · cases hn
    · next s' hs => exact hb s0 _ hs (fun q hq => by cases hq; exact ih hn) (fun q hq => by cases hq)
    · next b' hs => exact hb s0 _ hs (fun q hq => by cases hq) (fun q hq => by cases hq; exact Option.some.inj hn)
theorem xloop_out {σ β : Type} {step : σ → Option (σ ⊕ β)} {s : σ} {b : β} (h : step s = some (.inr b)) : xloop step s = some b := xloop_iff.mpr ⟨1, by simp only [xiter, h]⟩
theorem xloop_in {σ β : Type} {step : σ → Option (σ ⊕ β)} {s s' : σ} (h : step s = some (.inl s')) : xloop step s = xloop step s' := by
  have key : ∀ b, xloop step s = some b ↔ xloop step s' = some b := by
    intro b
    rw [xloop_iff, xloop_iff]
    constructor
    · intro ⟨n, hn⟩
      cases n with
      | zero => cases hn
      | succ n => exact ⟨n, by simp only [xiter, h] at hn; exact hn⟩
    · intro ⟨n, hn⟩
      exact ⟨n + 1, by simp only [xiter, h]; exact hn⟩
  cases hx : xloop step s with
  | none =>
    cases hy : xloop step s' with
    | none => rfl
    | some b => have := (key b).mpr hy; rw [hx] at this; cases this
  | some b => exact ((key b).mp hx).symm
/-- an answer, and the heap behind it -/
def xEq (r0 : Option Int) (h0 : xH) : xQ := fun r n h => r = r0 ∧ n = xKn ∧ h = h0
theorem xq_i {v r0 : Int} {h h0 : xH} (hf : some (v, h) = some (r0, h0)) : xEq (some r0) h0 (some v) xKn h := by
  cases hf
  exact ⟨rfl, rfl, rfl⟩
theorem xq_p {v r0 : Int} {h : xH} (hf : some v = some r0) : xEq (some r0) h (some v) xKn h := by
  cases hf
  exact ⟨rfl, rfl, rfl⟩
theorem xq_v {h h0 : xH} (hf : some h = some h0) : xEq none h0 none xKn h := by
  cases hf
  exact ⟨rfl, rfl, rfl⟩
theorem xinl {α β : Type} {a : α ⊕ β} {x : α ⊕ β} (hf : some a = some x) : x = a := (Option.some.inj hf).symm
theorem xK_rg {o : Int} {k : Nat} (h : xK o = 3 + k) : 1 ≤ o ∧ o ≤ (xKn : Int) := xK_rng (by omega)
theorem xK_r1 {o : Int} (h : xK o = 1) : 1 ≤ o ∧ o ≤ (xKn : Int) := xK_rng (by omega)
theorem xK_r2 {o : Int} (h : xK o = 2) : 1 ≤ o ∧ o ≤ (xKn : Int) := xK_rng (by omega)
section
variable {M Mc : xM} {rc rs pc : Nat} {ls : List (Nat × xV)} {st : List xV} {h h1 : xH} {Q : xQ} {y : MethodName}
theorem J_getRl {o v : Int} {ci j N idx : Nat} {C : String} {T : u_T} {ty : Nat → FieldType} (hF : xCF ci C T N ty) (hd : decode M.2.1 pc = .ok (.getfield idx, 3)) (hk : xK o = 3 + ci) (hw : xLk M.1 idx C (T j).2.1 (T j).2.2.1) (hj : j < N) (hz : xIsR ci j = true) (hv : xRf o j = v ∧ v ≠ 0) (k : J M true rc rs (pc + 3) xKn ls (xR v :: st) h Q) : J M true rc rs pc xKn ls (xR o :: st) h Q :=
  J_getR hF hd (xK_rng (by omega)) hk hw hj hz (fun g => ⟨by rw [(g rfl).2 o j (by rw [hv.1]; exact hv.2), hv.1], hv.2⟩) k
theorem J_ireti {v : Int} {md : Bool} {n : Nat} (hd : decode M.2.1 pc = .ok (.ireturn, 1)) (ht : M.2.2.2.1 = some .int) (hq : Q (some v) n h) : J M md 0 0 pc n ls [xI v] h Q := fun hl hs => J_iret hd (by rw [ht]; exact xs0 hs) hq hl hs
theorem J_iretz {v : Int} {md : Bool} {n : Nat} (hd : decode M.2.1 pc = .ok (.ireturn, 1)) (ht : M.2.2.2.1 = some .boolean) (hv : v = 0 ∨ v = 1) (hq : Q (some v) n h) : J M md 0 0 pc n ls [xI v] h Q := J_iret hd (by rw [ht]; exact hv) hq
theorem J_rt {md : Bool} {n : Nat} (hd : decode M.2.1 pc = .ok (.return_, 1)) (ht : M.2.2.2.1 = none) (hq : Q none n h) : J M md 0 0 pc n ls [] h Q := J_ret hd (by rw [ht]; trivial) hq
/-- what is known of a callee -/
def xFc (Mc : xM) (y : MethodName) (k : Nat) : Prop :=
  (plainName y.cls = true ∧ Mc.1 = y.cls ∧ (Mc.2.2.2.2.1 = true → y.name = "<init>") ∧ Mc.2.2.2.2.2.2.2 = none) ∧ (y.cls ≠ "java/lang/invoke/MethodHandle" ∧ y.cls ≠ "java/lang/invoke/VarHandle" ∧ (parseMethodDescriptor y.desc).map (fun d => d.parameters.length) = some k) ∧
  (Cond.initialized y.cls ∈ xtbl ∧ Cond.code y Mc.2.1 Mc.2.2.1 Mc.2.2.2.1 ∈ xtbl)
theorem xFc.fit {k : Nat} (h : xFc Mc y k) (hr : Mc.2.2.2.2.2.1 + 1 ≤ M.2.2.2.2.2.1 ∧ 8 + (Mc.2.2.1 + 11) + Mc.2.2.2.2.2.2.1 ≤ M.2.2.2.2.2.2.1) : xFit M Mc y k := ⟨h.1, h.2.1, hr, h.2.2⟩
theorem xbl {a b : Nat} (h : Nat.ble a b = true) : a ≤ b := Nat.le_of_ble_eq_true h
theorem J_cVi {idx ka ci : Nat} {stk : List xV} (As : List xV) {o r1 : Int} {T0 : u_T} {N0 : Nat} (hd : decode M.2.1 pc = .ok (.invokevirtual idx, 3)) (hfit : xFit M Mc y ka) (hka : As.length = ka) (hw : (Cond.methodLink M.1 idx y ∈ xtbl ∨ ∃ host, Cond.methodLinkNest M.1 idx y host ∈ xnst) ∧ Cond.instanceMethod y ∈ xtbl ∧ Cond.selects y.cls y y ∈ xtbl) (hk : xK o = 3 + ci) (hcl : vwCl[ci]? = some (y.cls, T0, N0)) (hstk : stk = As.reverse ++ xR o :: st) (h8 : (st.map xcat).sum ≤ 8) (hlen : ((xR o :: As).map xcat).sum ≤ Mc.2.2.1) (hJ : J Mc true 0 0 0 xKn (xen 0 (xR o :: As)) [] h (xEq (some r1) h1))
    (k : J M true 0 0 (pc + 3) xKn ls (xI r1 :: st) h1 Q) : J M true 0 0 pc xKn ls stk h Q :=
  J_callV As hd hfit hka hw (xK_rg hk) hk hcl hstk h8 hlen ⟨rfl, rfl⟩ hJ (fun r n' h' hq _ => by rw [hq.1, hq.2.1, hq.2.2]; exact k)
theorem J_cVv {idx ka ci : Nat} {stk : List xV} (As : List xV) {o : Int} {T0 : u_T} {N0 : Nat} (hd : decode M.2.1 pc = .ok (.invokevirtual idx, 3)) (hfit : xFit M Mc y ka) (hka : As.length = ka) (hw : (Cond.methodLink M.1 idx y ∈ xtbl ∨ ∃ host, Cond.methodLinkNest M.1 idx y host ∈ xnst) ∧ Cond.instanceMethod y ∈ xtbl ∧ Cond.selects y.cls y y ∈ xtbl) (hk : xK o = 3 + ci) (hcl : vwCl[ci]? = some (y.cls, T0, N0)) (hstk : stk = As.reverse ++ xR o :: st) (h8 : (st.map xcat).sum ≤ 8) (hlen : ((xR o :: As).map xcat).sum ≤ Mc.2.2.1) (hJ : J Mc true 0 0 0 xKn (xen 0 (xR o :: As)) [] h (xEq none h1))
    (k : J M true 0 0 (pc + 3) xKn ls st h1 Q) : J M true 0 0 pc xKn ls stk h Q :=
  J_callV As hd hfit hka hw (xK_rg hk) hk hcl hstk h8 hlen ⟨rfl, rfl⟩ hJ (fun r n' h' hq _ => by rw [hq.1, hq.2.1, hq.2.2]; exact k)
theorem J_cSi {idx ka : Nat} {stk : List xV} (As : List xV) {r1 : Int} (hd : decode M.2.1 pc = .ok (.invokestatic idx, 3)) (hfit : xFit M Mc y ka) (hka : As.length = ka) (hw : (Cond.methodLink M.1 idx y ∈ xtbl ∨ ∃ host, Cond.methodLinkNest M.1 idx y host ∈ xnst) ∧ Cond.static y ∈ xtbl) (hstk : stk = As.reverse ++ st) (h8 : (st.map xcat).sum ≤ 8) (hlen : (As.map xcat).sum ≤ Mc.2.2.1) (hJ : J Mc true 0 0 0 xKn (xen 0 As) [] h (xEq (some r1) h1))
    (k : J M true 0 0 (pc + 3) xKn ls (xI r1 :: st) h1 Q) : J M true 0 0 pc xKn ls stk h Q :=
  J_callS As hd hfit hka hw hstk h8 hlen ⟨rfl, rfl⟩ hJ (fun r n' h' hq _ => by rw [hq.1, hq.2.1, hq.2.2]; exact k)
theorem J_cSv {idx ka : Nat} {stk : List xV} (As : List xV) (hd : decode M.2.1 pc = .ok (.invokestatic idx, 3)) (hfit : xFit M Mc y ka) (hka : As.length = ka) (hw : (Cond.methodLink M.1 idx y ∈ xtbl ∨ ∃ host, Cond.methodLinkNest M.1 idx y host ∈ xnst) ∧ Cond.static y ∈ xtbl) (hstk : stk = As.reverse ++ st) (h8 : (st.map xcat).sum ≤ 8) (hlen : (As.map xcat).sum ≤ Mc.2.2.1) (hJ : J Mc true 0 0 0 xKn (xen 0 As) [] h (xEq none h1))
    (k : J M true 0 0 (pc + 3) xKn ls st h1 Q) : J M true 0 0 pc xKn ls stk h Q :=
  J_callS As hd hfit hka hw hstk h8 hlen ⟨rfl, rfl⟩ hJ (fun r n' h' hq _ => by rw [hq.1, hq.2.1, hq.2.2]; exact k)
end
