/-! THE MODEL DOES NOT SEE THE CLASS'S CELLS -/
def mx (c h : xH) : xH := fun o => if o ≤ 80 then c o else h o
theorem mx_hi {c h : xH} {o : Int} (ho : 81 ≤ o) : mx c h o = h o := if_neg (by omega)
theorem mx_lo {c h : xH} {o : Int} (ho : o ≤ 80) : mx c h o = c o := if_pos ho
theorem mx_up {c h : xH} {o j v : Int} (ho : 81 ≤ o) : xup (mx c h) o j v = mx c (xup h o j v) := by
  funext a b
  simp only [xup, mx]
  by_cases q : a = o ∧ b = j
  · rw [if_pos q, if_neg (by omega)]
    exact (if_pos q).symm
  · rw [if_neg q]
    by_cases z : a ≤ 80
    · rw [if_pos z, if_pos z]
    · rw [if_neg z, if_neg z]
      exact (if_neg q).symm
theorem mp_ite {α β : Type} {p : Prop} {i : Decidable p} {A B : Option α} {g : α → β} : Option.map g (@ite _ p i A B) = @ite _ p i (Option.map g A) (Option.map g B) := by split <;> rfl
theorem mp_gd {α β : Type} {i n : Int} {k : Option α} {g : α → β} : Option.map g (xgd i n k) = xgd i n (Option.map g k) := by unfold xgd; split <;> rfl
theorem mp_gb {α β : Type} {v : Int} {k : Option α} {g : α → β} : Option.map g (xgb v k) = xgb v (Option.map g k) := by unfold xgb; split <;> rfl
theorem mp_gp {α β : Type} {p : Prop} {k : Option α} {g : α → β} : Option.map g (xgp p k) = xgp p (Option.map g k) := by unfold xgp; split <;> rfl
theorem mp_c1 {α β γ : Type} {o : Option γ} {f : γ → Option α} {g : α → β} : Option.map g (xc1 o f) = xc1 o (fun y => Option.map g (f y)) := by cases o <;> rfl
theorem mp_c2 {α β γ δ : Type} {o : Option (γ × δ)} {f : γ → δ → Option α} {g : α → β} : Option.map g (xc2 o f) = xc2 o (fun y z => Option.map g (f y z)) := by cases o <;> rfl
theorem c1_mp {α γ δ : Type} {o : Option γ} {f : δ → Option α} {g : γ → δ} : xc1 (Option.map g o) f = xc1 o (fun y => f (g y)) := by cases o <;> rfl
theorem c2_mp {α γ : Type} {o : Option (γ × xH)} {f : γ → xH → Option α} {c : xH} : xc2 (Option.map (fun q : γ × xH => (q.1, mx c q.2)) o) f = xc2 o (fun y z => f y (mx c z)) := by cases o <;> rfl
theorem mp_sw {α β γ δ : Type} {b : γ ⊕ δ} {f : γ → Option α} {k : δ → Option α} {g : α → β} : Option.map g (xsw b f k) = xsw b (fun x => Option.map g (f x)) (fun x => Option.map g (k x)) := by cases b <;> rfl
theorem sw_mp {α γ δ γ' δ' : Type} {b : γ ⊕ δ} {f : γ' → α} {k : δ' → α} {p : γ → γ'} {q : δ → δ'} : xsw (Sum.map p q b) f k = xsw b (fun x => f (p x)) (fun x => k (q x)) := by cases b <;> rfl
theorem sm_l {γ δ γ' δ' : Type} {x : γ} {p : γ → γ'} {q : δ → δ'} : Sum.map p q (Sum.inl x) = Sum.inl (p x) := rfl
theorem sm_r {γ δ γ' δ' : Type} {x : δ} {p : γ → γ'} {q : δ → δ'} : Sum.map p q (Sum.inr x) = Sum.inr (q x) := rfl
theorem xloop_map {σ β : Type} {step : σ → Option (σ ⊕ β)} {f : σ → σ} {g : β → β} (h : ∀ s, step (f s) = Option.map (Sum.map f g) (step s)) (s : σ) : xloop step (f s) = Option.map g (xloop step s) := by
  have key : ∀ (n : Nat) (s : σ), xiter step n (f s) = Option.map g (xiter step n s) := by
    intro n
    induction n with
    | zero => intro s; rfl
    | succ n ih =>
      intro s
      have hh := h s
      cases hs : step s with
      | none => rw [hs] at hh; simp only [xiter, hs]; rw [hh]; rfl
      | some x =>
        rw [hs] at hh
        cases x with
        | inl s' => simp only [xiter, hs]; rw [hh]; exact ih s'
        | inr b => simp only [xiter, hs]; rw [hh]; rfl
  have k2 : ∀ b, xloop step (f s) = some b ↔ Option.map g (xloop step s) = some b := by
    intro b
    rw [xloop_iff]
    constructor
    · intro ⟨n, hn⟩
      rw [key] at hn
      cases hx : xiter step n s with
      | none => rw [hx] at hn; cases hn
      | some y => rw [hx] at hn; rw [xloop_iff.mpr ⟨n, hx⟩]; exact hn
    · intro hn
      cases hx : xloop step s with
      | none => rw [hx] at hn; cases hn
      | some y =>
        obtain ⟨n, hy⟩ := xloop_iff.mp hx
        exact ⟨n, by rw [key, hy, ← hx]; exact hn⟩
  cases hx : xloop step (f s) with
  | none =>
    cases hy : Option.map g (xloop step s) with
    | none => rfl
    | some b => have := (k2 b).mpr hy; rw [hx] at this; cases this
  | some b => exact ((k2 b).mp hx).symm
theorem mp_id {α : Type} {o : Option α} : Option.map (fun x : α => x) o = o := by cases o <;> rfl
theorem loc_Md_in {c h : xH} {l0 : Int} {l1 : Int} {l2 : Int} : f_Md_in l0 l1 l2 (mx c h) = f_Md_in l0 l1 l2 h := by
  unfold f_Md_in
  (try simp (disch := omega) only [mx_hi, mx_up, ↓mp_ite, ↓mp_gd, ↓mp_gb, ↓mp_gp, ↓mp_c1, ↓mp_c2, c1_mp, c2_mp, ↓mp_sw, sw_mp, sm_l, sm_r, xlet_eq, Option.map_some, Option.map_none])
theorem loc_Md_min {c h : xH} {l0 : Int} {l1 : Int} : f_Md_min l0 l1 (mx c h) = f_Md_min l0 l1 h := by
  unfold f_Md_min
  (try simp (disch := omega) only [mx_hi, mx_up, ↓mp_ite, ↓mp_gd, ↓mp_gb, ↓mp_gp, ↓mp_c1, ↓mp_c2, c1_mp, c2_mp, ↓mp_sw, sw_mp, sm_l, sm_r, xlet_eq, Option.map_some, Option.map_none])
theorem loc_Md_feed_71 {c h : xH} : f_Md_feed_71 (mx c h) = Option.map (fun q : Int × xH => (q.1, mx c q.2)) (f_Md_feed_71 h) := by
  unfold f_Md_feed_71
  (try simp (disch := omega) only [mx_hi, mx_up, ↓mp_ite, ↓mp_gd, ↓mp_gb, ↓mp_gp, ↓mp_c1, ↓mp_c2, c1_mp, c2_mp, ↓mp_sw, sw_mp, sm_l, sm_r, xlet_eq, Option.map_some, Option.map_none])
theorem loc_Md_feed_s31 {c h : xH} {l1 : Int} {l2 : Int64} {l4 : Int} : f_Md_feed_s31 l1 l2 l4 (mx c h) = Option.map (Sum.map (fun q : (Int × xH) => (q.1, mx c q.2)) (mx c)) (f_Md_feed_s31 l1 l2 l4 h) := by
  unfold f_Md_feed_s31
  (try simp (disch := omega) only [mx_hi, mx_up, ↓mp_ite, ↓mp_gd, ↓mp_gb, ↓mp_gp, ↓mp_c1, ↓mp_c2, c1_mp, c2_mp, ↓mp_sw, sw_mp, sm_l, sm_r, xlet_eq, Option.map_some, Option.map_none])
theorem loc_Md_feed_31 {c h : xH} {l1 : Int} {l2 : Int64} {l4 : Int} : f_Md_feed_31 l1 l2 l4 (mx c h) = Option.map (fun q : Int × xH => (q.1, mx c q.2)) (f_Md_feed_31 l1 l2 l4 h) := by
  unfold f_Md_feed_31
  rw [xloop_map (f := (fun q : (Int × xH) => (q.1, mx c q.2))) (g := (mx c)) (fun s => loc_Md_feed_s31) ((l4, h))]
  (try simp (disch := omega) only [mx_hi, mx_up, ↓mp_ite, ↓mp_gd, ↓mp_gb, ↓mp_gp, ↓mp_c1, ↓mp_c2, c1_mp, c2_mp, ↓mp_sw, sw_mp, sm_l, sm_r, xlet_eq, Option.map_some, Option.map_none, loc_Md_feed_71, loc_Md_feed_s31])
theorem loc_Md_feed {c h : xH} {l1 : Int} {l2 : Int64} : f_Md_feed l1 l2 (mx c h) = Option.map (fun q : Int × xH => (q.1, mx c q.2)) (f_Md_feed l1 l2 h) := by
  unfold f_Md_feed
  (try simp (disch := omega) only [mx_hi, mx_up, ↓mp_ite, ↓mp_gd, ↓mp_gb, ↓mp_gp, ↓mp_c1, ↓mp_c2, c1_mp, c2_mp, ↓mp_sw, sw_mp, sm_l, sm_r, xlet_eq, Option.map_some, Option.map_none, loc_Md_feed_31, loc_Md_in])
theorem loc_Md_reads_151 {c h : xH} : f_Md_reads_151 (mx c h) = Option.map (fun q : Int × xH => (q.1, mx c q.2)) (f_Md_reads_151 h) := by
  unfold f_Md_reads_151
  (try simp (disch := omega) only [mx_hi, mx_up, ↓mp_ite, ↓mp_gd, ↓mp_gb, ↓mp_gp, ↓mp_c1, ↓mp_c2, c1_mp, c2_mp, ↓mp_sw, sw_mp, sm_l, sm_r, xlet_eq, Option.map_some, Option.map_none])
theorem loc_Md_reads_145 {c h : xH} {l1 : Int} {l2 : Int} {l3 : Int} {l4 : Int} {l5 : Int} {l6 : Int} : f_Md_reads_145 l1 l2 l3 l4 l5 l6 (mx c h) = Option.map (Sum.map (fun q : (Int × Int × xH) => (q.1, q.2.1, mx c q.2.2)) (Sum.map (mx c) (fun q : Int × xH => (q.1, mx c q.2)))) (f_Md_reads_145 l1 l2 l3 l4 l5 l6 h) := by
  unfold f_Md_reads_145
  (try simp (disch := omega) only [mx_hi, mx_up, ↓mp_ite, ↓mp_gd, ↓mp_gb, ↓mp_gp, ↓mp_c1, ↓mp_c2, c1_mp, c2_mp, ↓mp_sw, sw_mp, sm_l, sm_r, xlet_eq, Option.map_some, Option.map_none])
theorem loc_Md_reads_47 {c h : xH} {l1 : Int} {l2 : Int} {l3 : Int} {l4 : Int} {l5 : Int} {l6 : Int} : f_Md_reads_47 l1 l2 l3 l4 l5 l6 (mx c h) = Option.map (Sum.map (fun q : (Int × Int × xH) => (q.1, q.2.1, mx c q.2.2)) (Sum.map (mx c) (fun q : Int × xH => (q.1, mx c q.2)))) (f_Md_reads_47 l1 l2 l3 l4 l5 l6 h) := by
  unfold f_Md_reads_47
  (try simp (disch := omega) only [mx_hi, mx_up, ↓mp_ite, ↓mp_gd, ↓mp_gb, ↓mp_gp, ↓mp_c1, ↓mp_c2, c1_mp, c2_mp, ↓mp_sw, sw_mp, sm_l, sm_r, xlet_eq, Option.map_some, Option.map_none, loc_Md_reads_145])
theorem loc_Md_reads_s22 {c h : xH} {l1 : Int} {l2 : Int} {l3 : Int} {l4 : Int} {l5 : Int} {l6 : Int} : f_Md_reads_s22 l1 l2 l3 l4 l5 l6 (mx c h) = Option.map (Sum.map (fun q : (Int × Int × xH) => (q.1, q.2.1, mx c q.2.2)) (Sum.map (mx c) (fun q : Int × xH => (q.1, mx c q.2)))) (f_Md_reads_s22 l1 l2 l3 l4 l5 l6 h) := by
  unfold f_Md_reads_s22
  (try simp (disch := omega) only [mx_hi, mx_up, ↓mp_ite, ↓mp_gd, ↓mp_gb, ↓mp_gp, ↓mp_c1, ↓mp_c2, c1_mp, c2_mp, ↓mp_sw, sw_mp, sm_l, sm_r, xlet_eq, Option.map_some, Option.map_none, loc_Md_in, loc_Md_reads_145, loc_Md_reads_47])
theorem loc_Md_reads_22 {c h : xH} {l1 : Int} {l2 : Int} {l3 : Int} {l4 : Int} {l5 : Int} {l6 : Int} : f_Md_reads_22 l1 l2 l3 l4 l5 l6 (mx c h) = Option.map (fun q : Int × xH => (q.1, mx c q.2)) (f_Md_reads_22 l1 l2 l3 l4 l5 l6 h) := by
  unfold f_Md_reads_22
  rw [xloop_map (f := (fun q : (Int × Int × xH) => (q.1, q.2.1, mx c q.2.2))) (g := (Sum.map (mx c) (fun q : Int × xH => (q.1, mx c q.2)))) (fun s => loc_Md_reads_s22) ((l5, l6, h))]
  (try simp (disch := omega) only [mx_hi, mx_up, ↓mp_ite, ↓mp_gd, ↓mp_gb, ↓mp_gp, ↓mp_c1, ↓mp_c2, c1_mp, c2_mp, ↓mp_sw, sw_mp, sm_l, sm_r, xlet_eq, Option.map_some, Option.map_none, loc_Md_reads_151, loc_Md_reads_s22])
theorem loc_Md_reads {c h : xH} {l1 : Int} {l2 : Int} {l3 : Int} : f_Md_reads l1 l2 l3 (mx c h) = Option.map (fun q : Int × xH => (q.1, mx c q.2)) (f_Md_reads l1 l2 l3 h) := by
  unfold f_Md_reads
  (try simp (disch := omega) only [mx_hi, mx_up, ↓mp_ite, ↓mp_gd, ↓mp_gb, ↓mp_gp, ↓mp_c1, ↓mp_c2, c1_mp, c2_mp, ↓mp_sw, sw_mp, sm_l, sm_r, xlet_eq, Option.map_some, Option.map_none, loc_Md_reads_22])
theorem loc_Md_readsOne {c h : xH} : f_Md_readsOne (mx c h) = Option.map (fun q : Int × xH => (q.1, mx c q.2)) (f_Md_readsOne h) := by
  unfold f_Md_readsOne
  (try simp (disch := omega) only [mx_hi, mx_up, ↓mp_ite, ↓mp_gd, ↓mp_gb, ↓mp_gp, ↓mp_c1, ↓mp_c2, c1_mp, c2_mp, ↓mp_sw, sw_mp, sm_l, sm_r, xlet_eq, Option.map_some, Option.map_none, loc_Md_reads])
theorem loc_Md_readsTwo {c h : xH} {l1 : Int} : f_Md_readsTwo l1 (mx c h) = Option.map (fun q : Int × xH => (q.1, mx c q.2)) (f_Md_readsTwo l1 h) := by
  unfold f_Md_readsTwo
  (try simp (disch := omega) only [mx_hi, mx_up, ↓mp_ite, ↓mp_gd, ↓mp_gb, ↓mp_gp, ↓mp_c1, ↓mp_c2, c1_mp, c2_mp, ↓mp_sw, sw_mp, sm_l, sm_r, xlet_eq, Option.map_some, Option.map_none, loc_Md_reads])
theorem loc_Md_takeA_43 {c h : xH} : f_Md_takeA_43 (mx c h) = Option.map (mx c) (f_Md_takeA_43 h) := by
  unfold f_Md_takeA_43
  (try simp (disch := omega) only [mx_hi, mx_up, ↓mp_ite, ↓mp_gd, ↓mp_gb, ↓mp_gp, ↓mp_c1, ↓mp_c2, c1_mp, c2_mp, ↓mp_sw, sw_mp, sm_l, sm_r, xlet_eq, Option.map_some, Option.map_none])
theorem loc_Md_takeA_s12 {c h : xH} {l1 : Int} {l2 : Int} : f_Md_takeA_s12 l1 l2 (mx c h) = Option.map (Sum.map (fun q : (Int × xH) => (q.1, mx c q.2)) (mx c)) (f_Md_takeA_s12 l1 l2 h) := by
  unfold f_Md_takeA_s12
  (try simp (disch := omega) only [mx_hi, mx_up, ↓mp_ite, ↓mp_gd, ↓mp_gb, ↓mp_gp, ↓mp_c1, ↓mp_c2, c1_mp, c2_mp, ↓mp_sw, sw_mp, sm_l, sm_r, xlet_eq, Option.map_some, Option.map_none])
theorem loc_Md_takeA_12 {c h : xH} {l1 : Int} {l2 : Int} : f_Md_takeA_12 l1 l2 (mx c h) = Option.map (mx c) (f_Md_takeA_12 l1 l2 h) := by
  unfold f_Md_takeA_12
  rw [xloop_map (f := (fun q : (Int × xH) => (q.1, mx c q.2))) (g := (mx c)) (fun s => loc_Md_takeA_s12) ((l2, h))]
  (try simp (disch := omega) only [mx_hi, mx_up, ↓mp_ite, ↓mp_gd, ↓mp_gb, ↓mp_gp, ↓mp_c1, ↓mp_c2, c1_mp, c2_mp, ↓mp_sw, sw_mp, sm_l, sm_r, xlet_eq, Option.map_some, Option.map_none, loc_Md_takeA_43, loc_Md_takeA_s12])
theorem loc_Md_takeA {c h : xH} {l1 : Int} : f_Md_takeA l1 (mx c h) = Option.map (mx c) (f_Md_takeA l1 h) := by
  unfold f_Md_takeA
  (try simp (disch := omega) only [mx_hi, mx_up, ↓mp_ite, ↓mp_gd, ↓mp_gb, ↓mp_gp, ↓mp_c1, ↓mp_c2, c1_mp, c2_mp, ↓mp_sw, sw_mp, sm_l, sm_r, xlet_eq, Option.map_some, Option.map_none, loc_Md_takeA_12])
theorem loc_Md_takeB_43 {c h : xH} : f_Md_takeB_43 (mx c h) = Option.map (mx c) (f_Md_takeB_43 h) := by
  unfold f_Md_takeB_43
  (try simp (disch := omega) only [mx_hi, mx_up, ↓mp_ite, ↓mp_gd, ↓mp_gb, ↓mp_gp, ↓mp_c1, ↓mp_c2, c1_mp, c2_mp, ↓mp_sw, sw_mp, sm_l, sm_r, xlet_eq, Option.map_some, Option.map_none])
theorem loc_Md_takeB_s12 {c h : xH} {l1 : Int} {l2 : Int} : f_Md_takeB_s12 l1 l2 (mx c h) = Option.map (Sum.map (fun q : (Int × xH) => (q.1, mx c q.2)) (mx c)) (f_Md_takeB_s12 l1 l2 h) := by
  unfold f_Md_takeB_s12
  (try simp (disch := omega) only [mx_hi, mx_up, ↓mp_ite, ↓mp_gd, ↓mp_gb, ↓mp_gp, ↓mp_c1, ↓mp_c2, c1_mp, c2_mp, ↓mp_sw, sw_mp, sm_l, sm_r, xlet_eq, Option.map_some, Option.map_none])
theorem loc_Md_takeB_12 {c h : xH} {l1 : Int} {l2 : Int} : f_Md_takeB_12 l1 l2 (mx c h) = Option.map (mx c) (f_Md_takeB_12 l1 l2 h) := by
  unfold f_Md_takeB_12
  rw [xloop_map (f := (fun q : (Int × xH) => (q.1, mx c q.2))) (g := (mx c)) (fun s => loc_Md_takeB_s12) ((l2, h))]
  (try simp (disch := omega) only [mx_hi, mx_up, ↓mp_ite, ↓mp_gd, ↓mp_gb, ↓mp_gp, ↓mp_c1, ↓mp_c2, c1_mp, c2_mp, ↓mp_sw, sw_mp, sm_l, sm_r, xlet_eq, Option.map_some, Option.map_none, loc_Md_takeB_43, loc_Md_takeB_s12])
theorem loc_Md_takeB {c h : xH} {l1 : Int} : f_Md_takeB l1 (mx c h) = Option.map (mx c) (f_Md_takeB l1 h) := by
  unfold f_Md_takeB
  (try simp (disch := omega) only [mx_hi, mx_up, ↓mp_ite, ↓mp_gd, ↓mp_gb, ↓mp_gp, ↓mp_c1, ↓mp_c2, c1_mp, c2_mp, ↓mp_sw, sw_mp, sm_l, sm_r, xlet_eq, Option.map_some, Option.map_none, loc_Md_takeB_12])
theorem loc_Md_wordA_43 {c h : xH} : f_Md_wordA_43 (mx c h) = Option.map (mx c) (f_Md_wordA_43 h) := by
  unfold f_Md_wordA_43
  (try simp (disch := omega) only [mx_hi, mx_up, ↓mp_ite, ↓mp_gd, ↓mp_gb, ↓mp_gp, ↓mp_c1, ↓mp_c2, c1_mp, c2_mp, ↓mp_sw, sw_mp, sm_l, sm_r, xlet_eq, Option.map_some, Option.map_none])
theorem loc_Md_wordA_s12 {c h : xH} {l1 : Int} {l2 : Int} : f_Md_wordA_s12 l1 l2 (mx c h) = Option.map (Sum.map (fun q : (Int × xH) => (q.1, mx c q.2)) (mx c)) (f_Md_wordA_s12 l1 l2 h) := by
  unfold f_Md_wordA_s12
  (try simp (disch := omega) only [mx_hi, mx_up, ↓mp_ite, ↓mp_gd, ↓mp_gb, ↓mp_gp, ↓mp_c1, ↓mp_c2, c1_mp, c2_mp, ↓mp_sw, sw_mp, sm_l, sm_r, xlet_eq, Option.map_some, Option.map_none])
theorem loc_Md_wordA_12 {c h : xH} {l1 : Int} {l2 : Int} : f_Md_wordA_12 l1 l2 (mx c h) = Option.map (mx c) (f_Md_wordA_12 l1 l2 h) := by
  unfold f_Md_wordA_12
  rw [xloop_map (f := (fun q : (Int × xH) => (q.1, mx c q.2))) (g := (mx c)) (fun s => loc_Md_wordA_s12) ((l2, h))]
  (try simp (disch := omega) only [mx_hi, mx_up, ↓mp_ite, ↓mp_gd, ↓mp_gb, ↓mp_gp, ↓mp_c1, ↓mp_c2, c1_mp, c2_mp, ↓mp_sw, sw_mp, sm_l, sm_r, xlet_eq, Option.map_some, Option.map_none, loc_Md_wordA_43, loc_Md_wordA_s12])
theorem loc_Md_wordA {c h : xH} {l1 : Int} : f_Md_wordA l1 (mx c h) = Option.map (mx c) (f_Md_wordA l1 h) := by
  unfold f_Md_wordA
  (try simp (disch := omega) only [mx_hi, mx_up, ↓mp_ite, ↓mp_gd, ↓mp_gb, ↓mp_gp, ↓mp_c1, ↓mp_c2, c1_mp, c2_mp, ↓mp_sw, sw_mp, sm_l, sm_r, xlet_eq, Option.map_some, Option.map_none, loc_Md_wordA_12])
theorem loc_Md_compares_64 {c h : xH} {l1 : Int} {l2 : Int} : f_Md_compares_64 l1 l2 (mx c h) = f_Md_compares_64 l1 l2 h := by
  unfold f_Md_compares_64
  (try simp (disch := omega) only [mx_hi, mx_up, ↓mp_ite, ↓mp_gd, ↓mp_gb, ↓mp_gp, ↓mp_c1, ↓mp_c2, c1_mp, c2_mp, ↓mp_sw, sw_mp, sm_l, sm_r, xlet_eq, Option.map_some, Option.map_none])
theorem loc_Md_compares_s3 {c h : xH} {l1 : Int} {l2 : Int} {l3 : Int} {l4 : Int} {l5 : Int} (gl3 : 81 ≤ l3) : f_Md_compares_s3 l1 l2 l3 l4 l5 (mx c h) = f_Md_compares_s3 l1 l2 l3 l4 l5 h := by
  unfold f_Md_compares_s3
  (try simp (disch := omega) only [mx_hi, mx_up, ↓mp_ite, ↓mp_gd, ↓mp_gb, ↓mp_gp, ↓mp_c1, ↓mp_c2, c1_mp, c2_mp, ↓mp_sw, sw_mp, sm_l, sm_r, xlet_eq, Option.map_some, Option.map_none])
theorem loc_Md_compares_3 {c h : xH} {l1 : Int} {l2 : Int} {l3 : Int} {l4 : Int} {l5 : Int} (gl3 : 81 ≤ l3) : f_Md_compares_3 l1 l2 l3 l4 l5 (mx c h) = f_Md_compares_3 l1 l2 l3 l4 l5 h := by
  unfold f_Md_compares_3
  (try simp (disch := omega) only [mx_hi, mx_up, ↓mp_ite, ↓mp_gd, ↓mp_gb, ↓mp_gp, ↓mp_c1, ↓mp_c2, c1_mp, c2_mp, ↓mp_sw, sw_mp, sm_l, sm_r, xlet_eq, Option.map_some, Option.map_none, loc_Md_compares_64, loc_Md_compares_s3])
theorem loc_Md_compares {c h : xH} {l1 : Int} {l2 : Int} {l3 : Int} {l4 : Int} (gl3 : 81 ≤ l3) : f_Md_compares l1 l2 l3 l4 (mx c h) = f_Md_compares l1 l2 l3 l4 h := by
  unfold f_Md_compares
  (try simp (disch := omega) only [mx_hi, mx_up, ↓mp_ite, ↓mp_gd, ↓mp_gb, ↓mp_gp, ↓mp_c1, ↓mp_c2, c1_mp, c2_mp, ↓mp_sw, sw_mp, sm_l, sm_r, xlet_eq, Option.map_some, Option.map_none, loc_Md_compares_3])
theorem loc_Md_wordOf_33 {c h : xH} : f_Md_wordOf_33 (mx c h) = f_Md_wordOf_33 h := by
  unfold f_Md_wordOf_33
  (try simp (disch := omega) only [mx_hi, mx_up, ↓mp_ite, ↓mp_gd, ↓mp_gb, ↓mp_gp, ↓mp_c1, ↓mp_c2, c1_mp, c2_mp, ↓mp_sw, sw_mp, sm_l, sm_r, xlet_eq, Option.map_some, Option.map_none])
theorem loc_Md_wordOf_s3 {c h : xH} {l1 : Int} {l2 : Int} {l3 : Int} {l4 : Int} (gl2 : 81 ≤ l2) : f_Md_wordOf_s3 l1 l2 l3 l4 (mx c h) = f_Md_wordOf_s3 l1 l2 l3 l4 h := by
  unfold f_Md_wordOf_s3
  (try simp (disch := omega) only [mx_hi, mx_up, ↓mp_ite, ↓mp_gd, ↓mp_gb, ↓mp_gp, ↓mp_c1, ↓mp_c2, c1_mp, c2_mp, ↓mp_sw, sw_mp, sm_l, sm_r, xlet_eq, Option.map_some, Option.map_none, loc_Md_compares])
theorem loc_Md_wordOf_3 {c h : xH} {l1 : Int} {l2 : Int} {l3 : Int} {l4 : Int} (gl2 : 81 ≤ l2) : f_Md_wordOf_3 l1 l2 l3 l4 (mx c h) = f_Md_wordOf_3 l1 l2 l3 l4 h := by
  unfold f_Md_wordOf_3
  (try simp (disch := omega) only [mx_hi, mx_up, ↓mp_ite, ↓mp_gd, ↓mp_gb, ↓mp_gp, ↓mp_c1, ↓mp_c2, c1_mp, c2_mp, ↓mp_sw, sw_mp, sm_l, sm_r, xlet_eq, Option.map_some, Option.map_none, loc_Md_wordOf_33, loc_Md_wordOf_s3])
theorem loc_Md_wordOf {c h : xH} {l1 : Int} {l2 : Int} {l3 : Int} (gl2 : 81 ≤ l2) : f_Md_wordOf l1 l2 l3 (mx c h) = f_Md_wordOf l1 l2 l3 h := by
  unfold f_Md_wordOf
  (try simp (disch := omega) only [mx_hi, mx_up, ↓mp_ite, ↓mp_gd, ↓mp_gb, ↓mp_gp, ↓mp_c1, ↓mp_c2, c1_mp, c2_mp, ↓mp_sw, sw_mp, sm_l, sm_r, xlet_eq, Option.map_some, Option.map_none, loc_Md_wordOf_3])
theorem loc_Md_moveWord_60 {c h : xH} : f_Md_moveWord_60 (mx c h) = Option.map (mx c) (f_Md_moveWord_60 h) := by
  unfold f_Md_moveWord_60
  (try simp (disch := omega) only [mx_hi, mx_up, ↓mp_ite, ↓mp_gd, ↓mp_gb, ↓mp_gp, ↓mp_c1, ↓mp_c2, c1_mp, c2_mp, ↓mp_sw, sw_mp, sm_l, sm_r, xlet_eq, Option.map_some, Option.map_none])
theorem loc_Md_moveWord_s26 {c h : xH} {l1 : Int} {l2 : Int} {l3 : Int} : f_Md_moveWord_s26 l1 l2 l3 (mx c h) = Option.map (Sum.map (fun q : (Int × xH) => (q.1, mx c q.2)) (mx c)) (f_Md_moveWord_s26 l1 l2 l3 h) := by
  unfold f_Md_moveWord_s26
  (try simp (disch := omega) only [mx_hi, mx_up, ↓mp_ite, ↓mp_gd, ↓mp_gb, ↓mp_gp, ↓mp_c1, ↓mp_c2, c1_mp, c2_mp, ↓mp_sw, sw_mp, sm_l, sm_r, xlet_eq, Option.map_some, Option.map_none])
theorem loc_Md_moveWord_26 {c h : xH} {l1 : Int} {l2 : Int} {l3 : Int} : f_Md_moveWord_26 l1 l2 l3 (mx c h) = Option.map (mx c) (f_Md_moveWord_26 l1 l2 l3 h) := by
  unfold f_Md_moveWord_26
  rw [xloop_map (f := (fun q : (Int × xH) => (q.1, mx c q.2))) (g := (mx c)) (fun s => loc_Md_moveWord_s26) ((l3, h))]
  (try simp (disch := omega) only [mx_hi, mx_up, ↓mp_ite, ↓mp_gd, ↓mp_gb, ↓mp_gp, ↓mp_c1, ↓mp_c2, c1_mp, c2_mp, ↓mp_sw, sw_mp, sm_l, sm_r, xlet_eq, Option.map_some, Option.map_none, loc_Md_moveWord_60, loc_Md_moveWord_s26])
theorem loc_Md_moveWord {c h : xH} {l1 : Int} {l2 : Int} : f_Md_moveWord l1 l2 (mx c h) = Option.map (mx c) (f_Md_moveWord l1 l2 h) := by
  unfold f_Md_moveWord
  (try simp (disch := omega) only [mx_hi, mx_up, ↓mp_ite, ↓mp_gd, ↓mp_gb, ↓mp_gp, ↓mp_c1, ↓mp_c2, c1_mp, c2_mp, ↓mp_sw, sw_mp, sm_l, sm_r, xlet_eq, Option.map_some, Option.map_none, loc_Md_moveWord_26])
theorem loc_Md_add_212 {c h : xH} {l1 : Int} {l4 : Int} : f_Md_add_212 l1 l4 (mx c h) = Option.map (fun q : Int × xH => (q.1, mx c q.2)) (f_Md_add_212 l1 l4 h) := by
  unfold f_Md_add_212
  (try simp (disch := omega) only [mx_hi, mx_up, ↓mp_ite, ↓mp_gd, ↓mp_gb, ↓mp_gp, ↓mp_c1, ↓mp_c2, c1_mp, c2_mp, ↓mp_sw, sw_mp, sm_l, sm_r, xlet_eq, Option.map_some, Option.map_none])
theorem loc_Md_add_s175 {c h : xH} {l1 : Int} {l4 : Int} {l5 : Int} : f_Md_add_s175 l1 l4 l5 (mx c h) = Option.map (Sum.map (fun q : (Int × xH) => (q.1, mx c q.2)) (mx c)) (f_Md_add_s175 l1 l4 l5 h) := by
  unfold f_Md_add_s175
  (try simp (disch := omega) only [mx_hi, mx_up, ↓mp_ite, ↓mp_gd, ↓mp_gb, ↓mp_gp, ↓mp_c1, ↓mp_c2, c1_mp, c2_mp, ↓mp_sw, sw_mp, sm_l, sm_r, xlet_eq, Option.map_some, Option.map_none])
theorem loc_Md_add_175 {c h : xH} {l1 : Int} {l4 : Int} {l5 : Int} : f_Md_add_175 l1 l4 l5 (mx c h) = Option.map (fun q : Int × xH => (q.1, mx c q.2)) (f_Md_add_175 l1 l4 l5 h) := by
  unfold f_Md_add_175
  rw [xloop_map (f := (fun q : (Int × xH) => (q.1, mx c q.2))) (g := (mx c)) (fun s => loc_Md_add_s175) ((l5, h))]
  (try simp (disch := omega) only [mx_hi, mx_up, ↓mp_ite, ↓mp_gd, ↓mp_gb, ↓mp_gp, ↓mp_c1, ↓mp_c2, c1_mp, c2_mp, ↓mp_sw, sw_mp, sm_l, sm_r, xlet_eq, Option.map_some, Option.map_none, loc_Md_add_212, loc_Md_add_s175])
theorem loc_Md_add_149 {c h : xH} {l1 : Int} {l4 : Int} : f_Md_add_149 l1 l4 (mx c h) = Option.map (fun q : Int × xH => (q.1, mx c q.2)) (f_Md_add_149 l1 l4 h) := by
  unfold f_Md_add_149
  (try simp (disch := omega) only [mx_hi, mx_up, ↓mp_ite, ↓mp_gd, ↓mp_gb, ↓mp_gp, ↓mp_c1, ↓mp_c2, c1_mp, c2_mp, ↓mp_sw, sw_mp, sm_l, sm_r, xlet_eq, Option.map_some, Option.map_none, loc_Md_add_175])
theorem loc_Md_add_s126 {c h : xH} {l1 : Int} {l4 : Int} {l5 : Int} : f_Md_add_s126 l1 l4 l5 (mx c h) = Option.map (Sum.map (fun q : (Int × xH) => (q.1, mx c q.2)) (mx c)) (f_Md_add_s126 l1 l4 l5 h) := by
  unfold f_Md_add_s126
  (try simp (disch := omega) only [mx_hi, mx_up, ↓mp_ite, ↓mp_gd, ↓mp_gb, ↓mp_gp, ↓mp_c1, ↓mp_c2, c1_mp, c2_mp, ↓mp_sw, sw_mp, sm_l, sm_r, xlet_eq, Option.map_some, Option.map_none, loc_Md_moveWord])
theorem loc_Md_add_126 {c h : xH} {l1 : Int} {l4 : Int} {l5 : Int} : f_Md_add_126 l1 l4 l5 (mx c h) = Option.map (fun q : Int × xH => (q.1, mx c q.2)) (f_Md_add_126 l1 l4 l5 h) := by
  unfold f_Md_add_126
  rw [xloop_map (f := (fun q : (Int × xH) => (q.1, mx c q.2))) (g := (mx c)) (fun s => loc_Md_add_s126) ((l5, h))]
  (try simp (disch := omega) only [mx_hi, mx_up, ↓mp_ite, ↓mp_gd, ↓mp_gb, ↓mp_gp, ↓mp_c1, ↓mp_c2, c1_mp, c2_mp, ↓mp_sw, sw_mp, sm_l, sm_r, xlet_eq, Option.map_some, Option.map_none, loc_Md_add_149, loc_Md_add_s126])
theorem loc_Md_add_120 {c h : xH} {l1 : Int} {l4 : Int} : f_Md_add_120 l1 l4 (mx c h) = Option.map (fun q : Int × xH => (q.1, mx c q.2)) (f_Md_add_120 l1 l4 h) := by
  unfold f_Md_add_120
  (try simp (disch := omega) only [mx_hi, mx_up, ↓mp_ite, ↓mp_gd, ↓mp_gb, ↓mp_gp, ↓mp_c1, ↓mp_c2, c1_mp, c2_mp, ↓mp_sw, sw_mp, sm_l, sm_r, xlet_eq, Option.map_some, Option.map_none, loc_Md_add_126])
theorem loc_Md_add_s85 {c h : xH} {l1 : Int} {l4 : Int} : f_Md_add_s85 l1 l4 (mx c h) = f_Md_add_s85 l1 l4 h := by
  unfold f_Md_add_s85
  (try simp (disch := omega) only [mx_hi, mx_up, ↓mp_ite, ↓mp_gd, ↓mp_gb, ↓mp_gp, ↓mp_c1, ↓mp_c2, c1_mp, c2_mp, ↓mp_sw, sw_mp, sm_l, sm_r, xlet_eq, Option.map_some, Option.map_none, loc_Md_compares])
theorem loc_Md_add_85 {c h : xH} {l1 : Int} {l4 : Int} : f_Md_add_85 l1 l4 (mx c h) = Option.map (fun q : Int × xH => (q.1, mx c q.2)) (f_Md_add_85 l1 l4 h) := by
  unfold f_Md_add_85
  (try simp (disch := omega) only [mx_hi, mx_up, ↓mp_ite, ↓mp_gd, ↓mp_gb, ↓mp_gp, ↓mp_c1, ↓mp_c2, c1_mp, c2_mp, ↓mp_sw, sw_mp, sm_l, sm_r, xlet_eq, Option.map_some, Option.map_none, loc_Md_add_120, loc_Md_add_s85])
theorem loc_Md_add {c h : xH} {l1 : Int} : f_Md_add l1 (mx c h) = Option.map (fun q : Int × xH => (q.1, mx c q.2)) (f_Md_add l1 h) := by
  unfold f_Md_add
  (try simp (disch := omega) only [mx_hi, mx_up, ↓mp_ite, ↓mp_gd, ↓mp_gb, ↓mp_gp, ↓mp_c1, ↓mp_c2, c1_mp, c2_mp, ↓mp_sw, sw_mp, sm_l, sm_r, xlet_eq, Option.map_some, Option.map_none, loc_Md_add_85, loc_Md_in, loc_Md_min, loc_Md_readsOne, loc_Md_wordOf])
theorem loc_Md_drop_66 {c h : xH} {l2 : Int} : f_Md_drop_66 l2 (mx c h) = Option.map (fun q : Int × xH => (q.1, mx c q.2)) (f_Md_drop_66 l2 h) := by
  unfold f_Md_drop_66
  (try simp (disch := omega) only [mx_hi, mx_up, ↓mp_ite, ↓mp_gd, ↓mp_gb, ↓mp_gp, ↓mp_c1, ↓mp_c2, c1_mp, c2_mp, ↓mp_sw, sw_mp, sm_l, sm_r, xlet_eq, Option.map_some, Option.map_none])
theorem loc_Md_drop_s42 {c h : xH} {l2 : Int} {l3 : Int} : f_Md_drop_s42 l2 l3 (mx c h) = Option.map (Sum.map (fun q : (Int × xH) => (q.1, mx c q.2)) (mx c)) (f_Md_drop_s42 l2 l3 h) := by
  unfold f_Md_drop_s42
  (try simp (disch := omega) only [mx_hi, mx_up, ↓mp_ite, ↓mp_gd, ↓mp_gb, ↓mp_gp, ↓mp_c1, ↓mp_c2, c1_mp, c2_mp, ↓mp_sw, sw_mp, sm_l, sm_r, xlet_eq, Option.map_some, Option.map_none, loc_Md_moveWord])
theorem loc_Md_drop_42 {c h : xH} {l2 : Int} {l3 : Int} : f_Md_drop_42 l2 l3 (mx c h) = Option.map (fun q : Int × xH => (q.1, mx c q.2)) (f_Md_drop_42 l2 l3 h) := by
  unfold f_Md_drop_42
  rw [xloop_map (f := (fun q : (Int × xH) => (q.1, mx c q.2))) (g := (mx c)) (fun s => loc_Md_drop_s42) ((l3, h))]
  (try simp (disch := omega) only [mx_hi, mx_up, ↓mp_ite, ↓mp_gd, ↓mp_gb, ↓mp_gp, ↓mp_c1, ↓mp_c2, c1_mp, c2_mp, ↓mp_sw, sw_mp, sm_l, sm_r, xlet_eq, Option.map_some, Option.map_none, loc_Md_drop_66, loc_Md_drop_s42])
theorem loc_Md_drop {c h : xH} : f_Md_drop (mx c h) = Option.map (fun q : Int × xH => (q.1, mx c q.2)) (f_Md_drop h) := by
  unfold f_Md_drop
  (try simp (disch := omega) only [mx_hi, mx_up, ↓mp_ite, ↓mp_gd, ↓mp_gb, ↓mp_gp, ↓mp_c1, ↓mp_c2, c1_mp, c2_mp, ↓mp_sw, sw_mp, sm_l, sm_r, xlet_eq, Option.map_some, Option.map_none, loc_Md_drop_42, loc_Md_readsOne, loc_Md_wordOf])
theorem loc_Md_find {c h : xH} : f_Md_find (mx c h) = Option.map (fun q : Int × xH => (q.1, mx c q.2)) (f_Md_find h) := by
  unfold f_Md_find
  (try simp (disch := omega) only [mx_hi, mx_up, ↓mp_ite, ↓mp_gd, ↓mp_gb, ↓mp_gp, ↓mp_c1, ↓mp_c2, c1_mp, c2_mp, ↓mp_sw, sw_mp, sm_l, sm_r, xlet_eq, Option.map_some, Option.map_none, loc_Md_readsOne, loc_Md_wordOf])
theorem loc_Md_word {c h : xH} {l1 : Int} {l2 : Int} : f_Md_word l1 l2 (mx c h) = f_Md_word l1 l2 h := by
  unfold f_Md_word
  (try simp (disch := omega) only [mx_hi, mx_up, ↓mp_ite, ↓mp_gd, ↓mp_gb, ↓mp_gp, ↓mp_c1, ↓mp_c2, c1_mp, c2_mp, ↓mp_sw, sw_mp, sm_l, sm_r, xlet_eq, Option.map_some, Option.map_none, loc_Md_in])
theorem loc_Md_alike_57 {c h : xH} {l2 : Int} : f_Md_alike_57 l2 (mx c h) = f_Md_alike_57 l2 h := by
  unfold f_Md_alike_57
  (try simp (disch := omega) only [mx_hi, mx_up, ↓mp_ite, ↓mp_gd, ↓mp_gb, ↓mp_gp, ↓mp_c1, ↓mp_c2, c1_mp, c2_mp, ↓mp_sw, sw_mp, sm_l, sm_r, xlet_eq, Option.map_some, Option.map_none])
theorem loc_Md_alike_s2 {c h : xH} {l1 : Int} {l2 : Int} : f_Md_alike_s2 l1 l2 (mx c h) = f_Md_alike_s2 l1 l2 h := by
  unfold f_Md_alike_s2
  (try simp (disch := omega) only [mx_hi, mx_up, ↓mp_ite, ↓mp_gd, ↓mp_gb, ↓mp_gp, ↓mp_c1, ↓mp_c2, c1_mp, c2_mp, ↓mp_sw, sw_mp, sm_l, sm_r, xlet_eq, Option.map_some, Option.map_none])
theorem loc_Md_alike_2 {c h : xH} {l1 : Int} {l2 : Int} : f_Md_alike_2 l1 l2 (mx c h) = f_Md_alike_2 l1 l2 h := by
  unfold f_Md_alike_2
  (try simp (disch := omega) only [mx_hi, mx_up, ↓mp_ite, ↓mp_gd, ↓mp_gb, ↓mp_gp, ↓mp_c1, ↓mp_c2, c1_mp, c2_mp, ↓mp_sw, sw_mp, sm_l, sm_r, xlet_eq, Option.map_some, Option.map_none, loc_Md_alike_57, loc_Md_alike_s2])
theorem loc_Md_alike {c h : xH} {l1 : Int} : f_Md_alike l1 (mx c h) = f_Md_alike l1 h := by
  unfold f_Md_alike
  (try simp (disch := omega) only [mx_hi, mx_up, ↓mp_ite, ↓mp_gd, ↓mp_gb, ↓mp_gp, ↓mp_c1, ↓mp_c2, c1_mp, c2_mp, ↓mp_sw, sw_mp, sm_l, sm_r, xlet_eq, Option.map_some, Option.map_none, loc_Md_alike_2])
theorem loc_Md_nodes_53 {c h : xH} {l1 : Int} : f_Md_nodes_53 l1 (mx c h) = f_Md_nodes_53 l1 h := by
  unfold f_Md_nodes_53
  (try simp (disch := omega) only [mx_hi, mx_up, ↓mp_ite, ↓mp_gd, ↓mp_gb, ↓mp_gp, ↓mp_c1, ↓mp_c2, c1_mp, c2_mp, ↓mp_sw, sw_mp, sm_l, sm_r, xlet_eq, Option.map_some, Option.map_none])
theorem loc_Md_nodes_s20 {c h : xH} {l1 : Int} {l2 : Int} : f_Md_nodes_s20 l1 l2 (mx c h) = f_Md_nodes_s20 l1 l2 h := by
  unfold f_Md_nodes_s20
  (try simp (disch := omega) only [mx_hi, mx_up, ↓mp_ite, ↓mp_gd, ↓mp_gb, ↓mp_gp, ↓mp_c1, ↓mp_c2, c1_mp, c2_mp, ↓mp_sw, sw_mp, sm_l, sm_r, xlet_eq, Option.map_some, Option.map_none, loc_Md_alike])
theorem loc_Md_nodes_20 {c h : xH} {l1 : Int} {l2 : Int} : f_Md_nodes_20 l1 l2 (mx c h) = f_Md_nodes_20 l1 l2 h := by
  unfold f_Md_nodes_20
  (try simp (disch := omega) only [mx_hi, mx_up, ↓mp_ite, ↓mp_gd, ↓mp_gb, ↓mp_gp, ↓mp_c1, ↓mp_c2, c1_mp, c2_mp, ↓mp_sw, sw_mp, sm_l, sm_r, xlet_eq, Option.map_some, Option.map_none, loc_Md_nodes_53, loc_Md_nodes_s20])
theorem loc_Md_nodes {c h : xH} : f_Md_nodes (mx c h) = f_Md_nodes h := by
  unfold f_Md_nodes
  (try simp (disch := omega) only [mx_hi, mx_up, ↓mp_ite, ↓mp_gd, ↓mp_gb, ↓mp_gp, ↓mp_c1, ↓mp_c2, c1_mp, c2_mp, ↓mp_sw, sw_mp, sm_l, sm_r, xlet_eq, Option.map_some, Option.map_none, loc_Md_nodes_20])
theorem loc_Md_count {c h : xH} {l1 : Int} : f_Md_count l1 (mx c h) = f_Md_count l1 h := by
  unfold f_Md_count
  (try simp (disch := omega) only [mx_hi, mx_up, ↓mp_ite, ↓mp_gd, ↓mp_gb, ↓mp_gp, ↓mp_c1, ↓mp_c2, c1_mp, c2_mp, ↓mp_sw, sw_mp, sm_l, sm_r, xlet_eq, Option.map_some, Option.map_none, loc_Md_nodes])
theorem loc_Md_price_99 {c h : xH} {l1 : Int} {l2 : Int} {l3 : Int} {l4 : Int} : f_Md_price_99 l1 l2 l3 l4 (mx c h) = Option.map (fun q : Int × xH => (q.1, mx c q.2)) (f_Md_price_99 l1 l2 l3 l4 h) := by
  unfold f_Md_price_99
  (try simp (disch := omega) only [mx_hi, mx_up, ↓mp_ite, ↓mp_gd, ↓mp_gb, ↓mp_gp, ↓mp_c1, ↓mp_c2, c1_mp, c2_mp, ↓mp_sw, sw_mp, sm_l, sm_r, xlet_eq, Option.map_some, Option.map_none, loc_Md_in])
theorem loc_Md_price {c h : xH} {l1 : Int} {l2 : Int} {l3 : Int} {l4 : Int} : f_Md_price l1 l2 l3 l4 (mx c h) = Option.map (fun q : Int × xH => (q.1, mx c q.2)) (f_Md_price l1 l2 l3 l4 h) := by
  unfold f_Md_price
  (try simp (disch := omega) only [mx_hi, mx_up, ↓mp_ite, ↓mp_gd, ↓mp_gb, ↓mp_gp, ↓mp_c1, ↓mp_c2, c1_mp, c2_mp, ↓mp_sw, sw_mp, sm_l, sm_r, xlet_eq, Option.map_some, Option.map_none, loc_Md_in, loc_Md_price_99])
theorem loc_Md_sound_120 {c h : xH} {l1 : Int} : f_Md_sound_120 l1 (mx c h) = Option.map (fun q : Int × xH => (q.1, mx c q.2)) (f_Md_sound_120 l1 h) := by
  unfold f_Md_sound_120
  (try simp (disch := omega) only [mx_hi, mx_up, ↓mp_ite, ↓mp_gd, ↓mp_gb, ↓mp_gp, ↓mp_c1, ↓mp_c2, c1_mp, c2_mp, ↓mp_sw, sw_mp, sm_l, sm_r, xlet_eq, Option.map_some, Option.map_none])
theorem loc_Md_sound_s68 {c h : xH} {l1 : Int} {l3 : Int} : f_Md_sound_s68 l1 l3 (mx c h) = Option.map (Sum.map (fun q : (Int × xH) => (q.1, mx c q.2)) (mx c)) (f_Md_sound_s68 l1 l3 h) := by
  unfold f_Md_sound_s68
  (try simp (disch := omega) only [mx_hi, mx_up, ↓mp_ite, ↓mp_gd, ↓mp_gb, ↓mp_gp, ↓mp_c1, ↓mp_c2, c1_mp, c2_mp, ↓mp_sw, sw_mp, sm_l, sm_r, xlet_eq, Option.map_some, Option.map_none])
theorem loc_Md_sound_68 {c h : xH} {l1 : Int} {l3 : Int} : f_Md_sound_68 l1 l3 (mx c h) = Option.map (fun q : Int × xH => (q.1, mx c q.2)) (f_Md_sound_68 l1 l3 h) := by
  unfold f_Md_sound_68
  rw [xloop_map (f := (fun q : (Int × xH) => (q.1, mx c q.2))) (g := (mx c)) (fun s => loc_Md_sound_s68) ((l3, h))]
  (try simp (disch := omega) only [mx_hi, mx_up, ↓mp_ite, ↓mp_gd, ↓mp_gb, ↓mp_gp, ↓mp_c1, ↓mp_c2, c1_mp, c2_mp, ↓mp_sw, sw_mp, sm_l, sm_r, xlet_eq, Option.map_some, Option.map_none, loc_Md_sound_120, loc_Md_sound_s68])
theorem loc_Md_sound {c h : xH} {l1 : Int} : f_Md_sound l1 (mx c h) = Option.map (fun q : Int × xH => (q.1, mx c q.2)) (f_Md_sound l1 h) := by
  unfold f_Md_sound
  (try simp (disch := omega) only [mx_hi, mx_up, ↓mp_ite, ↓mp_gd, ↓mp_gb, ↓mp_gp, ↓mp_c1, ↓mp_c2, c1_mp, c2_mp, ↓mp_sw, sw_mp, sm_l, sm_r, xlet_eq, Option.map_some, Option.map_none, loc_Md_in, loc_Md_readsTwo, loc_Md_sound_68])
theorem loc_Md_model {c h : xH} {l1 : Int} : f_Md_model l1 (mx c h) = Option.map (fun q : Int × xH => (q.1, mx c q.2)) (f_Md_model l1 h) := by
  unfold f_Md_model
  (try simp (disch := omega) only [mx_hi, mx_up, ↓mp_ite, ↓mp_gd, ↓mp_gb, ↓mp_gp, ↓mp_c1, ↓mp_c2, c1_mp, c2_mp, ↓mp_sw, sw_mp, sm_l, sm_r, xlet_eq, Option.map_some, Option.map_none, loc_Md_in])
theorem loc_Md_share_191 {c h : xH} {l2 : Int} {l9 : Int64} : f_Md_share_191 l2 l9 (mx c h) = f_Md_share_191 l2 l9 h := by
  unfold f_Md_share_191
  (try simp (disch := omega) only [mx_hi])
theorem loc_Md_share_184 {c h : xH} {l2 : Int} {l9 : Int64} {l11 : Int} : f_Md_share_184 l2 l9 l11 (mx c h) = f_Md_share_184 l2 l9 l11 h := by
  unfold f_Md_share_184
  (try simp (disch := omega) only [mx_hi, loc_Md_share_191])
theorem loc_Md_share_178 {c h : xH} {l2 : Int} {l9 : Int64} {l11 : Int} : f_Md_share_178 l2 l9 l11 (mx c h) = f_Md_share_178 l2 l9 l11 h := by
  unfold f_Md_share_178
  (try simp (disch := omega) only [mx_hi, loc_Md_share_184])
theorem loc_Md_share_122 {c h : xH} {l2 : Int} {l9 : Int64} {l11 : Int} : f_Md_share_122 l2 l9 l11 (mx c h) = f_Md_share_122 l2 l9 l11 h := by
  unfold f_Md_share_122
  (try simp (disch := omega) only [mx_hi, loc_Md_share_178, loc_Md_share_184, loc_Md_share_191])
theorem loc_Md_share_s104 {c h : xH} {l2 : Int} {l9 : Int64} {l11 : Int} : f_Md_share_s104 l2 l9 l11 (mx c h) = f_Md_share_s104 l2 l9 l11 h := by
  unfold f_Md_share_s104
  (try simp (disch := omega) only [mx_hi])
theorem loc_Md_share_104 {c h : xH} {l2 : Int} {l9 : Int64} {l11 : Int} : f_Md_share_104 l2 l9 l11 (mx c h) = f_Md_share_104 l2 l9 l11 h := by
  unfold f_Md_share_104
  (try simp (disch := omega) only [mx_hi, loc_Md_share_122, loc_Md_share_s104])
theorem loc_Md_share_94 {c h : xH} {l1 : Int} {l2 : Int} {l5 : Int64} : f_Md_share_94 l1 l2 l5 (mx c h) = f_Md_share_94 l1 l2 l5 h := by
  unfold f_Md_share_94
  (try simp (disch := omega) only [mx_hi, loc_Md_share_104])
theorem loc_Md_share_88 {c h : xH} {l1 : Int} {l2 : Int} {l5 : Int64} : f_Md_share_88 l1 l2 l5 (mx c h) = f_Md_share_88 l1 l2 l5 h := by
  unfold f_Md_share_88
  (try simp (disch := omega) only [mx_hi, loc_Md_share_94])
theorem loc_Md_share_39 {c h : xH} {l1 : Int} {l2 : Int} {l3 : Int64} : f_Md_share_39 l1 l2 l3 (mx c h) = f_Md_share_39 l1 l2 l3 h := by
  unfold f_Md_share_39
  (try simp (disch := omega) only [mx_hi, loc_Md_share_88, loc_Md_share_94])
theorem loc_Md_share_s17 {c h : xH} {l1 : Int} {l2 : Int} {l3 : Int64} : f_Md_share_s17 l1 l2 l3 (mx c h) = f_Md_share_s17 l1 l2 l3 h := by
  unfold f_Md_share_s17
  (try simp (disch := omega) only [mx_hi])
theorem loc_Md_share_17 {c h : xH} {l1 : Int} {l2 : Int} {l3 : Int64} : f_Md_share_17 l1 l2 l3 (mx c h) = f_Md_share_17 l1 l2 l3 h := by
  unfold f_Md_share_17
  (try simp (disch := omega) only [mx_hi, loc_Md_share_39, loc_Md_share_s17])
theorem loc_Md_share {c h : xH} {l1 : Int} : f_Md_share l1 (mx c h) = f_Md_share l1 h := by
  unfold f_Md_share
  (try simp (disch := omega) only [mx_hi, mx_up, ↓mp_ite, ↓mp_gd, ↓mp_gb, ↓mp_gp, ↓mp_c1, ↓mp_c2, c1_mp, c2_mp, ↓mp_sw, sw_mp, sm_l, sm_r, xlet_eq, Option.map_some, Option.map_none, loc_Md_share_17])
theorem loc_Md_swapPrice {c h : xH} {l1 : Int} {l2 : Int} : f_Md_swapPrice l1 l2 (mx c h) = f_Md_swapPrice l1 l2 h := by
  unfold f_Md_swapPrice
  (try simp (disch := omega) only [mx_hi, mx_up, ↓mp_ite, ↓mp_gd, ↓mp_gb, ↓mp_gp, ↓mp_c1, ↓mp_c2, c1_mp, c2_mp, ↓mp_sw, sw_mp, sm_l, sm_r, xlet_eq, Option.map_some, Option.map_none])
theorem loc_Md_leftPrice {c h : xH} {l1 : Int} : f_Md_leftPrice l1 (mx c h) = f_Md_leftPrice l1 h := by
  unfold f_Md_leftPrice
  (try simp (disch := omega) only [mx_hi, mx_up, ↓mp_ite, ↓mp_gd, ↓mp_gb, ↓mp_gp, ↓mp_c1, ↓mp_c2, c1_mp, c2_mp, ↓mp_sw, sw_mp, sm_l, sm_r, xlet_eq, Option.map_some, Option.map_none])
theorem loc_Md_putPrice {c h : xH} {l1 : Int} : f_Md_putPrice l1 (mx c h) = f_Md_putPrice l1 h := by
  unfold f_Md_putPrice
  (try simp (disch := omega) only [mx_hi, mx_up, ↓mp_ite, ↓mp_gd, ↓mp_gb, ↓mp_gp, ↓mp_c1, ↓mp_c2, c1_mp, c2_mp, ↓mp_sw, sw_mp, sm_l, sm_r, xlet_eq, Option.map_some, Option.map_none])
theorem loc_Md_hasSound_122 {c h : xH} : f_Md_hasSound_122 (mx c h) = f_Md_hasSound_122 h := by
  unfold f_Md_hasSound_122
  (try simp (disch := omega) only [mx_hi, mx_up, ↓mp_ite, ↓mp_gd, ↓mp_gb, ↓mp_gp, ↓mp_c1, ↓mp_c2, c1_mp, c2_mp, ↓mp_sw, sw_mp, sm_l, sm_r, xlet_eq, Option.map_some, Option.map_none])
theorem loc_Md_hasSound_s80 {c h : xH} {l1 : Int} {l3 : Int} {l4 : Int} : f_Md_hasSound_s80 l1 l3 l4 (mx c h) = f_Md_hasSound_s80 l1 l3 l4 h := by
  unfold f_Md_hasSound_s80
  (try simp (disch := omega) only [mx_hi, mx_up, ↓mp_ite, ↓mp_gd, ↓mp_gb, ↓mp_gp, ↓mp_c1, ↓mp_c2, c1_mp, c2_mp, ↓mp_sw, sw_mp, sm_l, sm_r, xlet_eq, Option.map_some, Option.map_none])
theorem loc_Md_hasSound_80 {c h : xH} {l1 : Int} {l3 : Int} {l4 : Int} : f_Md_hasSound_80 l1 l3 l4 (mx c h) = f_Md_hasSound_80 l1 l3 l4 h := by
  unfold f_Md_hasSound_80
  (try simp (disch := omega) only [mx_hi, mx_up, ↓mp_ite, ↓mp_gd, ↓mp_gb, ↓mp_gp, ↓mp_c1, ↓mp_c2, c1_mp, c2_mp, ↓mp_sw, sw_mp, sm_l, sm_r, xlet_eq, Option.map_some, Option.map_none, loc_Md_hasSound_122, loc_Md_hasSound_s80])
theorem loc_Md_hasSound_77 {c h : xH} {l1 : Int} {l3 : Int} : f_Md_hasSound_77 l1 l3 (mx c h) = f_Md_hasSound_77 l1 l3 h := by
  unfold f_Md_hasSound_77
  (try simp (disch := omega) only [mx_hi, mx_up, ↓mp_ite, ↓mp_gd, ↓mp_gb, ↓mp_gp, ↓mp_c1, ↓mp_c2, c1_mp, c2_mp, ↓mp_sw, sw_mp, sm_l, sm_r, xlet_eq, Option.map_some, Option.map_none, loc_Md_hasSound_80])
theorem loc_Md_hasSound_s35 {c h : xH} {l1 : Int} {l2 : Int} {l3 : Int} {l4 : Int} : f_Md_hasSound_s35 l1 l2 l3 l4 (mx c h) = f_Md_hasSound_s35 l1 l2 l3 l4 h := by
  unfold f_Md_hasSound_s35
  (try simp (disch := omega) only [mx_hi, mx_up, ↓mp_ite, ↓mp_gd, ↓mp_gb, ↓mp_gp, ↓mp_c1, ↓mp_c2, c1_mp, c2_mp, ↓mp_sw, sw_mp, sm_l, sm_r, xlet_eq, Option.map_some, Option.map_none])
theorem loc_Md_hasSound_35 {c h : xH} {l1 : Int} {l2 : Int} {l3 : Int} {l4 : Int} : f_Md_hasSound_35 l1 l2 l3 l4 (mx c h) = f_Md_hasSound_35 l1 l2 l3 l4 h := by
  unfold f_Md_hasSound_35
  (try simp (disch := omega) only [mx_hi, mx_up, ↓mp_ite, ↓mp_gd, ↓mp_gb, ↓mp_gp, ↓mp_c1, ↓mp_c2, c1_mp, c2_mp, ↓mp_sw, sw_mp, sm_l, sm_r, xlet_eq, Option.map_some, Option.map_none, loc_Md_hasSound_77, loc_Md_hasSound_s35])
theorem loc_Md_hasSound {c h : xH} {l1 : Int} {l2 : Int} {l3 : Int} : f_Md_hasSound l1 l2 l3 (mx c h) = f_Md_hasSound l1 l2 l3 h := by
  unfold f_Md_hasSound
  (try simp (disch := omega) only [mx_hi, mx_up, ↓mp_ite, ↓mp_gd, ↓mp_gb, ↓mp_gp, ↓mp_c1, ↓mp_c2, c1_mp, c2_mp, ↓mp_sw, sw_mp, sm_l, sm_r, xlet_eq, Option.map_some, Option.map_none, loc_Md_hasSound_35])
theorem loc_Md_slip_39 {c h : xH} {l1 : Int} {l2 : Int} {l3 : Int} {l4 : Int} {l5 : Int} {s0 : Int} : f_Md_slip_39 l1 l2 l3 l4 l5 s0 (mx c h) = Option.map (fun q : Int × xH => (q.1, mx c q.2)) (f_Md_slip_39 l1 l2 l3 l4 l5 s0 h) := by
  unfold f_Md_slip_39
  simp (maxSteps := 2000000) (disch := omega) only [mx_hi, mx_up, ↓mp_ite, ↓mp_gd, ↓mp_gb, ↓mp_gp, ↓mp_c1, ↓mp_c2, c1_mp, c2_mp, ↓mp_sw, sw_mp, sm_l, sm_r, xlet_eq, Option.map_some, Option.map_none, loc_Md_hasSound, loc_Md_leftPrice, loc_Md_putPrice, loc_Md_swapPrice]
theorem loc_Md_slip_23 {c h : xH} {l1 : Int} {l2 : Int} {l3 : Int} {l4 : Int} {s0 : Int} : f_Md_slip_23 l1 l2 l3 l4 s0 (mx c h) = Option.map (fun q : Int × xH => (q.1, mx c q.2)) (f_Md_slip_23 l1 l2 l3 l4 s0 h) := by
  unfold f_Md_slip_23
  (try simp (disch := omega) only [mx_hi, mx_up, ↓mp_ite, ↓mp_gd, ↓mp_gb, ↓mp_gp, ↓mp_c1, ↓mp_c2, c1_mp, c2_mp, ↓mp_sw, sw_mp, sm_l, sm_r, xlet_eq, Option.map_some, Option.map_none, loc_Md_slip_39])
theorem loc_Md_slip {c h : xH} {l1 : Int} {l2 : Int} {l3 : Int} {l4 : Int} : f_Md_slip l1 l2 l3 l4 (mx c h) = Option.map (fun q : Int × xH => (q.1, mx c q.2)) (f_Md_slip l1 l2 l3 l4 h) := by
  unfold f_Md_slip
  simp (maxSteps := 2000000) (disch := omega) only [mx_hi, mx_up, ↓mp_ite, ↓mp_gd, ↓mp_gb, ↓mp_gp, ↓mp_c1, ↓mp_c2, c1_mp, c2_mp, ↓mp_sw, sw_mp, sm_l, sm_r, xlet_eq, Option.map_some, Option.map_none, loc_Md_slip_23]
theorem loc_Md_sums_144 {c h : xH} : f_Md_sums_144 (mx c h) = Option.map (mx c) (f_Md_sums_144 h) := by
  unfold f_Md_sums_144
  (try simp (disch := omega) only [mx_hi, mx_up, ↓mp_ite, ↓mp_gd, ↓mp_gb, ↓mp_gp, ↓mp_c1, ↓mp_c2, c1_mp, c2_mp, ↓mp_sw, sw_mp, sm_l, sm_r, xlet_eq, Option.map_some, Option.map_none])
theorem loc_Md_sums_138 {c h : xH} {l1 : Int} : f_Md_sums_138 l1 (mx c h) = Option.map (Sum.map (fun q : (Int × xH) => (q.1, mx c q.2)) (mx c)) (f_Md_sums_138 l1 h) := by
  unfold f_Md_sums_138
  (try simp (disch := omega) only [mx_hi, mx_up, ↓mp_ite, ↓mp_gd, ↓mp_gb, ↓mp_gp, ↓mp_c1, ↓mp_c2, c1_mp, c2_mp, ↓mp_sw, sw_mp, sm_l, sm_r, xlet_eq, Option.map_some, Option.map_none])
theorem loc_Md_sums_120 {c h : xH} {l1 : Int} {l2 : Int} {l3 : Int} : f_Md_sums_120 l1 l2 l3 (mx c h) = Option.map (Sum.map (fun q : (Int × xH) => (q.1, mx c q.2)) (mx c)) (f_Md_sums_120 l1 l2 l3 h) := by
  unfold f_Md_sums_120
  (try simp (disch := omega) only [mx_hi, mx_up, ↓mp_ite, ↓mp_gd, ↓mp_gb, ↓mp_gp, ↓mp_c1, ↓mp_c2, c1_mp, c2_mp, ↓mp_sw, sw_mp, sm_l, sm_r, xlet_eq, Option.map_some, Option.map_none])
theorem loc_Md_sums_114 {c h : xH} {l1 : Int} {l2 : Int} {l3 : Int} {l4 : Int} : f_Md_sums_114 l1 l2 l3 l4 (mx c h) = Option.map (Sum.map (fun q : (Int × Int × xH) => (q.1, q.2.1, mx c q.2.2)) (fun q : (Int × xH) => (q.1, mx c q.2))) (f_Md_sums_114 l1 l2 l3 l4 h) := by
  unfold f_Md_sums_114
  (try simp (disch := omega) only [mx_hi, mx_up, ↓mp_ite, ↓mp_gd, ↓mp_gb, ↓mp_gp, ↓mp_c1, ↓mp_c2, c1_mp, c2_mp, ↓mp_sw, sw_mp, sm_l, sm_r, xlet_eq, Option.map_some, Option.map_none])
theorem loc_Md_sums_s45 {c h : xH} {l1 : Int} {l2 : Int} {l3 : Int} {l4 : Int} : f_Md_sums_s45 l1 l2 l3 l4 (mx c h) = Option.map (Sum.map (fun q : (Int × Int × xH) => (q.1, q.2.1, mx c q.2.2)) (fun q : (Int × xH) => (q.1, mx c q.2))) (f_Md_sums_s45 l1 l2 l3 l4 h) := by
  unfold f_Md_sums_s45
  (try simp (disch := omega) only [mx_hi, mx_up, ↓mp_ite, ↓mp_gd, ↓mp_gb, ↓mp_gp, ↓mp_c1, ↓mp_c2, c1_mp, c2_mp, ↓mp_sw, sw_mp, sm_l, sm_r, xlet_eq, Option.map_some, Option.map_none, loc_Md_min, loc_Md_slip, loc_Md_sums_114])
theorem loc_Md_sums_45 {c h : xH} {l1 : Int} {l2 : Int} {l3 : Int} {l4 : Int} : f_Md_sums_45 l1 l2 l3 l4 (mx c h) = Option.map (Sum.map (fun q : (Int × xH) => (q.1, mx c q.2)) (mx c)) (f_Md_sums_45 l1 l2 l3 l4 h) := by
  unfold f_Md_sums_45
  rw [xloop_map (f := (fun q : (Int × Int × xH) => (q.1, q.2.1, mx c q.2.2))) (g := (fun q : (Int × xH) => (q.1, mx c q.2))) (fun s => loc_Md_sums_s45) ((l3, l4, h))]
  (try simp (disch := omega) only [mx_hi, mx_up, ↓mp_ite, ↓mp_gd, ↓mp_gb, ↓mp_gp, ↓mp_c1, ↓mp_c2, c1_mp, c2_mp, ↓mp_sw, sw_mp, sm_l, sm_r, xlet_eq, Option.map_some, Option.map_none, loc_Md_sums_120, loc_Md_sums_s45])
theorem loc_Md_sums_41 {c h : xH} {l1 : Int} {l2 : Int} {s0 : Int} : f_Md_sums_41 l1 l2 s0 (mx c h) = Option.map (Sum.map (fun q : (Int × xH) => (q.1, mx c q.2)) (mx c)) (f_Md_sums_41 l1 l2 s0 h) := by
  unfold f_Md_sums_41
  (try simp (disch := omega) only [mx_hi, mx_up, ↓mp_ite, ↓mp_gd, ↓mp_gb, ↓mp_gp, ↓mp_c1, ↓mp_c2, c1_mp, c2_mp, ↓mp_sw, sw_mp, sm_l, sm_r, xlet_eq, Option.map_some, Option.map_none, loc_Md_sums_45])
theorem loc_Md_sums_38 {c h : xH} {l1 : Int} {l2 : Int} : f_Md_sums_38 l1 l2 (mx c h) = Option.map (Sum.map (fun q : (Int × xH) => (q.1, mx c q.2)) (mx c)) (f_Md_sums_38 l1 l2 h) := by
  unfold f_Md_sums_38
  (try simp (disch := omega) only [mx_hi, mx_up, ↓mp_ite, ↓mp_gd, ↓mp_gb, ↓mp_gp, ↓mp_c1, ↓mp_c2, c1_mp, c2_mp, ↓mp_sw, sw_mp, sm_l, sm_r, xlet_eq, Option.map_some, Option.map_none, loc_Md_sums_41])
theorem loc_Md_sums_s14 {c h : xH} {l1 : Int} {l2 : Int} : f_Md_sums_s14 l1 l2 (mx c h) = Option.map (Sum.map (fun q : (Int × xH) => (q.1, mx c q.2)) (mx c)) (f_Md_sums_s14 l1 l2 h) := by
  unfold f_Md_sums_s14
  (try simp (disch := omega) only [mx_hi, mx_up, ↓mp_ite, ↓mp_gd, ↓mp_gb, ↓mp_gp, ↓mp_c1, ↓mp_c2, c1_mp, c2_mp, ↓mp_sw, sw_mp, sm_l, sm_r, xlet_eq, Option.map_some, Option.map_none, loc_Md_sums_38, loc_Md_sums_41])
theorem loc_Md_sums_14 {c h : xH} {l1 : Int} {l2 : Int} : f_Md_sums_14 l1 l2 (mx c h) = Option.map (Sum.map (fun q : (Int × xH) => (q.1, mx c q.2)) (mx c)) (f_Md_sums_14 l1 l2 h) := by
  unfold f_Md_sums_14
  rw [xloop_map (f := (fun q : (Int × xH) => (q.1, mx c q.2))) (g := (mx c)) (fun s => loc_Md_sums_s14) ((l2, h))]
  (try simp (disch := omega) only [mx_hi, mx_up, ↓mp_ite, ↓mp_gd, ↓mp_gb, ↓mp_gp, ↓mp_c1, ↓mp_c2, c1_mp, c2_mp, ↓mp_sw, sw_mp, sm_l, sm_r, xlet_eq, Option.map_some, Option.map_none, loc_Md_sums_138, loc_Md_sums_s14])
theorem loc_Md_sums_s5 {c h : xH} {l1 : Int} : f_Md_sums_s5 l1 (mx c h) = Option.map (Sum.map (fun q : (Int × xH) => (q.1, mx c q.2)) (mx c)) (f_Md_sums_s5 l1 h) := by
  unfold f_Md_sums_s5
  (try simp (disch := omega) only [mx_hi, mx_up, ↓mp_ite, ↓mp_gd, ↓mp_gb, ↓mp_gp, ↓mp_c1, ↓mp_c2, c1_mp, c2_mp, ↓mp_sw, sw_mp, sm_l, sm_r, xlet_eq, Option.map_some, Option.map_none, loc_Md_sums_14])
theorem loc_Md_sums_5 {c h : xH} {l1 : Int} : f_Md_sums_5 l1 (mx c h) = Option.map (mx c) (f_Md_sums_5 l1 h) := by
  unfold f_Md_sums_5
  rw [xloop_map (f := (fun q : (Int × xH) => (q.1, mx c q.2))) (g := (mx c)) (fun s => loc_Md_sums_s5) ((l1, h))]
  (try simp (disch := omega) only [mx_hi, mx_up, ↓mp_ite, ↓mp_gd, ↓mp_gb, ↓mp_gp, ↓mp_c1, ↓mp_c2, c1_mp, c2_mp, ↓mp_sw, sw_mp, sm_l, sm_r, xlet_eq, Option.map_some, Option.map_none, loc_Md_sums_144, loc_Md_sums_s5])
theorem loc_Md_sums {c h : xH} : f_Md_sums (mx c h) = Option.map (mx c) (f_Md_sums h) := by
  unfold f_Md_sums
  (try simp (disch := omega) only [mx_hi, mx_up, ↓mp_ite, ↓mp_gd, ↓mp_gb, ↓mp_gp, ↓mp_c1, ↓mp_c2, c1_mp, c2_mp, ↓mp_sw, sw_mp, sm_l, sm_r, xlet_eq, Option.map_some, Option.map_none, loc_Md_sums_5])
theorem loc_Md_ways_203 {c h : xH} : f_Md_ways_203 (mx c h) = Option.map (mx c) (f_Md_ways_203 h) := by
  unfold f_Md_ways_203
  (try simp (disch := omega) only [mx_hi, mx_up, ↓mp_ite, ↓mp_gd, ↓mp_gb, ↓mp_gp, ↓mp_c1, ↓mp_c2, c1_mp, c2_mp, ↓mp_sw, sw_mp, sm_l, sm_r, xlet_eq, Option.map_some, Option.map_none])
theorem loc_Md_ways_175 {c h : xH} {l1 : Int} {l2 : Int} {s1 : Int} {s2 : Int} : f_Md_ways_175 l1 l2 s1 s2 (mx c h) = Option.map (Sum.map (fun q : (Int × Int × xH) => (q.1, q.2.1, mx c q.2.2)) (mx c)) (f_Md_ways_175 l1 l2 s1 s2 h) := by
  unfold f_Md_ways_175
  (try simp (disch := omega) only [mx_hi, mx_up, ↓mp_ite, ↓mp_gd, ↓mp_gb, ↓mp_gp, ↓mp_c1, ↓mp_c2, c1_mp, c2_mp, ↓mp_sw, sw_mp, sm_l, sm_r, xlet_eq, Option.map_some, Option.map_none])
theorem loc_Md_ways_107 {c h : xH} {l1 : Int} {l2 : Int} {l3 : Int} {l4 : Int} : f_Md_ways_107 l1 l2 l3 l4 (mx c h) = Option.map (Sum.map (fun q : (Int × Int × xH) => (q.1, q.2.1, mx c q.2.2)) (mx c)) (f_Md_ways_107 l1 l2 l3 l4 h) := by
  unfold f_Md_ways_107
  (try simp (disch := omega) only [mx_hi, mx_up, ↓mp_ite, ↓mp_gd, ↓mp_gb, ↓mp_gp, ↓mp_c1, ↓mp_c2, c1_mp, c2_mp, ↓mp_sw, sw_mp, sm_l, sm_r, xlet_eq, Option.map_some, Option.map_none, loc_Md_min, loc_Md_ways_175])
theorem loc_Md_ways_83 {c h : xH} {l1 : Int} {l2 : Int} {l3 : Int} : f_Md_ways_83 l1 l2 l3 (mx c h) = Option.map (Sum.map (fun q : (Int × Int × xH) => (q.1, q.2.1, mx c q.2.2)) (fun q : (Int × Int × xH) => (q.1, q.2.1, mx c q.2.2))) (f_Md_ways_83 l1 l2 l3 h) := by
  unfold f_Md_ways_83
  (try simp (disch := omega) only [mx_hi, mx_up, ↓mp_ite, ↓mp_gd, ↓mp_gb, ↓mp_gp, ↓mp_c1, ↓mp_c2, c1_mp, c2_mp, ↓mp_sw, sw_mp, sm_l, sm_r, xlet_eq, Option.map_some, Option.map_none, loc_Md_min, loc_Md_slip])
theorem loc_Md_ways_s37 {c h : xH} {l1 : Int} {l2 : Int} {l3 : Int} {l4 : Int} : f_Md_ways_s37 l1 l2 l3 l4 (mx c h) = Option.map (Sum.map (fun q : (Int × Int × xH) => (q.1, q.2.1, mx c q.2.2)) (fun q : (Int × Int × xH) => (q.1, q.2.1, mx c q.2.2))) (f_Md_ways_s37 l1 l2 l3 l4 h) := by
  unfold f_Md_ways_s37
  (try simp (disch := omega) only [mx_hi, mx_up, ↓mp_ite, ↓mp_gd, ↓mp_gb, ↓mp_gp, ↓mp_c1, ↓mp_c2, c1_mp, c2_mp, ↓mp_sw, sw_mp, sm_l, sm_r, xlet_eq, Option.map_some, Option.map_none, loc_Md_ways_83])
theorem loc_Md_ways_37 {c h : xH} {l1 : Int} {l2 : Int} {l3 : Int} {l4 : Int} : f_Md_ways_37 l1 l2 l3 l4 (mx c h) = Option.map (Sum.map (fun q : (Int × Int × xH) => (q.1, q.2.1, mx c q.2.2)) (mx c)) (f_Md_ways_37 l1 l2 l3 l4 h) := by
  unfold f_Md_ways_37
  rw [xloop_map (f := (fun q : (Int × Int × xH) => (q.1, q.2.1, mx c q.2.2))) (g := (fun q : (Int × Int × xH) => (q.1, q.2.1, mx c q.2.2))) (fun s => loc_Md_ways_s37) ((l3, l4, h))]
  (try simp (disch := omega) only [mx_hi, mx_up, ↓mp_ite, ↓mp_gd, ↓mp_gb, ↓mp_gp, ↓mp_c1, ↓mp_c2, c1_mp, c2_mp, ↓mp_sw, sw_mp, sm_l, sm_r, xlet_eq, Option.map_some, Option.map_none, loc_Md_ways_107, loc_Md_ways_s37])
theorem loc_Md_ways_25 {c h : xH} {l1 : Int} {l2 : Int} : f_Md_ways_25 l1 l2 (mx c h) = Option.map (Sum.map (fun q : (Int × Int × xH) => (q.1, q.2.1, mx c q.2.2)) (mx c)) (f_Md_ways_25 l1 l2 h) := by
  unfold f_Md_ways_25
  (try simp (disch := omega) only [mx_hi, mx_up, ↓mp_ite, ↓mp_gd, ↓mp_gb, ↓mp_gp, ↓mp_c1, ↓mp_c2, c1_mp, c2_mp, ↓mp_sw, sw_mp, sm_l, sm_r, xlet_eq, Option.map_some, Option.map_none, loc_Md_slip, loc_Md_ways_37])
theorem loc_Md_ways_s9 {c h : xH} {l1 : Int} {l2 : Int} : f_Md_ways_s9 l1 l2 (mx c h) = Option.map (Sum.map (fun q : (Int × Int × xH) => (q.1, q.2.1, mx c q.2.2)) (mx c)) (f_Md_ways_s9 l1 l2 h) := by
  unfold f_Md_ways_s9
  (try simp (disch := omega) only [mx_hi, mx_up, ↓mp_ite, ↓mp_gd, ↓mp_gb, ↓mp_gp, ↓mp_c1, ↓mp_c2, c1_mp, c2_mp, ↓mp_sw, sw_mp, sm_l, sm_r, xlet_eq, Option.map_some, Option.map_none, loc_Md_ways_25])
theorem loc_Md_ways_9 {c h : xH} {l1 : Int} {l2 : Int} : f_Md_ways_9 l1 l2 (mx c h) = Option.map (mx c) (f_Md_ways_9 l1 l2 h) := by
  unfold f_Md_ways_9
  rw [xloop_map (f := (fun q : (Int × Int × xH) => (q.1, q.2.1, mx c q.2.2))) (g := (mx c)) (fun s => loc_Md_ways_s9) ((l1, l2, h))]
  (try simp (disch := omega) only [mx_hi, mx_up, ↓mp_ite, ↓mp_gd, ↓mp_gb, ↓mp_gp, ↓mp_c1, ↓mp_c2, c1_mp, c2_mp, ↓mp_sw, sw_mp, sm_l, sm_r, xlet_eq, Option.map_some, Option.map_none, loc_Md_ways_203, loc_Md_ways_s9])
theorem loc_Md_ways {c h : xH} : f_Md_ways (mx c h) = Option.map (mx c) (f_Md_ways h) := by
  unfold f_Md_ways
  (try simp (disch := omega) only [mx_hi, mx_up, ↓mp_ite, ↓mp_gd, ↓mp_gb, ↓mp_gp, ↓mp_c1, ↓mp_c2, c1_mp, c2_mp, ↓mp_sw, sw_mp, sm_l, sm_r, xlet_eq, Option.map_some, Option.map_none, loc_Md_ways_9])
theorem loc_Md_distance_114 {c h : xH} : f_Md_distance_114 (mx c h) = Option.map (fun q : Int × xH => (q.1, mx c q.2)) (f_Md_distance_114 h) := by
  unfold f_Md_distance_114
  (try simp (disch := omega) only [mx_hi, mx_up, ↓mp_ite, ↓mp_gd, ↓mp_gb, ↓mp_gp, ↓mp_c1, ↓mp_c2, c1_mp, c2_mp, ↓mp_sw, sw_mp, sm_l, sm_r, xlet_eq, Option.map_some, Option.map_none])
theorem loc_Md_distance_s40 {c h : xH} {l1 : Int} : f_Md_distance_s40 l1 (mx c h) = Option.map (Sum.map (fun q : (Int × xH) => (q.1, mx c q.2)) (mx c)) (f_Md_distance_s40 l1 h) := by
  unfold f_Md_distance_s40
  (try simp (disch := omega) only [mx_hi, mx_up, ↓mp_ite, ↓mp_gd, ↓mp_gb, ↓mp_gp, ↓mp_c1, ↓mp_c2, c1_mp, c2_mp, ↓mp_sw, sw_mp, sm_l, sm_r, xlet_eq, Option.map_some, Option.map_none])
theorem loc_Md_distance_40 {c h : xH} {l1 : Int} : f_Md_distance_40 l1 (mx c h) = Option.map (fun q : Int × xH => (q.1, mx c q.2)) (f_Md_distance_40 l1 h) := by
  unfold f_Md_distance_40
  rw [xloop_map (f := (fun q : (Int × xH) => (q.1, mx c q.2))) (g := (mx c)) (fun s => loc_Md_distance_s40) ((l1, h))]
  (try simp (disch := omega) only [mx_hi, mx_up, ↓mp_ite, ↓mp_gd, ↓mp_gb, ↓mp_gp, ↓mp_c1, ↓mp_c2, c1_mp, c2_mp, ↓mp_sw, sw_mp, sm_l, sm_r, xlet_eq, Option.map_some, Option.map_none, loc_Md_distance_114, loc_Md_distance_s40])
theorem loc_Md_distance {c h : xH} : f_Md_distance (mx c h) = Option.map (fun q : Int × xH => (q.1, mx c q.2)) (f_Md_distance h) := by
  unfold f_Md_distance
  (try simp (disch := omega) only [mx_hi, mx_up, ↓mp_ite, ↓mp_gd, ↓mp_gb, ↓mp_gp, ↓mp_c1, ↓mp_c2, c1_mp, c2_mp, ↓mp_sw, sw_mp, sm_l, sm_r, xlet_eq, Option.map_some, Option.map_none, loc_Md_distance_40, loc_Md_readsTwo, loc_Md_sums, loc_Md_takeA, loc_Md_takeB, loc_Md_ways])
theorem loc_Md_way {c h : xH} {l1 : Int} {l2 : Int} : f_Md_way l1 l2 (mx c h) = f_Md_way l1 l2 h := by
  unfold f_Md_way
  (try simp (disch := omega) only [mx_hi, mx_up, ↓mp_ite, ↓mp_gd, ↓mp_gb, ↓mp_gp, ↓mp_c1, ↓mp_c2, c1_mp, c2_mp, ↓mp_sw, sw_mp, sm_l, sm_r, xlet_eq, Option.map_some, Option.map_none, loc_Md_in])
theorem loc_Md_stateRow_264 {c h : xH} : f_Md_stateRow_264 (mx c h) = Option.map (mx c) (f_Md_stateRow_264 h) := by
  unfold f_Md_stateRow_264
  (try simp (disch := omega) only [mx_hi, mx_up, ↓mp_ite, ↓mp_gd, ↓mp_gb, ↓mp_gp, ↓mp_c1, ↓mp_c2, c1_mp, c2_mp, ↓mp_sw, sw_mp, sm_l, sm_r, xlet_eq, Option.map_some, Option.map_none])
theorem loc_Md_stateRow_246 {c h : xH} {l1 : Int} {l2 : Int} {l3 : Int} : f_Md_stateRow_246 l1 l2 l3 (mx c h) = Option.map (Sum.map (fun q : (Int × xH) => (q.1, mx c q.2)) (mx c)) (f_Md_stateRow_246 l1 l2 l3 h) := by
  unfold f_Md_stateRow_246
  (try simp (disch := omega) only [mx_hi, mx_up, ↓mp_ite, ↓mp_gd, ↓mp_gb, ↓mp_gp, ↓mp_c1, ↓mp_c2, c1_mp, c2_mp, ↓mp_sw, sw_mp, sm_l, sm_r, xlet_eq, Option.map_some, Option.map_none])
theorem loc_Md_stateRow_240 {c h : xH} {l1 : Int} {l2 : Int} {l3 : Int} {l4 : Int} : f_Md_stateRow_240 l1 l2 l3 l4 (mx c h) = Option.map (Sum.map (fun q : (Int × Int × xH) => (q.1, q.2.1, mx c q.2.2)) (fun q : (Int × xH) => (q.1, mx c q.2))) (f_Md_stateRow_240 l1 l2 l3 l4 h) := by
  unfold f_Md_stateRow_240
  (try simp (disch := omega) only [mx_hi, mx_up, ↓mp_ite, ↓mp_gd, ↓mp_gb, ↓mp_gp, ↓mp_c1, ↓mp_c2, c1_mp, c2_mp, ↓mp_sw, sw_mp, sm_l, sm_r, xlet_eq, Option.map_some, Option.map_none])
theorem loc_Md_stateRow_152 {c h : xH} {l1 : Int} {l2 : Int} {l3 : Int} {l4 : Int} {l5 : Int} {l6 : Int} {s0 : Int} : f_Md_stateRow_152 l1 l2 l3 l4 l5 l6 s0 (mx c h) = Option.map (Sum.map (fun q : (Int × Int × xH) => (q.1, q.2.1, mx c q.2.2)) (fun q : (Int × xH) => (q.1, mx c q.2))) (f_Md_stateRow_152 l1 l2 l3 l4 l5 l6 s0 h) := by
  unfold f_Md_stateRow_152
  (try simp (disch := omega) only [mx_hi, mx_up, ↓mp_ite, ↓mp_gd, ↓mp_gb, ↓mp_gp, ↓mp_c1, ↓mp_c2, c1_mp, c2_mp, ↓mp_sw, sw_mp, sm_l, sm_r, xlet_eq, Option.map_some, Option.map_none, loc_Md_min, loc_Md_slip, loc_Md_stateRow_240])
theorem loc_Md_stateRow_147 {c h : xH} {l1 : Int} {l2 : Int} {l3 : Int} {l4 : Int} {l5 : Int} {l6 : Int} : f_Md_stateRow_147 l1 l2 l3 l4 l5 l6 (mx c h) = Option.map (Sum.map (fun q : (Int × Int × xH) => (q.1, q.2.1, mx c q.2.2)) (fun q : (Int × xH) => (q.1, mx c q.2))) (f_Md_stateRow_147 l1 l2 l3 l4 l5 l6 h) := by
  unfold f_Md_stateRow_147
  (try simp (disch := omega) only [mx_hi, mx_up, ↓mp_ite, ↓mp_gd, ↓mp_gb, ↓mp_gp, ↓mp_c1, ↓mp_c2, c1_mp, c2_mp, ↓mp_sw, sw_mp, sm_l, sm_r, xlet_eq, Option.map_some, Option.map_none, loc_Md_stateRow_152])
theorem loc_Md_stateRow_103 {c h : xH} {l1 : Int} {l2 : Int} {l3 : Int} {l4 : Int} {l5 : Int} {s0 : Int} : f_Md_stateRow_103 l1 l2 l3 l4 l5 s0 (mx c h) = Option.map (Sum.map (fun q : (Int × Int × xH) => (q.1, q.2.1, mx c q.2.2)) (fun q : (Int × xH) => (q.1, mx c q.2))) (f_Md_stateRow_103 l1 l2 l3 l4 l5 s0 h) := by
  unfold f_Md_stateRow_103
  (try simp (disch := omega) only [mx_hi, mx_up, ↓mp_ite, ↓mp_gd, ↓mp_gb, ↓mp_gp, ↓mp_c1, ↓mp_c2, c1_mp, c2_mp, ↓mp_sw, sw_mp, sm_l, sm_r, xlet_eq, Option.map_some, Option.map_none, loc_Md_stateRow_147, loc_Md_stateRow_152])
theorem loc_Md_stateRow_98 {c h : xH} {l1 : Int} {l2 : Int} {l3 : Int} {l4 : Int} {l5 : Int} : f_Md_stateRow_98 l1 l2 l3 l4 l5 (mx c h) = Option.map (Sum.map (fun q : (Int × Int × xH) => (q.1, q.2.1, mx c q.2.2)) (fun q : (Int × xH) => (q.1, mx c q.2))) (f_Md_stateRow_98 l1 l2 l3 l4 l5 h) := by
  unfold f_Md_stateRow_98
  (try simp (disch := omega) only [mx_hi, mx_up, ↓mp_ite, ↓mp_gd, ↓mp_gb, ↓mp_gp, ↓mp_c1, ↓mp_c2, c1_mp, c2_mp, ↓mp_sw, sw_mp, sm_l, sm_r, xlet_eq, Option.map_some, Option.map_none, loc_Md_stateRow_103])
theorem loc_Md_stateRow_s34 {c h : xH} {l1 : Int} {l2 : Int} {l3 : Int} {l4 : Int} : f_Md_stateRow_s34 l1 l2 l3 l4 (mx c h) = Option.map (Sum.map (fun q : (Int × Int × xH) => (q.1, q.2.1, mx c q.2.2)) (fun q : (Int × xH) => (q.1, mx c q.2))) (f_Md_stateRow_s34 l1 l2 l3 l4 h) := by
  unfold f_Md_stateRow_s34
  (try simp (disch := omega) only [mx_hi, mx_up, ↓mp_ite, ↓mp_gd, ↓mp_gb, ↓mp_gp, ↓mp_c1, ↓mp_c2, c1_mp, c2_mp, ↓mp_sw, sw_mp, sm_l, sm_r, xlet_eq, Option.map_some, Option.map_none, loc_Md_min, loc_Md_stateRow_103, loc_Md_stateRow_98])
theorem loc_Md_stateRow_34 {c h : xH} {l1 : Int} {l2 : Int} {l3 : Int} {l4 : Int} : f_Md_stateRow_34 l1 l2 l3 l4 (mx c h) = Option.map (Sum.map (fun q : (Int × xH) => (q.1, mx c q.2)) (mx c)) (f_Md_stateRow_34 l1 l2 l3 l4 h) := by
  unfold f_Md_stateRow_34
  rw [xloop_map (f := (fun q : (Int × Int × xH) => (q.1, q.2.1, mx c q.2.2))) (g := (fun q : (Int × xH) => (q.1, mx c q.2))) (fun s => loc_Md_stateRow_s34) ((l3, l4, h))]
  (try simp (disch := omega) only [mx_hi, mx_up, ↓mp_ite, ↓mp_gd, ↓mp_gb, ↓mp_gp, ↓mp_c1, ↓mp_c2, c1_mp, c2_mp, ↓mp_sw, sw_mp, sm_l, sm_r, xlet_eq, Option.map_some, Option.map_none, loc_Md_stateRow_246, loc_Md_stateRow_s34])
theorem loc_Md_stateRow_30 {c h : xH} {l1 : Int} {l2 : Int} {s0 : Int} : f_Md_stateRow_30 l1 l2 s0 (mx c h) = Option.map (Sum.map (fun q : (Int × xH) => (q.1, mx c q.2)) (mx c)) (f_Md_stateRow_30 l1 l2 s0 h) := by
  unfold f_Md_stateRow_30
  (try simp (disch := omega) only [mx_hi, mx_up, ↓mp_ite, ↓mp_gd, ↓mp_gb, ↓mp_gp, ↓mp_c1, ↓mp_c2, c1_mp, c2_mp, ↓mp_sw, sw_mp, sm_l, sm_r, xlet_eq, Option.map_some, Option.map_none, loc_Md_stateRow_34])
theorem loc_Md_stateRow_27 {c h : xH} {l1 : Int} {l2 : Int} : f_Md_stateRow_27 l1 l2 (mx c h) = Option.map (Sum.map (fun q : (Int × xH) => (q.1, mx c q.2)) (mx c)) (f_Md_stateRow_27 l1 l2 h) := by
  unfold f_Md_stateRow_27
  (try simp (disch := omega) only [mx_hi, mx_up, ↓mp_ite, ↓mp_gd, ↓mp_gb, ↓mp_gp, ↓mp_c1, ↓mp_c2, c1_mp, c2_mp, ↓mp_sw, sw_mp, sm_l, sm_r, xlet_eq, Option.map_some, Option.map_none, loc_Md_stateRow_30])
theorem loc_Md_stateRow_s7 {c h : xH} {l1 : Int} {l2 : Int} : f_Md_stateRow_s7 l1 l2 (mx c h) = Option.map (Sum.map (fun q : (Int × xH) => (q.1, mx c q.2)) (mx c)) (f_Md_stateRow_s7 l1 l2 h) := by
  unfold f_Md_stateRow_s7
  (try simp (disch := omega) only [mx_hi, mx_up, ↓mp_ite, ↓mp_gd, ↓mp_gb, ↓mp_gp, ↓mp_c1, ↓mp_c2, c1_mp, c2_mp, ↓mp_sw, sw_mp, sm_l, sm_r, xlet_eq, Option.map_some, Option.map_none, loc_Md_stateRow_27, loc_Md_stateRow_30])
theorem loc_Md_stateRow_7 {c h : xH} {l1 : Int} {l2 : Int} : f_Md_stateRow_7 l1 l2 (mx c h) = Option.map (mx c) (f_Md_stateRow_7 l1 l2 h) := by
  unfold f_Md_stateRow_7
  rw [xloop_map (f := (fun q : (Int × xH) => (q.1, mx c q.2))) (g := (mx c)) (fun s => loc_Md_stateRow_s7) ((l2, h))]
  (try simp (disch := omega) only [mx_hi, mx_up, ↓mp_ite, ↓mp_gd, ↓mp_gb, ↓mp_gp, ↓mp_c1, ↓mp_c2, c1_mp, c2_mp, ↓mp_sw, sw_mp, sm_l, sm_r, xlet_eq, Option.map_some, Option.map_none, loc_Md_stateRow_264, loc_Md_stateRow_s7])
theorem loc_Md_stateRow {c h : xH} {l1 : Int} : f_Md_stateRow l1 (mx c h) = Option.map (mx c) (f_Md_stateRow l1 h) := by
  unfold f_Md_stateRow
  (try simp (disch := omega) only [mx_hi, mx_up, ↓mp_ite, ↓mp_gd, ↓mp_gb, ↓mp_gp, ↓mp_c1, ↓mp_c2, c1_mp, c2_mp, ↓mp_sw, sw_mp, sm_l, sm_r, xlet_eq, Option.map_some, Option.map_none, loc_Md_stateRow_7])
theorem loc_Md_leastOf_36 {c h : xH} {l2 : Int} : f_Md_leastOf_36 l2 (mx c h) = f_Md_leastOf_36 l2 h := by
  unfold f_Md_leastOf_36
  (try simp (disch := omega) only [mx_hi, mx_up, ↓mp_ite, ↓mp_gd, ↓mp_gb, ↓mp_gp, ↓mp_c1, ↓mp_c2, c1_mp, c2_mp, ↓mp_sw, sw_mp, sm_l, sm_r, xlet_eq, Option.map_some, Option.map_none])
theorem loc_Md_leastOf_s6 {c h : xH} {l1 : Int} {l2 : Int} {l3 : Int} : f_Md_leastOf_s6 l1 l2 l3 (mx c h) = f_Md_leastOf_s6 l1 l2 l3 h := by
  unfold f_Md_leastOf_s6
  (try simp (disch := omega) only [mx_hi, mx_up, ↓mp_ite, ↓mp_gd, ↓mp_gb, ↓mp_gp, ↓mp_c1, ↓mp_c2, c1_mp, c2_mp, ↓mp_sw, sw_mp, sm_l, sm_r, xlet_eq, Option.map_some, Option.map_none, loc_Md_min])
theorem loc_Md_leastOf_6 {c h : xH} {l1 : Int} {l2 : Int} {l3 : Int} : f_Md_leastOf_6 l1 l2 l3 (mx c h) = f_Md_leastOf_6 l1 l2 l3 h := by
  unfold f_Md_leastOf_6
  (try simp (disch := omega) only [mx_hi, mx_up, ↓mp_ite, ↓mp_gd, ↓mp_gb, ↓mp_gp, ↓mp_c1, ↓mp_c2, c1_mp, c2_mp, ↓mp_sw, sw_mp, sm_l, sm_r, xlet_eq, Option.map_some, Option.map_none, loc_Md_leastOf_36, loc_Md_leastOf_s6])
theorem loc_Md_leastOf {c h : xH} {l1 : Int} : f_Md_leastOf l1 (mx c h) = f_Md_leastOf l1 h := by
  unfold f_Md_leastOf
  (try simp (disch := omega) only [mx_hi, mx_up, ↓mp_ite, ↓mp_gd, ↓mp_gb, ↓mp_gp, ↓mp_c1, ↓mp_c2, c1_mp, c2_mp, ↓mp_sw, sw_mp, sm_l, sm_r, xlet_eq, Option.map_some, Option.map_none, loc_Md_leastOf_6])
theorem loc_Md_meets_184 {c h : xH} {l4 : Int} : f_Md_meets_184 l4 (mx c h) = Option.map (fun q : Int × xH => (q.1, mx c q.2)) (f_Md_meets_184 l4 h) := by
  unfold f_Md_meets_184
  (try simp (disch := omega) only [mx_hi, mx_up, ↓mp_ite, ↓mp_gd, ↓mp_gb, ↓mp_gp, ↓mp_c1, ↓mp_c2, c1_mp, c2_mp, ↓mp_sw, sw_mp, sm_l, sm_r, xlet_eq, Option.map_some, Option.map_none])
theorem loc_Md_meets_s142 {c h : xH} {l1 : Int} {l4 : Int} {l5 : Int} : f_Md_meets_s142 l1 l4 l5 (mx c h) = Option.map (Sum.map (fun q : (Int × xH) => (q.1, mx c q.2)) (mx c)) (f_Md_meets_s142 l1 l4 l5 h) := by
  unfold f_Md_meets_s142
  (try simp (disch := omega) only [mx_hi, mx_up, ↓mp_ite, ↓mp_gd, ↓mp_gb, ↓mp_gp, ↓mp_c1, ↓mp_c2, c1_mp, c2_mp, ↓mp_sw, sw_mp, sm_l, sm_r, xlet_eq, Option.map_some, Option.map_none])
theorem loc_Md_meets_142 {c h : xH} {l1 : Int} {l4 : Int} {l5 : Int} : f_Md_meets_142 l1 l4 l5 (mx c h) = Option.map (fun q : Int × xH => (q.1, mx c q.2)) (f_Md_meets_142 l1 l4 l5 h) := by
  unfold f_Md_meets_142
  rw [xloop_map (f := (fun q : (Int × xH) => (q.1, mx c q.2))) (g := (mx c)) (fun s => loc_Md_meets_s142) ((l5, h))]
  (try simp (disch := omega) only [mx_hi, mx_up, ↓mp_ite, ↓mp_gd, ↓mp_gb, ↓mp_gp, ↓mp_c1, ↓mp_c2, c1_mp, c2_mp, ↓mp_sw, sw_mp, sm_l, sm_r, xlet_eq, Option.map_some, Option.map_none, loc_Md_meets_184, loc_Md_meets_s142])
theorem loc_Md_meets_138 {c h : xH} {l1 : Int} {l4 : Int} {s1 : Int} {s2 : Int} : f_Md_meets_138 l1 l4 s1 s2 (mx c h) = Option.map (fun q : Int × xH => (q.1, mx c q.2)) (f_Md_meets_138 l1 l4 s1 s2 h) := by
  unfold f_Md_meets_138
  (try simp (disch := omega) only [mx_hi, mx_up, ↓mp_ite, ↓mp_gd, ↓mp_gb, ↓mp_gp, ↓mp_c1, ↓mp_c2, c1_mp, c2_mp, ↓mp_sw, sw_mp, sm_l, sm_r, xlet_eq, Option.map_some, Option.map_none, loc_Md_meets_142])
theorem loc_Md_meets_120 {c h : xH} {l1 : Int} {l3 : Int} {l4 : Int} {s1 : Int} {s2 : Int} : f_Md_meets_120 l1 l3 l4 s1 s2 (mx c h) = Option.map (fun q : Int × xH => (q.1, mx c q.2)) (f_Md_meets_120 l1 l3 l4 s1 s2 h) := by
  unfold f_Md_meets_120
  (try simp (disch := omega) only [mx_hi, mx_up, ↓mp_ite, ↓mp_gd, ↓mp_gb, ↓mp_gp, ↓mp_c1, ↓mp_c2, c1_mp, c2_mp, ↓mp_sw, sw_mp, sm_l, sm_r, xlet_eq, Option.map_some, Option.map_none, loc_Md_meets_138])
theorem loc_Md_meets_87 {c h : xH} {l1 : Int} {l3 : Int} {l4 : Int} {s1 : Int} {s2 : Int} : f_Md_meets_87 l1 l3 l4 s1 s2 (mx c h) = Option.map (fun q : Int × xH => (q.1, mx c q.2)) (f_Md_meets_87 l1 l3 l4 s1 s2 h) := by
  unfold f_Md_meets_87
  (try simp (disch := omega) only [mx_hi, mx_up, ↓mp_ite, ↓mp_gd, ↓mp_gb, ↓mp_gp, ↓mp_c1, ↓mp_c2, c1_mp, c2_mp, ↓mp_sw, sw_mp, sm_l, sm_r, xlet_eq, Option.map_some, Option.map_none, loc_Md_leastOf, loc_Md_meets_120])
theorem loc_Md_meets_51 {c h : xH} {l1 : Int} {l3 : Int} {s0 : Int} : f_Md_meets_51 l1 l3 s0 (mx c h) = Option.map (fun q : Int × xH => (q.1, mx c q.2)) (f_Md_meets_51 l1 l3 s0 h) := by
  unfold f_Md_meets_51
  (try simp (disch := omega) only [mx_hi, mx_up, ↓mp_ite, ↓mp_gd, ↓mp_gb, ↓mp_gp, ↓mp_c1, ↓mp_c2, c1_mp, c2_mp, ↓mp_sw, sw_mp, sm_l, sm_r, xlet_eq, Option.map_some, Option.map_none, loc_Md_meets_87])
theorem loc_Md_meets_50 {c h : xH} {l1 : Int} {l3 : Int} : f_Md_meets_50 l1 l3 (mx c h) = Option.map (fun q : Int × xH => (q.1, mx c q.2)) (f_Md_meets_50 l1 l3 h) := by
  unfold f_Md_meets_50
  (try simp (disch := omega) only [mx_hi, mx_up, ↓mp_ite, ↓mp_gd, ↓mp_gb, ↓mp_gp, ↓mp_c1, ↓mp_c2, c1_mp, c2_mp, ↓mp_sw, sw_mp, sm_l, sm_r, xlet_eq, Option.map_some, Option.map_none, loc_Md_meets_51])
theorem loc_Md_meets_46 {c h : xH} {l1 : Int} {l3 : Int} : f_Md_meets_46 l1 l3 (mx c h) = Option.map (fun q : Int × xH => (q.1, mx c q.2)) (f_Md_meets_46 l1 l3 h) := by
  unfold f_Md_meets_46
  (try simp (disch := omega) only [mx_hi, mx_up, ↓mp_ite, ↓mp_gd, ↓mp_gb, ↓mp_gp, ↓mp_c1, ↓mp_c2, c1_mp, c2_mp, ↓mp_sw, sw_mp, sm_l, sm_r, xlet_eq, Option.map_some, Option.map_none, loc_Md_meets_51])
theorem loc_Md_meets_30 {c h : xH} {l1 : Int} {l2 : Int} {l3 : Int} : f_Md_meets_30 l1 l2 l3 (mx c h) = Option.map (fun q : Int × xH => (q.1, mx c q.2)) (f_Md_meets_30 l1 l2 l3 h) := by
  unfold f_Md_meets_30
  (try simp (disch := omega) only [mx_hi, mx_up, ↓mp_ite, ↓mp_gd, ↓mp_gb, ↓mp_gp, ↓mp_c1, ↓mp_c2, c1_mp, c2_mp, ↓mp_sw, sw_mp, sm_l, sm_r, xlet_eq, Option.map_some, Option.map_none, loc_Md_leastOf, loc_Md_meets_46, loc_Md_meets_50])
theorem loc_Md_meets {c h : xH} {l1 : Int} {l2 : Int} {l3 : Int} : f_Md_meets l1 l2 l3 (mx c h) = Option.map (fun q : Int × xH => (q.1, mx c q.2)) (f_Md_meets l1 l2 l3 h) := by
  unfold f_Md_meets
  (try simp (disch := omega) only [mx_hi, mx_up, ↓mp_ite, ↓mp_gd, ↓mp_gb, ↓mp_gp, ↓mp_c1, ↓mp_c2, c1_mp, c2_mp, ↓mp_sw, sw_mp, sm_l, sm_r, xlet_eq, Option.map_some, Option.map_none, loc_Md_leastOf, loc_Md_meets_30, loc_Md_meets_50, loc_Md_stateRow])
theorem loc_Md_walk_257 {c h : xH} : f_Md_walk_257 (mx c h) = Option.map (mx c) (f_Md_walk_257 h) := by
  unfold f_Md_walk_257
  (try simp (disch := omega) only [mx_hi, mx_up, ↓mp_ite, ↓mp_gd, ↓mp_gb, ↓mp_gp, ↓mp_c1, ↓mp_c2, c1_mp, c2_mp, ↓mp_sw, sw_mp, sm_l, sm_r, xlet_eq, Option.map_some, Option.map_none])
theorem loc_Md_walk_253 {c h : xH} {l1 : Int} {l2 : Int} {s1 : Int} {s2 : Int} : f_Md_walk_253 l1 l2 s1 s2 (mx c h) = Option.map (Sum.map (fun q : (Int × xH) => (q.1, mx c q.2)) (mx c)) (f_Md_walk_253 l1 l2 s1 s2 h) := by
  unfold f_Md_walk_253
  (try simp (disch := omega) only [mx_hi, mx_up, ↓mp_ite, ↓mp_gd, ↓mp_gb, ↓mp_gp, ↓mp_c1, ↓mp_c2, c1_mp, c2_mp, ↓mp_sw, sw_mp, sm_l, sm_r, xlet_eq, Option.map_some, Option.map_none])
theorem loc_Md_walk_217 {c h : xH} {l1 : Int} {l2 : Int} {l4 : Int} {l6 : Int} {s1 : Int} {s2 : Int} {s3 : Int} : f_Md_walk_217 l1 l2 l4 l6 s1 s2 s3 (mx c h) = Option.map (Sum.map (fun q : (Int × xH) => (q.1, mx c q.2)) (mx c)) (f_Md_walk_217 l1 l2 l4 l6 s1 s2 s3 h) := by
  unfold f_Md_walk_217
  (try simp (disch := omega) only [mx_hi, mx_up, ↓mp_ite, ↓mp_gd, ↓mp_gb, ↓mp_gp, ↓mp_c1, ↓mp_c2, c1_mp, c2_mp, ↓mp_sw, sw_mp, sm_l, sm_r, xlet_eq, Option.map_some, Option.map_none, loc_Md_meets, loc_Md_walk_253])
theorem loc_Md_walk_177 {c h : xH} {l1 : Int} {l2 : Int} {l4 : Int} {l5 : Int} {l6 : Int} : f_Md_walk_177 l1 l2 l4 l5 l6 (mx c h) = Option.map (Sum.map (fun q : (Int × xH) => (q.1, mx c q.2)) (mx c)) (f_Md_walk_177 l1 l2 l4 l5 l6 h) := by
  unfold f_Md_walk_177
  (try simp (disch := omega) only [mx_hi, mx_up, ↓mp_ite, ↓mp_gd, ↓mp_gb, ↓mp_gp, ↓mp_c1, ↓mp_c2, c1_mp, c2_mp, ↓mp_sw, sw_mp, sm_l, sm_r, xlet_eq, Option.map_some, Option.map_none, loc_Md_walk_217])
theorem loc_Md_walk_s143 {c h : xH} {l1 : Int} {l2 : Int} {l4 : Int} {l5 : Int} {l6 : Int} : f_Md_walk_s143 l1 l2 l4 l5 l6 (mx c h) = f_Md_walk_s143 l1 l2 l4 l5 l6 h := by
  unfold f_Md_walk_s143
  (try simp (disch := omega) only [mx_hi, mx_up, ↓mp_ite, ↓mp_gd, ↓mp_gb, ↓mp_gp, ↓mp_c1, ↓mp_c2, c1_mp, c2_mp, ↓mp_sw, sw_mp, sm_l, sm_r, xlet_eq, Option.map_some, Option.map_none])
theorem loc_Md_walk_143 {c h : xH} {l1 : Int} {l2 : Int} {l4 : Int} {l5 : Int} {l6 : Int} : f_Md_walk_143 l1 l2 l4 l5 l6 (mx c h) = Option.map (Sum.map (fun q : (Int × xH) => (q.1, mx c q.2)) (mx c)) (f_Md_walk_143 l1 l2 l4 l5 l6 h) := by
  unfold f_Md_walk_143
  (try simp (disch := omega) only [mx_hi, mx_up, ↓mp_ite, ↓mp_gd, ↓mp_gb, ↓mp_gp, ↓mp_c1, ↓mp_c2, c1_mp, c2_mp, ↓mp_sw, sw_mp, sm_l, sm_r, xlet_eq, Option.map_some, Option.map_none, loc_Md_walk_177, loc_Md_walk_s143])
theorem loc_Md_walk_108 {c h : xH} {l1 : Int} {l2 : Int} {l4 : Int} : f_Md_walk_108 l1 l2 l4 (mx c h) = Option.map (Sum.map (fun q : (Int × xH) => (q.1, mx c q.2)) (mx c)) (f_Md_walk_108 l1 l2 l4 h) := by
  unfold f_Md_walk_108
  (try simp (disch := omega) only [mx_hi, mx_up, ↓mp_ite, ↓mp_gd, ↓mp_gb, ↓mp_gp, ↓mp_c1, ↓mp_c2, c1_mp, c2_mp, ↓mp_sw, sw_mp, sm_l, sm_r, xlet_eq, Option.map_some, Option.map_none, loc_Md_walk_143])
theorem loc_Md_walk_s71 {c h : xH} {l1 : Int} {l2 : Int} : f_Md_walk_s71 l1 l2 (mx c h) = Option.map (Sum.map (fun q : (Int × xH) => (q.1, mx c q.2)) (mx c)) (f_Md_walk_s71 l1 l2 h) := by
  unfold f_Md_walk_s71
  (try simp (disch := omega) only [mx_hi, mx_up, ↓mp_ite, ↓mp_gd, ↓mp_gb, ↓mp_gp, ↓mp_c1, ↓mp_c2, c1_mp, c2_mp, ↓mp_sw, sw_mp, sm_l, sm_r, xlet_eq, Option.map_some, Option.map_none, loc_Md_walk_108])
theorem loc_Md_walk_71 {c h : xH} {l1 : Int} {l2 : Int} : f_Md_walk_71 l1 l2 (mx c h) = Option.map (mx c) (f_Md_walk_71 l1 l2 h) := by
  unfold f_Md_walk_71
  rw [xloop_map (f := (fun q : (Int × xH) => (q.1, mx c q.2))) (g := (mx c)) (fun s => loc_Md_walk_s71) ((l2, h))]
  (try simp (disch := omega) only [mx_hi, mx_up, ↓mp_ite, ↓mp_gd, ↓mp_gb, ↓mp_gp, ↓mp_c1, ↓mp_c2, c1_mp, c2_mp, ↓mp_sw, sw_mp, sm_l, sm_r, xlet_eq, Option.map_some, Option.map_none, loc_Md_walk_257, loc_Md_walk_s71])
theorem loc_Md_walk_70 {c h : xH} {l1 : Int} {l2 : Int} {s1 : Int} {s2 : Int} : f_Md_walk_70 l1 l2 s1 s2 (mx c h) = Option.map (mx c) (f_Md_walk_70 l1 l2 s1 s2 h) := by
  unfold f_Md_walk_70
  (try simp (disch := omega) only [mx_hi, mx_up, ↓mp_ite, ↓mp_gd, ↓mp_gb, ↓mp_gp, ↓mp_c1, ↓mp_c2, c1_mp, c2_mp, ↓mp_sw, sw_mp, sm_l, sm_r, xlet_eq, Option.map_some, Option.map_none, loc_Md_walk_71])
theorem loc_Md_walk {c h : xH} {l1 : Int} : f_Md_walk l1 (mx c h) = Option.map (mx c) (f_Md_walk l1 h) := by
  unfold f_Md_walk
  (try simp (disch := omega) only [mx_hi, mx_up, ↓mp_ite, ↓mp_gd, ↓mp_gb, ↓mp_gp, ↓mp_c1, ↓mp_c2, c1_mp, c2_mp, ↓mp_sw, sw_mp, sm_l, sm_r, xlet_eq, Option.map_some, Option.map_none, loc_Md_meets, loc_Md_walk_70])
theorem loc_Md_distanceTo {c h : xH} {l1 : Int} : f_Md_distanceTo l1 (mx c h) = Option.map (fun q : Int × xH => (q.1, mx c q.2)) (f_Md_distanceTo l1 h) := by
  unfold f_Md_distanceTo
  (try simp (disch := omega) only [mx_hi, mx_up, ↓mp_ite, ↓mp_gd, ↓mp_gb, ↓mp_gp, ↓mp_c1, ↓mp_c2, c1_mp, c2_mp, ↓mp_sw, sw_mp, sm_l, sm_r, xlet_eq, Option.map_some, Option.map_none, loc_Md_sums, loc_Md_wordA])
theorem loc_Md_beginningTo_60 {c h : xH} {l3 : Int} : f_Md_beginningTo_60 l3 (mx c h) = Option.map (fun q : Int × xH => (q.1, mx c q.2)) (f_Md_beginningTo_60 l3 h) := by
  unfold f_Md_beginningTo_60
  (try simp (disch := omega) only [mx_hi, mx_up, ↓mp_ite, ↓mp_gd, ↓mp_gb, ↓mp_gp, ↓mp_c1, ↓mp_c2, c1_mp, c2_mp, ↓mp_sw, sw_mp, sm_l, sm_r, xlet_eq, Option.map_some, Option.map_none])
theorem loc_Md_beginningTo_s17 {c h : xH} {l2 : Int} {l3 : Int} {l4 : Int} : f_Md_beginningTo_s17 l2 l3 l4 (mx c h) = Option.map (Sum.map (fun q : (Int × Int × xH) => (q.1, q.2.1, mx c q.2.2)) (fun q : (Int × xH) => (q.1, mx c q.2))) (f_Md_beginningTo_s17 l2 l3 l4 h) := by
  unfold f_Md_beginningTo_s17
  (try simp (disch := omega) only [mx_hi, mx_up, ↓mp_ite, ↓mp_gd, ↓mp_gb, ↓mp_gp, ↓mp_c1, ↓mp_c2, c1_mp, c2_mp, ↓mp_sw, sw_mp, sm_l, sm_r, xlet_eq, Option.map_some, Option.map_none, loc_Md_min, loc_Md_stateRow])
theorem loc_Md_beginningTo_17 {c h : xH} {l2 : Int} {l3 : Int} {l4 : Int} : f_Md_beginningTo_17 l2 l3 l4 (mx c h) = Option.map (fun q : Int × xH => (q.1, mx c q.2)) (f_Md_beginningTo_17 l2 l3 l4 h) := by
  unfold f_Md_beginningTo_17
  rw [xloop_map (f := (fun q : (Int × Int × xH) => (q.1, q.2.1, mx c q.2.2))) (g := (fun q : (Int × xH) => (q.1, mx c q.2))) (fun s => loc_Md_beginningTo_s17) ((l3, l4, h))]
  (try simp (disch := omega) only [mx_hi, mx_up, ↓mp_ite, ↓mp_gd, ↓mp_gb, ↓mp_gp, ↓mp_c1, ↓mp_c2, c1_mp, c2_mp, ↓mp_sw, sw_mp, sm_l, sm_r, xlet_eq, Option.map_some, Option.map_none, loc_Md_beginningTo_60, loc_Md_beginningTo_s17])
theorem loc_Md_beginningTo {c h : xH} {l1 : Int} : f_Md_beginningTo l1 (mx c h) = Option.map (fun q : Int × xH => (q.1, mx c q.2)) (f_Md_beginningTo l1 h) := by
  unfold f_Md_beginningTo
  (try simp (disch := omega) only [mx_hi, mx_up, ↓mp_ite, ↓mp_gd, ↓mp_gb, ↓mp_gp, ↓mp_c1, ↓mp_c2, c1_mp, c2_mp, ↓mp_sw, sw_mp, sm_l, sm_r, xlet_eq, Option.map_some, Option.map_none, loc_Md_beginningTo_17, loc_Md_wordA])
theorem loc_Md_isAhead {c h : xH} {l1 : Int} {l2 : Int} {l3 : Int} {l4 : Int} : f_Md_isAhead l1 l2 l3 l4 (mx c h) = f_Md_isAhead l1 l2 l3 l4 h := by
  unfold f_Md_isAhead
  (try simp (disch := omega) only [mx_hi, mx_up, ↓mp_ite, ↓mp_gd, ↓mp_gb, ↓mp_gp, ↓mp_c1, ↓mp_c2, c1_mp, c2_mp, ↓mp_sw, sw_mp, sm_l, sm_r, xlet_eq, Option.map_some, Option.map_none])
theorem loc_Md_tries_175 {c h : xH} : f_Md_tries_175 (mx c h) = Option.map (mx c) (f_Md_tries_175 h) := by
  unfold f_Md_tries_175
  (try simp (disch := omega) only [mx_hi, mx_up, ↓mp_ite, ↓mp_gd, ↓mp_gb, ↓mp_gp, ↓mp_c1, ↓mp_c2, c1_mp, c2_mp, ↓mp_sw, sw_mp, sm_l, sm_r, xlet_eq, Option.map_some, Option.map_none])
theorem loc_Md_tries_169 {c h : xH} {l1 : Int} {l2 : Int} {l3 : Int} : f_Md_tries_169 l1 l2 l3 (mx c h) = Option.map (Sum.map (fun q : (Int × xH) => (q.1, mx c q.2)) (mx c)) (f_Md_tries_169 l1 l2 l3 h) := by
  unfold f_Md_tries_169
  (try simp (disch := omega) only [mx_hi, mx_up, ↓mp_ite, ↓mp_gd, ↓mp_gb, ↓mp_gp, ↓mp_c1, ↓mp_c2, c1_mp, c2_mp, ↓mp_sw, sw_mp, sm_l, sm_r, xlet_eq, Option.map_some, Option.map_none])
theorem loc_Md_tries_143 {c h : xH} {l1 : Int} {l2 : Int} {l3 : Int} {l4 : Int} {l5 : Int} {l6 : Int} : f_Md_tries_143 l1 l2 l3 l4 l5 l6 (mx c h) = Option.map (Sum.map (fun q : (Int × xH) => (q.1, mx c q.2)) (mx c)) (f_Md_tries_143 l1 l2 l3 l4 l5 l6 h) := by
  unfold f_Md_tries_143
  (try simp (disch := omega) only [mx_hi, mx_up, ↓mp_ite, ↓mp_gd, ↓mp_gb, ↓mp_gp, ↓mp_c1, ↓mp_c2, c1_mp, c2_mp, ↓mp_sw, sw_mp, sm_l, sm_r, xlet_eq, Option.map_some, Option.map_none, loc_Md_tries_169])
theorem loc_Md_tries_s68 {c h : xH} {l1 : Int} {l2 : Int} {l3 : Int} {l4 : Int} {l5 : Int} {l6 : Int} : f_Md_tries_s68 l1 l2 l3 l4 l5 l6 (mx c h) = Option.map (Sum.map (fun q : (Int × xH) => (q.1, mx c q.2)) (fun q : (Int × xH) => (q.1, mx c q.2))) (f_Md_tries_s68 l1 l2 l3 l4 l5 l6 h) := by
  unfold f_Md_tries_s68
  (try simp (disch := omega) only [mx_hi, mx_up, ↓mp_ite, ↓mp_gd, ↓mp_gb, ↓mp_gp, ↓mp_c1, ↓mp_c2, c1_mp, c2_mp, ↓mp_sw, sw_mp, sm_l, sm_r, xlet_eq, Option.map_some, Option.map_none, loc_Md_isAhead])
theorem loc_Md_tries_68 {c h : xH} {l1 : Int} {l2 : Int} {l3 : Int} {l4 : Int} {l5 : Int} {l6 : Int} : f_Md_tries_68 l1 l2 l3 l4 l5 l6 (mx c h) = Option.map (Sum.map (fun q : (Int × xH) => (q.1, mx c q.2)) (mx c)) (f_Md_tries_68 l1 l2 l3 l4 l5 l6 h) := by
  unfold f_Md_tries_68
  rw [xloop_map (f := (fun q : (Int × xH) => (q.1, mx c q.2))) (g := (fun q : (Int × xH) => (q.1, mx c q.2))) (fun s => loc_Md_tries_s68) ((l6, h))]
  (try simp (disch := omega) only [mx_hi, mx_up, ↓mp_ite, ↓mp_gd, ↓mp_gb, ↓mp_gp, ↓mp_c1, ↓mp_c2, c1_mp, c2_mp, ↓mp_sw, sw_mp, sm_l, sm_r, xlet_eq, Option.map_some, Option.map_none, loc_Md_tries_143, loc_Md_tries_s68])
theorem loc_Md_tries_32 {c h : xH} {l1 : Int} {l2 : Int} {l3 : Int} {s0 : Int} : f_Md_tries_32 l1 l2 l3 s0 (mx c h) = Option.map (Sum.map (fun q : (Int × xH) => (q.1, mx c q.2)) (mx c)) (f_Md_tries_32 l1 l2 l3 s0 h) := by
  unfold f_Md_tries_32
  (try simp (disch := omega) only [mx_hi, mx_up, ↓mp_ite, ↓mp_gd, ↓mp_gb, ↓mp_gp, ↓mp_c1, ↓mp_c2, c1_mp, c2_mp, ↓mp_sw, sw_mp, sm_l, sm_r, xlet_eq, Option.map_some, Option.map_none, loc_Md_share, loc_Md_tries_169, loc_Md_tries_68])
theorem loc_Md_tries_s7 {c h : xH} {l1 : Int} {l2 : Int} {l3 : Int} : f_Md_tries_s7 l1 l2 l3 (mx c h) = Option.map (Sum.map (fun q : (Int × xH) => (q.1, mx c q.2)) (mx c)) (f_Md_tries_s7 l1 l2 l3 h) := by
  unfold f_Md_tries_s7
  (try simp (disch := omega) only [mx_hi, mx_up, ↓mp_ite, ↓mp_gd, ↓mp_gb, ↓mp_gp, ↓mp_c1, ↓mp_c2, c1_mp, c2_mp, ↓mp_sw, sw_mp, sm_l, sm_r, xlet_eq, Option.map_some, Option.map_none, loc_Md_beginningTo, loc_Md_distanceTo, loc_Md_tries_32])
theorem loc_Md_tries_7 {c h : xH} {l1 : Int} {l2 : Int} {l3 : Int} : f_Md_tries_7 l1 l2 l3 (mx c h) = Option.map (mx c) (f_Md_tries_7 l1 l2 l3 h) := by
  unfold f_Md_tries_7
  rw [xloop_map (f := (fun q : (Int × xH) => (q.1, mx c q.2))) (g := (mx c)) (fun s => loc_Md_tries_s7) ((l3, h))]
  (try simp (disch := omega) only [mx_hi, mx_up, ↓mp_ite, ↓mp_gd, ↓mp_gb, ↓mp_gp, ↓mp_c1, ↓mp_c2, c1_mp, c2_mp, ↓mp_sw, sw_mp, sm_l, sm_r, xlet_eq, Option.map_some, Option.map_none, loc_Md_tries_175, loc_Md_tries_s7])
theorem loc_Md_tries {c h : xH} {l1 : Int} {l2 : Int} : f_Md_tries l1 l2 (mx c h) = Option.map (mx c) (f_Md_tries l1 l2 h) := by
  unfold f_Md_tries
  (try simp (disch := omega) only [mx_hi, mx_up, ↓mp_ite, ↓mp_gd, ↓mp_gb, ↓mp_gp, ↓mp_c1, ↓mp_c2, c1_mp, c2_mp, ↓mp_sw, sw_mp, sm_l, sm_r, xlet_eq, Option.map_some, Option.map_none, loc_Md_tries_7])
theorem loc_Md_keeps_64 {c h : xH} : f_Md_keeps_64 (mx c h) = Option.map (fun q : Int × xH => (q.1, mx c q.2)) (f_Md_keeps_64 h) := by
  unfold f_Md_keeps_64
  (try simp (disch := omega) only [mx_hi, mx_up, ↓mp_ite, ↓mp_gd, ↓mp_gb, ↓mp_gp, ↓mp_c1, ↓mp_c2, c1_mp, c2_mp, ↓mp_sw, sw_mp, sm_l, sm_r, xlet_eq, Option.map_some, Option.map_none])
theorem loc_Md_keeps_s14 {c h : xH} {l2 : Int} : f_Md_keeps_s14 l2 (mx c h) = Option.map (Sum.map (fun q : (Int × xH) => (q.1, mx c q.2)) (mx c)) (f_Md_keeps_s14 l2 h) := by
  unfold f_Md_keeps_s14
  (try simp (disch := omega) only [mx_hi, mx_up, ↓mp_ite, ↓mp_gd, ↓mp_gb, ↓mp_gp, ↓mp_c1, ↓mp_c2, c1_mp, c2_mp, ↓mp_sw, sw_mp, sm_l, sm_r, xlet_eq, Option.map_some, Option.map_none])
theorem loc_Md_keeps_14 {c h : xH} {l2 : Int} : f_Md_keeps_14 l2 (mx c h) = Option.map (fun q : Int × xH => (q.1, mx c q.2)) (f_Md_keeps_14 l2 h) := by
  unfold f_Md_keeps_14
  rw [xloop_map (f := (fun q : (Int × xH) => (q.1, mx c q.2))) (g := (mx c)) (fun s => loc_Md_keeps_s14) ((l2, h))]
  (try simp (disch := omega) only [mx_hi, mx_up, ↓mp_ite, ↓mp_gd, ↓mp_gb, ↓mp_gp, ↓mp_c1, ↓mp_c2, c1_mp, c2_mp, ↓mp_sw, sw_mp, sm_l, sm_r, xlet_eq, Option.map_some, Option.map_none, loc_Md_keeps_64, loc_Md_keeps_s14])
theorem loc_Md_keeps {c h : xH} {l1 : Int} : f_Md_keeps l1 (mx c h) = Option.map (fun q : Int × xH => (q.1, mx c q.2)) (f_Md_keeps l1 h) := by
  unfold f_Md_keeps
  (try simp (disch := omega) only [mx_hi, mx_up, ↓mp_ite, ↓mp_gd, ↓mp_gb, ↓mp_gp, ↓mp_c1, ↓mp_c2, c1_mp, c2_mp, ↓mp_sw, sw_mp, sm_l, sm_r, xlet_eq, Option.map_some, Option.map_none, loc_Md_keeps_14, loc_Md_min])
theorem loc_Md_near {c h : xH} {l1 : Int} : f_Md_near l1 (mx c h) = Option.map (fun q : Int × xH => (q.1, mx c q.2)) (f_Md_near l1 h) := by
  unfold f_Md_near
  (try simp (disch := omega) only [mx_hi, mx_up, ↓mp_ite, ↓mp_gd, ↓mp_gb, ↓mp_gp, ↓mp_c1, ↓mp_c2, c1_mp, c2_mp, ↓mp_sw, sw_mp, sm_l, sm_r, xlet_eq, Option.map_some, Option.map_none, loc_Md_in, loc_Md_keeps, loc_Md_readsOne, loc_Md_takeB, loc_Md_tries, loc_Md_walk])
theorem loc_Md_nearest {c h : xH} {l1 : Int} : f_Md_nearest l1 (mx c h) = Option.map (fun q : Int × xH => (q.1, mx c q.2)) (f_Md_nearest l1 h) := by
  unfold f_Md_nearest
  (try simp (disch := omega) only [mx_hi, mx_up, ↓mp_ite, ↓mp_gd, ↓mp_gb, ↓mp_gp, ↓mp_c1, ↓mp_c2, c1_mp, c2_mp, ↓mp_sw, sw_mp, sm_l, sm_r, xlet_eq, Option.map_some, Option.map_none, loc_Md_in, loc_Md_keeps, loc_Md_readsOne, loc_Md_takeB, loc_Md_tries])
theorem loc_Md_complete {c h : xH} {l1 : Int} : f_Md_complete l1 (mx c h) = Option.map (fun q : Int × xH => (q.1, mx c q.2)) (f_Md_complete l1 h) := by
  unfold f_Md_complete
  (try simp (disch := omega) only [mx_hi, mx_up, ↓mp_ite, ↓mp_gd, ↓mp_gb, ↓mp_gp, ↓mp_c1, ↓mp_c2, c1_mp, c2_mp, ↓mp_sw, sw_mp, sm_l, sm_r, xlet_eq, Option.map_some, Option.map_none, loc_Md_in, loc_Md_keeps, loc_Md_readsOne, loc_Md_takeB, loc_Md_tries, loc_Md_walk])
theorem loc_Md_found {c h : xH} {l1 : Int} {l2 : Int} : f_Md_found l1 l2 (mx c h) = f_Md_found l1 l2 h := by
  unfold f_Md_found
  (try simp (disch := omega) only [mx_hi, mx_up, ↓mp_ite, ↓mp_gd, ↓mp_gb, ↓mp_gp, ↓mp_c1, ↓mp_c2, c1_mp, c2_mp, ↓mp_sw, sw_mp, sm_l, sm_r, xlet_eq, Option.map_some, Option.map_none, loc_Md_in])
theorem loc_Md_node {c h : xH} {l1 : Int} {l2 : Int} : f_Md_node l1 l2 (mx c h) = f_Md_node l1 l2 h := by
  unfold f_Md_node
  (try simp (disch := omega) only [mx_hi, mx_up, ↓mp_ite, ↓mp_gd, ↓mp_gb, ↓mp_gp, ↓mp_c1, ↓mp_c2, c1_mp, c2_mp, ↓mp_sw, sw_mp, sm_l, sm_r, xlet_eq, Option.map_some, Option.map_none, loc_Md_in])
theorem loc_Md_pair_111 {c h : xH} : f_Md_pair_111 (mx c h) = Option.map (fun q : Int × xH => (q.1, mx c q.2)) (f_Md_pair_111 h) := by
  unfold f_Md_pair_111
  (try simp (disch := omega) only [mx_hi, mx_up, ↓mp_ite, ↓mp_gd, ↓mp_gb, ↓mp_gp, ↓mp_c1, ↓mp_c2, c1_mp, c2_mp, ↓mp_sw, sw_mp, sm_l, sm_r, xlet_eq, Option.map_some, Option.map_none])
theorem loc_Md_pair_s56 {c h : xH} {l1 : Int} : f_Md_pair_s56 l1 (mx c h) = Option.map (Sum.map (fun q : (Int × xH) => (q.1, mx c q.2)) (mx c)) (f_Md_pair_s56 l1 h) := by
  unfold f_Md_pair_s56
  (try simp (disch := omega) only [mx_hi, mx_up, ↓mp_ite, ↓mp_gd, ↓mp_gb, ↓mp_gp, ↓mp_c1, ↓mp_c2, c1_mp, c2_mp, ↓mp_sw, sw_mp, sm_l, sm_r, xlet_eq, Option.map_some, Option.map_none])
theorem loc_Md_pair_56 {c h : xH} {l1 : Int} : f_Md_pair_56 l1 (mx c h) = Option.map (fun q : Int × xH => (q.1, mx c q.2)) (f_Md_pair_56 l1 h) := by
  unfold f_Md_pair_56
  rw [xloop_map (f := (fun q : (Int × xH) => (q.1, mx c q.2))) (g := (mx c)) (fun s => loc_Md_pair_s56) ((l1, h))]
  (try simp (disch := omega) only [mx_hi, mx_up, ↓mp_ite, ↓mp_gd, ↓mp_gb, ↓mp_gp, ↓mp_c1, ↓mp_c2, c1_mp, c2_mp, ↓mp_sw, sw_mp, sm_l, sm_r, xlet_eq, Option.map_some, Option.map_none, loc_Md_pair_111, loc_Md_pair_s56])
theorem loc_Md_pair {c h : xH} : f_Md_pair (mx c h) = Option.map (fun q : Int × xH => (q.1, mx c q.2)) (f_Md_pair h) := by
  unfold f_Md_pair
  (try simp (disch := omega) only [mx_hi, mx_up, ↓mp_ite, ↓mp_gd, ↓mp_gb, ↓mp_gp, ↓mp_c1, ↓mp_c2, c1_mp, c2_mp, ↓mp_sw, sw_mp, sm_l, sm_r, xlet_eq, Option.map_some, Option.map_none, loc_Md_pair_56, loc_Md_readsTwo])
theorem loc_Md_takePair_68 {c h : xH} : f_Md_takePair_68 (mx c h) = Option.map (mx c) (f_Md_takePair_68 h) := by
  unfold f_Md_takePair_68
  (try simp (disch := omega) only [mx_hi, mx_up, ↓mp_ite, ↓mp_gd, ↓mp_gb, ↓mp_gp, ↓mp_c1, ↓mp_c2, c1_mp, c2_mp, ↓mp_sw, sw_mp, sm_l, sm_r, xlet_eq, Option.map_some, Option.map_none])
theorem loc_Md_takePair_s22 {c h : xH} {l1 : Int} {l2 : Int} : f_Md_takePair_s22 l1 l2 (mx c h) = Option.map (Sum.map (fun q : (Int × xH) => (q.1, mx c q.2)) (mx c)) (f_Md_takePair_s22 l1 l2 h) := by
  unfold f_Md_takePair_s22
  (try simp (disch := omega) only [mx_hi, mx_up, ↓mp_ite, ↓mp_gd, ↓mp_gb, ↓mp_gp, ↓mp_c1, ↓mp_c2, c1_mp, c2_mp, ↓mp_sw, sw_mp, sm_l, sm_r, xlet_eq, Option.map_some, Option.map_none])
theorem loc_Md_takePair_22 {c h : xH} {l1 : Int} {l2 : Int} : f_Md_takePair_22 l1 l2 (mx c h) = Option.map (mx c) (f_Md_takePair_22 l1 l2 h) := by
  unfold f_Md_takePair_22
  rw [xloop_map (f := (fun q : (Int × xH) => (q.1, mx c q.2))) (g := (mx c)) (fun s => loc_Md_takePair_s22) ((l2, h))]
  (try simp (disch := omega) only [mx_hi, mx_up, ↓mp_ite, ↓mp_gd, ↓mp_gb, ↓mp_gp, ↓mp_c1, ↓mp_c2, c1_mp, c2_mp, ↓mp_sw, sw_mp, sm_l, sm_r, xlet_eq, Option.map_some, Option.map_none, loc_Md_takePair_68, loc_Md_takePair_s22])
theorem loc_Md_takePair {c h : xH} {l1 : Int} : f_Md_takePair l1 (mx c h) = Option.map (mx c) (f_Md_takePair l1 h) := by
  unfold f_Md_takePair
  (try simp (disch := omega) only [mx_hi, mx_up, ↓mp_ite, ↓mp_gd, ↓mp_gb, ↓mp_gp, ↓mp_c1, ↓mp_c2, c1_mp, c2_mp, ↓mp_sw, sw_mp, sm_l, sm_r, xlet_eq, Option.map_some, Option.map_none, loc_Md_takePair_22])
theorem loc_Md_learn_346 {c h : xH} {l1 : Int} : f_Md_learn_346 l1 (mx c h) = Option.map (fun q : Int × xH => (q.1, mx c q.2)) (f_Md_learn_346 l1 h) := by
  unfold f_Md_learn_346
  (try simp (disch := omega) only [mx_hi, mx_up, ↓mp_ite, ↓mp_gd, ↓mp_gb, ↓mp_gp, ↓mp_c1, ↓mp_c2, c1_mp, c2_mp, ↓mp_sw, sw_mp, sm_l, sm_r, xlet_eq, Option.map_some, Option.map_none])
theorem loc_Md_learn_342 {c h : xH} {l1 : Int} {s0 : Int} : f_Md_learn_342 l1 s0 (mx c h) = Option.map (Sum.map (fun q : (Int × Int × xH) => (q.1, q.2.1, mx c q.2.2)) (fun q : (Int × xH) => (q.1, mx c q.2))) (f_Md_learn_342 l1 s0 h) := by
  unfold f_Md_learn_342
  (try simp (disch := omega) only [mx_hi, mx_up, ↓mp_ite, ↓mp_gd, ↓mp_gb, ↓mp_gp, ↓mp_c1, ↓mp_c2, c1_mp, c2_mp, ↓mp_sw, sw_mp, sm_l, sm_r, xlet_eq, Option.map_some, Option.map_none])
theorem loc_Md_learn_341 {c h : xH} {l1 : Int} : f_Md_learn_341 l1 (mx c h) = Option.map (Sum.map (fun q : (Int × Int × xH) => (q.1, q.2.1, mx c q.2.2)) (fun q : (Int × xH) => (q.1, mx c q.2))) (f_Md_learn_341 l1 h) := by
  unfold f_Md_learn_341
  (try simp (disch := omega) only [mx_hi, mx_up, ↓mp_ite, ↓mp_gd, ↓mp_gb, ↓mp_gp, ↓mp_c1, ↓mp_c2, c1_mp, c2_mp, ↓mp_sw, sw_mp, sm_l, sm_r, xlet_eq, Option.map_some, Option.map_none, loc_Md_learn_342])
theorem loc_Md_learn_322 {c h : xH} {l1 : Int} {l3 : Int} {l4 : Int} : f_Md_learn_322 l1 l3 l4 (mx c h) = Option.map (Sum.map (fun q : (Int × Int × xH) => (q.1, q.2.1, mx c q.2.2)) (fun q : (Int × xH) => (q.1, mx c q.2))) (f_Md_learn_322 l1 l3 l4 h) := by
  unfold f_Md_learn_322
  (try simp (disch := omega) only [mx_hi, mx_up, ↓mp_ite, ↓mp_gd, ↓mp_gb, ↓mp_gp, ↓mp_c1, ↓mp_c2, c1_mp, c2_mp, ↓mp_sw, sw_mp, sm_l, sm_r, xlet_eq, Option.map_some, Option.map_none, loc_Md_learn_341, loc_Md_learn_342])
theorem loc_Md_learn_s284 {c h : xH} {l1 : Int} {l3 : Int} {l4 : Int} {l5 : Int} : f_Md_learn_s284 l1 l3 l4 l5 (mx c h) = Option.map (Sum.map (fun q : (Int × xH) => (q.1, mx c q.2)) (mx c)) (f_Md_learn_s284 l1 l3 l4 l5 h) := by
  unfold f_Md_learn_s284
  (try simp (disch := omega) only [mx_hi, mx_up, ↓mp_ite, ↓mp_gd, ↓mp_gb, ↓mp_gp, ↓mp_c1, ↓mp_c2, c1_mp, c2_mp, ↓mp_sw, sw_mp, sm_l, sm_r, xlet_eq, Option.map_some, Option.map_none])
theorem loc_Md_learn_284 {c h : xH} {l1 : Int} {l3 : Int} {l4 : Int} {l5 : Int} : f_Md_learn_284 l1 l3 l4 l5 (mx c h) = Option.map (Sum.map (fun q : (Int × Int × xH) => (q.1, q.2.1, mx c q.2.2)) (fun q : (Int × xH) => (q.1, mx c q.2))) (f_Md_learn_284 l1 l3 l4 l5 h) := by
  unfold f_Md_learn_284
  rw [xloop_map (f := (fun q : (Int × xH) => (q.1, mx c q.2))) (g := (mx c)) (fun s => loc_Md_learn_s284) ((l5, h))]
  (try simp (disch := omega) only [mx_hi, mx_up, ↓mp_ite, ↓mp_gd, ↓mp_gb, ↓mp_gp, ↓mp_c1, ↓mp_c2, c1_mp, c2_mp, ↓mp_sw, sw_mp, sm_l, sm_r, xlet_eq, Option.map_some, Option.map_none, loc_Md_learn_322, loc_Md_learn_s284])
theorem loc_Md_learn_276 {c h : xH} {l1 : Int} {l3 : Int} {l4 : Int} : f_Md_learn_276 l1 l3 l4 (mx c h) = Option.map (Sum.map (fun q : (Int × Int × xH) => (q.1, q.2.1, mx c q.2.2)) (fun q : (Int × xH) => (q.1, mx c q.2))) (f_Md_learn_276 l1 l3 l4 h) := by
  unfold f_Md_learn_276
  (try simp (disch := omega) only [mx_hi, mx_up, ↓mp_ite, ↓mp_gd, ↓mp_gb, ↓mp_gp, ↓mp_c1, ↓mp_c2, c1_mp, c2_mp, ↓mp_sw, sw_mp, sm_l, sm_r, xlet_eq, Option.map_some, Option.map_none, loc_Md_learn_284, loc_Md_learn_322])
theorem loc_Md_learn_s251 {c h : xH} {l1 : Int} {l3 : Int} {l4 : Int} {l5 : Int} : f_Md_learn_s251 l1 l3 l4 l5 (mx c h) = f_Md_learn_s251 l1 l3 l4 l5 h := by
  unfold f_Md_learn_s251
  (try simp (disch := omega) only [mx_hi, mx_up, ↓mp_ite, ↓mp_gd, ↓mp_gb, ↓mp_gp, ↓mp_c1, ↓mp_c2, c1_mp, c2_mp, ↓mp_sw, sw_mp, sm_l, sm_r, xlet_eq, Option.map_some, Option.map_none])
theorem loc_Md_learn_251 {c h : xH} {l1 : Int} {l3 : Int} {l4 : Int} {l5 : Int} : f_Md_learn_251 l1 l3 l4 l5 (mx c h) = Option.map (Sum.map (fun q : (Int × Int × xH) => (q.1, q.2.1, mx c q.2.2)) (fun q : (Int × xH) => (q.1, mx c q.2))) (f_Md_learn_251 l1 l3 l4 l5 h) := by
  unfold f_Md_learn_251
  (try simp (disch := omega) only [mx_hi, mx_up, ↓mp_ite, ↓mp_gd, ↓mp_gb, ↓mp_gp, ↓mp_c1, ↓mp_c2, c1_mp, c2_mp, ↓mp_sw, sw_mp, sm_l, sm_r, xlet_eq, Option.map_some, Option.map_none, loc_Md_learn_276, loc_Md_learn_s251])
theorem loc_Md_learn_245 {c h : xH} {l1 : Int} {l3 : Int} : f_Md_learn_245 l1 l3 (mx c h) = Option.map (Sum.map (fun q : (Int × Int × xH) => (q.1, q.2.1, mx c q.2.2)) (fun q : (Int × xH) => (q.1, mx c q.2))) (f_Md_learn_245 l1 l3 h) := by
  unfold f_Md_learn_245
  (try simp (disch := omega) only [mx_hi, mx_up, ↓mp_ite, ↓mp_gd, ↓mp_gb, ↓mp_gp, ↓mp_c1, ↓mp_c2, c1_mp, c2_mp, ↓mp_sw, sw_mp, sm_l, sm_r, xlet_eq, Option.map_some, Option.map_none, loc_Md_learn_251])
theorem loc_Md_learn_228 {c h : xH} {l1 : Int} {l3 : Int} {l4 : Int} : f_Md_learn_228 l1 l3 l4 (mx c h) = Option.map (Sum.map (fun q : (Int × Int × xH) => (q.1, q.2.1, mx c q.2.2)) (fun q : (Int × xH) => (q.1, mx c q.2))) (f_Md_learn_228 l1 l3 l4 h) := by
  unfold f_Md_learn_228
  (try simp (disch := omega) only [mx_hi, mx_up, ↓mp_ite, ↓mp_gd, ↓mp_gb, ↓mp_gp, ↓mp_c1, ↓mp_c2, c1_mp, c2_mp, ↓mp_sw, sw_mp, sm_l, sm_r, xlet_eq, Option.map_some, Option.map_none])
theorem loc_Md_learn_207 {c h : xH} {l1 : Int} {l3 : Int} {l4 : Int} {l5 : Int} {l6 : Int} : f_Md_learn_207 l1 l3 l4 l5 l6 (mx c h) = Option.map (Sum.map (fun q : (Int × Int × xH) => (q.1, q.2.1, mx c q.2.2)) (fun q : (Int × xH) => (q.1, mx c q.2))) (f_Md_learn_207 l1 l3 l4 l5 l6 h) := by
  unfold f_Md_learn_207
  (try simp (disch := omega) only [mx_hi, mx_up, ↓mp_ite, ↓mp_gd, ↓mp_gb, ↓mp_gp, ↓mp_c1, ↓mp_c2, c1_mp, c2_mp, ↓mp_sw, sw_mp, sm_l, sm_r, xlet_eq, Option.map_some, Option.map_none])
theorem loc_Md_learn_170 {c h : xH} {l1 : Int} {l3 : Int} {l4 : Int} {l5 : Int} {l6 : Int} : f_Md_learn_170 l1 l3 l4 l5 l6 (mx c h) = Option.map (Sum.map (fun q : (Int × Int × xH) => (q.1, q.2.1, mx c q.2.2)) (fun q : (Int × xH) => (q.1, mx c q.2))) (f_Md_learn_170 l1 l3 l4 l5 l6 h) := by
  unfold f_Md_learn_170
  (try simp (disch := omega) only [mx_hi, mx_up, ↓mp_ite, ↓mp_gd, ↓mp_gb, ↓mp_gp, ↓mp_c1, ↓mp_c2, c1_mp, c2_mp, ↓mp_sw, sw_mp, sm_l, sm_r, xlet_eq, Option.map_some, Option.map_none, loc_Md_learn_207])
theorem loc_Md_learn_146 {c h : xH} {l1 : Int} {l3 : Int} {l4 : Int} {l5 : Int} {s0 : Int} : f_Md_learn_146 l1 l3 l4 l5 s0 (mx c h) = Option.map (Sum.map (fun q : (Int × Int × xH) => (q.1, q.2.1, mx c q.2.2)) (fun q : (Int × xH) => (q.1, mx c q.2))) (f_Md_learn_146 l1 l3 l4 l5 s0 h) := by
  unfold f_Md_learn_146
  (try simp (disch := omega) only [mx_hi, mx_up, ↓mp_ite, ↓mp_gd, ↓mp_gb, ↓mp_gp, ↓mp_c1, ↓mp_c2, c1_mp, c2_mp, ↓mp_sw, sw_mp, sm_l, sm_r, xlet_eq, Option.map_some, Option.map_none, loc_Md_in, loc_Md_learn_170])
theorem loc_Md_learn_s105 {c h : xH} {l1 : Int} {l3 : Int} {l4 : Int} {l5 : Int} : f_Md_learn_s105 l1 l3 l4 l5 (mx c h) = Option.map (Sum.map (fun q : (Int × Int × xH) => (q.1, q.2.1, mx c q.2.2)) (fun q : (Int × xH) => (q.1, mx c q.2))) (f_Md_learn_s105 l1 l3 l4 l5 h) := by
  unfold f_Md_learn_s105
  (try simp (disch := omega) only [mx_hi, mx_up, ↓mp_ite, ↓mp_gd, ↓mp_gb, ↓mp_gp, ↓mp_c1, ↓mp_c2, c1_mp, c2_mp, ↓mp_sw, sw_mp, sm_l, sm_r, xlet_eq, Option.map_some, Option.map_none, loc_Md_learn_146])
theorem loc_Md_learn_105 {c h : xH} {l1 : Int} {l3 : Int} {l4 : Int} {l5 : Int} : f_Md_learn_105 l1 l3 l4 l5 (mx c h) = Option.map (Sum.map (fun q : (Int × Int × xH) => (q.1, q.2.1, mx c q.2.2)) (fun q : (Int × xH) => (q.1, mx c q.2))) (f_Md_learn_105 l1 l3 l4 l5 h) := by
  unfold f_Md_learn_105
  rw [xloop_map (f := (fun q : (Int × Int × xH) => (q.1, q.2.1, mx c q.2.2))) (g := (fun q : (Int × xH) => (q.1, mx c q.2))) (fun s => loc_Md_learn_s105) ((l3, l5, h))]
  (try simp (disch := omega) only [mx_hi, mx_up, ↓mp_ite, ↓mp_gd, ↓mp_gb, ↓mp_gp, ↓mp_c1, ↓mp_c2, c1_mp, c2_mp, ↓mp_sw, sw_mp, sm_l, sm_r, xlet_eq, Option.map_some, Option.map_none, loc_Md_learn_228, loc_Md_learn_s105])
theorem loc_Md_learn_102 {c h : xH} {l1 : Int} {l3 : Int} {l4 : Int} : f_Md_learn_102 l1 l3 l4 (mx c h) = Option.map (Sum.map (fun q : (Int × Int × xH) => (q.1, q.2.1, mx c q.2.2)) (fun q : (Int × xH) => (q.1, mx c q.2))) (f_Md_learn_102 l1 l3 l4 h) := by
  unfold f_Md_learn_102
  (try simp (disch := omega) only [mx_hi, mx_up, ↓mp_ite, ↓mp_gd, ↓mp_gb, ↓mp_gp, ↓mp_c1, ↓mp_c2, c1_mp, c2_mp, ↓mp_sw, sw_mp, sm_l, sm_r, xlet_eq, Option.map_some, Option.map_none, loc_Md_learn_105])
theorem loc_Md_learn_s58 {c h : xH} {l1 : Int} {l3 : Int} {l4 : Int} : f_Md_learn_s58 l1 l3 l4 (mx c h) = Option.map (Sum.map (fun q : (Int × Int × xH) => (q.1, q.2.1, mx c q.2.2)) (fun q : (Int × xH) => (q.1, mx c q.2))) (f_Md_learn_s58 l1 l3 l4 h) := by
  unfold f_Md_learn_s58
  (try simp (disch := omega) only [mx_hi, mx_up, ↓mp_ite, ↓mp_gd, ↓mp_gb, ↓mp_gp, ↓mp_c1, ↓mp_c2, c1_mp, c2_mp, ↓mp_sw, sw_mp, sm_l, sm_r, xlet_eq, Option.map_some, Option.map_none, loc_Md_learn_102, loc_Md_sums, loc_Md_takePair, loc_Md_ways])
theorem loc_Md_learn_58 {c h : xH} {l1 : Int} {l3 : Int} {l4 : Int} : f_Md_learn_58 l1 l3 l4 (mx c h) = Option.map (Sum.map (fun q : (Int × Int × xH) => (q.1, q.2.1, mx c q.2.2)) (fun q : (Int × xH) => (q.1, mx c q.2))) (f_Md_learn_58 l1 l3 l4 h) := by
  unfold f_Md_learn_58
  rw [xloop_map (f := (fun q : (Int × Int × xH) => (q.1, q.2.1, mx c q.2.2))) (g := (fun q : (Int × xH) => (q.1, mx c q.2))) (fun s => loc_Md_learn_s58) ((l3, l4, h))]
  (try simp (disch := omega) only [mx_hi, mx_up, ↓mp_ite, ↓mp_gd, ↓mp_gb, ↓mp_gp, ↓mp_c1, ↓mp_c2, c1_mp, c2_mp, ↓mp_sw, sw_mp, sm_l, sm_r, xlet_eq, Option.map_some, Option.map_none, loc_Md_learn_245, loc_Md_learn_s58])
theorem loc_Md_learn_55 {c h : xH} {l1 : Int} {l3 : Int} : f_Md_learn_55 l1 l3 (mx c h) = Option.map (Sum.map (fun q : (Int × Int × xH) => (q.1, q.2.1, mx c q.2.2)) (fun q : (Int × xH) => (q.1, mx c q.2))) (f_Md_learn_55 l1 l3 h) := by
  unfold f_Md_learn_55
  (try simp (disch := omega) only [mx_hi, mx_up, ↓mp_ite, ↓mp_gd, ↓mp_gb, ↓mp_gp, ↓mp_c1, ↓mp_c2, c1_mp, c2_mp, ↓mp_sw, sw_mp, sm_l, sm_r, xlet_eq, Option.map_some, Option.map_none, loc_Md_learn_58])
theorem loc_Md_learn_s34 {c h : xH} {l1 : Int} {l3 : Int} {l4 : Int} : f_Md_learn_s34 l1 l3 l4 (mx c h) = Option.map (Sum.map (fun q : (Int × xH) => (q.1, mx c q.2)) (mx c)) (f_Md_learn_s34 l1 l3 l4 h) := by
  unfold f_Md_learn_s34
  (try simp (disch := omega) only [mx_hi, mx_up, ↓mp_ite, ↓mp_gd, ↓mp_gb, ↓mp_gp, ↓mp_c1, ↓mp_c2, c1_mp, c2_mp, ↓mp_sw, sw_mp, sm_l, sm_r, xlet_eq, Option.map_some, Option.map_none])
theorem loc_Md_learn_34 {c h : xH} {l1 : Int} {l3 : Int} {l4 : Int} : f_Md_learn_34 l1 l3 l4 (mx c h) = Option.map (Sum.map (fun q : (Int × Int × xH) => (q.1, q.2.1, mx c q.2.2)) (fun q : (Int × xH) => (q.1, mx c q.2))) (f_Md_learn_34 l1 l3 l4 h) := by
  unfold f_Md_learn_34
  rw [xloop_map (f := (fun q : (Int × xH) => (q.1, mx c q.2))) (g := (mx c)) (fun s => loc_Md_learn_s34) ((l4, h))]
  (try simp (disch := omega) only [mx_hi, mx_up, ↓mp_ite, ↓mp_gd, ↓mp_gb, ↓mp_gp, ↓mp_c1, ↓mp_c2, c1_mp, c2_mp, ↓mp_sw, sw_mp, sm_l, sm_r, xlet_eq, Option.map_some, Option.map_none, loc_Md_learn_55, loc_Md_learn_s34])
theorem loc_Md_learn_30 {c h : xH} {l1 : Int} {s0 : Int} : f_Md_learn_30 l1 s0 (mx c h) = Option.map (Sum.map (fun q : (Int × Int × xH) => (q.1, q.2.1, mx c q.2.2)) (fun q : (Int × xH) => (q.1, mx c q.2))) (f_Md_learn_30 l1 s0 h) := by
  unfold f_Md_learn_30
  (try simp (disch := omega) only [mx_hi, mx_up, ↓mp_ite, ↓mp_gd, ↓mp_gb, ↓mp_gp, ↓mp_c1, ↓mp_c2, c1_mp, c2_mp, ↓mp_sw, sw_mp, sm_l, sm_r, xlet_eq, Option.map_some, Option.map_none, loc_Md_learn_34])
theorem loc_Md_learn_s13 {c h : xH} {l1 : Int} {l2 : Int} : f_Md_learn_s13 l1 l2 (mx c h) = Option.map (Sum.map (fun q : (Int × Int × xH) => (q.1, q.2.1, mx c q.2.2)) (fun q : (Int × xH) => (q.1, mx c q.2))) (f_Md_learn_s13 l1 l2 h) := by
  unfold f_Md_learn_s13
  (try simp (disch := omega) only [mx_hi, mx_up, ↓mp_ite, ↓mp_gd, ↓mp_gb, ↓mp_gp, ↓mp_c1, ↓mp_c2, c1_mp, c2_mp, ↓mp_sw, sw_mp, sm_l, sm_r, xlet_eq, Option.map_some, Option.map_none, loc_Md_learn_30])
theorem loc_Md_learn_13 {c h : xH} {l1 : Int} {l2 : Int} : f_Md_learn_13 l1 l2 (mx c h) = Option.map (fun q : Int × xH => (q.1, mx c q.2)) (f_Md_learn_13 l1 l2 h) := by
  unfold f_Md_learn_13
  rw [xloop_map (f := (fun q : (Int × Int × xH) => (q.1, q.2.1, mx c q.2.2))) (g := (fun q : (Int × xH) => (q.1, mx c q.2))) (fun s => loc_Md_learn_s13) ((l1, l2, h))]
  (try simp (disch := omega) only [mx_hi, mx_up, ↓mp_ite, ↓mp_gd, ↓mp_gb, ↓mp_gp, ↓mp_c1, ↓mp_c2, c1_mp, c2_mp, ↓mp_sw, sw_mp, sm_l, sm_r, xlet_eq, Option.map_some, Option.map_none, loc_Md_learn_346, loc_Md_learn_s13])
theorem loc_Md_learn {c h : xH} : f_Md_learn (mx c h) = Option.map (fun q : Int × xH => (q.1, mx c q.2)) (f_Md_learn h) := by
  unfold f_Md_learn
  (try simp (disch := omega) only [mx_hi, mx_up, ↓mp_ite, ↓mp_gd, ↓mp_gb, ↓mp_gp, ↓mp_c1, ↓mp_c2, c1_mp, c2_mp, ↓mp_sw, sw_mp, sm_l, sm_r, xlet_eq, Option.map_some, Option.map_none, loc_Md_learn_13])
theorem loc_Md_spread_36 {c h : xH} {l1 : Int} : f_Md_spread_36 l1 (mx c h) = Option.map (fun q : Int × xH => (q.1, mx c q.2)) (f_Md_spread_36 l1 h) := by
  unfold f_Md_spread_36
  (try simp (disch := omega) only [mx_hi, mx_up, ↓mp_ite, ↓mp_gd, ↓mp_gb, ↓mp_gp, ↓mp_c1, ↓mp_c2, c1_mp, c2_mp, ↓mp_sw, sw_mp, sm_l, sm_r, xlet_eq, Option.map_some, Option.map_none])
theorem loc_Md_spread_s4 {c h : xH} {l1 : Int} {l2 : Int} : f_Md_spread_s4 l1 l2 (mx c h) = Option.map (Sum.map (fun q : (Int × Int × xH) => (q.1, q.2.1, mx c q.2.2)) (fun q : (Int × xH) => (q.1, mx c q.2))) (f_Md_spread_s4 l1 l2 h) := by
  unfold f_Md_spread_s4
  (try simp (disch := omega) only [mx_hi, mx_up, ↓mp_ite, ↓mp_gd, ↓mp_gb, ↓mp_gp, ↓mp_c1, ↓mp_c2, c1_mp, c2_mp, ↓mp_sw, sw_mp, sm_l, sm_r, xlet_eq, Option.map_some, Option.map_none, loc_Md_sums, loc_Md_takePair])
theorem loc_Md_spread_4 {c h : xH} {l1 : Int} {l2 : Int} : f_Md_spread_4 l1 l2 (mx c h) = Option.map (fun q : Int × xH => (q.1, mx c q.2)) (f_Md_spread_4 l1 l2 h) := by
  unfold f_Md_spread_4
  rw [xloop_map (f := (fun q : (Int × Int × xH) => (q.1, q.2.1, mx c q.2.2))) (g := (fun q : (Int × xH) => (q.1, mx c q.2))) (fun s => loc_Md_spread_s4) ((l1, l2, h))]
  (try simp (disch := omega) only [mx_hi, mx_up, ↓mp_ite, ↓mp_gd, ↓mp_gb, ↓mp_gp, ↓mp_c1, ↓mp_c2, c1_mp, c2_mp, ↓mp_sw, sw_mp, sm_l, sm_r, xlet_eq, Option.map_some, Option.map_none, loc_Md_spread_36, loc_Md_spread_s4])
theorem loc_Md_spread {c h : xH} : f_Md_spread (mx c h) = Option.map (fun q : Int × xH => (q.1, mx c q.2)) (f_Md_spread h) := by
  unfold f_Md_spread
  (try simp (disch := omega) only [mx_hi, mx_up, ↓mp_ite, ↓mp_gd, ↓mp_gb, ↓mp_gp, ↓mp_c1, ↓mp_c2, c1_mp, c2_mp, ↓mp_sw, sw_mp, sm_l, sm_r, xlet_eq, Option.map_some, Option.map_none, loc_Md_spread_4])
theorem loc_Md_together_105 {c h : xH} {l2 : Int} : f_Md_together_105 l2 (mx c h) = Option.map (fun q : Int × xH => (q.1, mx c q.2)) (f_Md_together_105 l2 h) := by
  unfold f_Md_together_105
  (try simp (disch := omega) only [mx_hi, mx_up, ↓mp_ite, ↓mp_gd, ↓mp_gb, ↓mp_gp, ↓mp_c1, ↓mp_c2, c1_mp, c2_mp, ↓mp_sw, sw_mp, sm_l, sm_r, xlet_eq, Option.map_some, Option.map_none, loc_Md_wordOf])
theorem loc_Md_together_s61 {c h : xH} {l1 : Int} {l2 : Int} {l3 : Int} : f_Md_together_s61 l1 l2 l3 (mx c h) = Option.map (Sum.map (fun q : (Int × xH) => (q.1, mx c q.2)) (mx c)) (f_Md_together_s61 l1 l2 l3 h) := by
  unfold f_Md_together_s61
  (try simp (disch := omega) only [mx_hi, mx_up, ↓mp_ite, ↓mp_gd, ↓mp_gb, ↓mp_gp, ↓mp_c1, ↓mp_c2, c1_mp, c2_mp, ↓mp_sw, sw_mp, sm_l, sm_r, xlet_eq, Option.map_some, Option.map_none])
theorem loc_Md_together_61 {c h : xH} {l1 : Int} {l2 : Int} {l3 : Int} : f_Md_together_61 l1 l2 l3 (mx c h) = Option.map (fun q : Int × xH => (q.1, mx c q.2)) (f_Md_together_61 l1 l2 l3 h) := by
  unfold f_Md_together_61
  rw [xloop_map (f := (fun q : (Int × xH) => (q.1, mx c q.2))) (g := (mx c)) (fun s => loc_Md_together_s61) ((l3, h))]
  (try simp (disch := omega) only [mx_hi, mx_up, ↓mp_ite, ↓mp_gd, ↓mp_gb, ↓mp_gp, ↓mp_c1, ↓mp_c2, c1_mp, c2_mp, ↓mp_sw, sw_mp, sm_l, sm_r, xlet_eq, Option.map_some, Option.map_none, loc_Md_together_105, loc_Md_together_s61])
theorem loc_Md_together_59 {c h : xH} {l1 : Int} {l2 : Int} : f_Md_together_59 l1 l2 (mx c h) = Option.map (fun q : Int × xH => (q.1, mx c q.2)) (f_Md_together_59 l1 l2 h) := by
  unfold f_Md_together_59
  (try simp (disch := omega) only [mx_hi, mx_up, ↓mp_ite, ↓mp_gd, ↓mp_gb, ↓mp_gp, ↓mp_c1, ↓mp_c2, c1_mp, c2_mp, ↓mp_sw, sw_mp, sm_l, sm_r, xlet_eq, Option.map_some, Option.map_none, loc_Md_together_61])
theorem loc_Md_together_s26 {c h : xH} {l1 : Int} {l2 : Int} {l3 : Int} : f_Md_together_s26 l1 l2 l3 (mx c h) = Option.map (Sum.map (fun q : (Int × xH) => (q.1, mx c q.2)) (mx c)) (f_Md_together_s26 l1 l2 l3 h) := by
  unfold f_Md_together_s26
  (try simp (disch := omega) only [mx_hi, mx_up, ↓mp_ite, ↓mp_gd, ↓mp_gb, ↓mp_gp, ↓mp_c1, ↓mp_c2, c1_mp, c2_mp, ↓mp_sw, sw_mp, sm_l, sm_r, xlet_eq, Option.map_some, Option.map_none])
theorem loc_Md_together_26 {c h : xH} {l1 : Int} {l2 : Int} {l3 : Int} : f_Md_together_26 l1 l2 l3 (mx c h) = Option.map (fun q : Int × xH => (q.1, mx c q.2)) (f_Md_together_26 l1 l2 l3 h) := by
  unfold f_Md_together_26
  rw [xloop_map (f := (fun q : (Int × xH) => (q.1, mx c q.2))) (g := (mx c)) (fun s => loc_Md_together_s26) ((l3, h))]
  (try simp (disch := omega) only [mx_hi, mx_up, ↓mp_ite, ↓mp_gd, ↓mp_gb, ↓mp_gp, ↓mp_c1, ↓mp_c2, c1_mp, c2_mp, ↓mp_sw, sw_mp, sm_l, sm_r, xlet_eq, Option.map_some, Option.map_none, loc_Md_together_59, loc_Md_together_s26])
theorem loc_Md_together {c h : xH} {l1 : Int} : f_Md_together l1 (mx c h) = Option.map (fun q : Int × xH => (q.1, mx c q.2)) (f_Md_together l1 h) := by
  unfold f_Md_together
  (try simp (disch := omega) only [mx_hi, mx_up, ↓mp_ite, ↓mp_gd, ↓mp_gb, ↓mp_gp, ↓mp_c1, ↓mp_c2, c1_mp, c2_mp, ↓mp_sw, sw_mp, sm_l, sm_r, xlet_eq, Option.map_some, Option.map_none, loc_Md_together_26])
theorem loc_Md_isWord {c h : xH} {l1 : Int} : f_Md_isWord l1 (mx c h) = f_Md_isWord l1 h := by
  unfold f_Md_isWord
  (try simp (disch := omega) only [mx_hi, mx_up, ↓mp_ite, ↓mp_gd, ↓mp_gb, ↓mp_gp, ↓mp_c1, ↓mp_c2, c1_mp, c2_mp, ↓mp_sw, sw_mp, sm_l, sm_r, xlet_eq, Option.map_some, Option.map_none, loc_Md_wordOf])
theorem loc_Md_parting_63 {c h : xH} : f_Md_parting_63 (mx c h) = f_Md_parting_63 h := by
  unfold f_Md_parting_63
  (try simp (disch := omega) only [mx_hi, mx_up, ↓mp_ite, ↓mp_gd, ↓mp_gb, ↓mp_gp, ↓mp_c1, ↓mp_c2, c1_mp, c2_mp, ↓mp_sw, sw_mp, sm_l, sm_r, xlet_eq, Option.map_some, Option.map_none])
theorem loc_Md_parting_57 {c h : xH} {l1 : Int} {l2 : Int} : f_Md_parting_57 l1 l2 (mx c h) = f_Md_parting_57 l1 l2 h := by
  unfold f_Md_parting_57
  (try simp (disch := omega) only [mx_hi, mx_up, ↓mp_ite, ↓mp_gd, ↓mp_gb, ↓mp_gp, ↓mp_c1, ↓mp_c2, c1_mp, c2_mp, ↓mp_sw, sw_mp, sm_l, sm_r, xlet_eq, Option.map_some, Option.map_none])
theorem loc_Md_parting_s2 {c h : xH} {l1 : Int} {l2 : Int} : f_Md_parting_s2 l1 l2 (mx c h) = f_Md_parting_s2 l1 l2 h := by
  unfold f_Md_parting_s2
  (try simp (disch := omega) only [mx_hi, mx_up, ↓mp_ite, ↓mp_gd, ↓mp_gb, ↓mp_gp, ↓mp_c1, ↓mp_c2, c1_mp, c2_mp, ↓mp_sw, sw_mp, sm_l, sm_r, xlet_eq, Option.map_some, Option.map_none, loc_Md_parting_57, loc_Md_wordOf])
theorem loc_Md_parting_2 {c h : xH} {l1 : Int} {l2 : Int} : f_Md_parting_2 l1 l2 (mx c h) = f_Md_parting_2 l1 l2 h := by
  unfold f_Md_parting_2
  (try simp (disch := omega) only [mx_hi, mx_up, ↓mp_ite, ↓mp_gd, ↓mp_gb, ↓mp_gp, ↓mp_c1, ↓mp_c2, c1_mp, c2_mp, ↓mp_sw, sw_mp, sm_l, sm_r, xlet_eq, Option.map_some, Option.map_none, loc_Md_parting_63, loc_Md_parting_s2])
theorem loc_Md_parting {c h : xH} {l1 : Int} : f_Md_parting l1 (mx c h) = f_Md_parting l1 h := by
  unfold f_Md_parting
  (try simp (disch := omega) only [mx_hi, mx_up, ↓mp_ite, ↓mp_gd, ↓mp_gb, ↓mp_gp, ↓mp_c1, ↓mp_c2, c1_mp, c2_mp, ↓mp_sw, sw_mp, sm_l, sm_r, xlet_eq, Option.map_some, Option.map_none, loc_Md_parting_2])
theorem loc_Md_partAt_115 {c h : xH} {l2 : Int} : f_Md_partAt_115 l2 (mx c h) = Option.map (fun q : Int × xH => (q.1, mx c q.2)) (f_Md_partAt_115 l2 h) := by
  unfold f_Md_partAt_115
  (try simp (disch := omega) only [mx_hi, mx_up, ↓mp_ite, ↓mp_gd, ↓mp_gb, ↓mp_gp, ↓mp_c1, ↓mp_c2, c1_mp, c2_mp, ↓mp_sw, sw_mp, sm_l, sm_r, xlet_eq, Option.map_some, Option.map_none, loc_Md_together])
theorem loc_Md_partAt_14 {c h : xH} {l1 : Int} {l2 : Int} {l3 : Int} {s0 : Int} : f_Md_partAt_14 l1 l2 l3 s0 (mx c h) = Option.map (fun q : Int × xH => (q.1, mx c q.2)) (f_Md_partAt_14 l1 l2 l3 s0 h) := by
  unfold f_Md_partAt_14
  (try simp (disch := omega) only [mx_hi, mx_up, ↓mp_ite, ↓mp_gd, ↓mp_gb, ↓mp_gp, ↓mp_c1, ↓mp_c2, c1_mp, c2_mp, ↓mp_sw, sw_mp, sm_l, sm_r, xlet_eq, Option.map_some, Option.map_none, loc_Md_isWord, loc_Md_partAt_115, loc_Md_parting])
theorem loc_Md_partAt {c h : xH} {l1 : Int} {l2 : Int} {l3 : Int} : f_Md_partAt l1 l2 l3 (mx c h) = Option.map (fun q : Int × xH => (q.1, mx c q.2)) (f_Md_partAt l1 l2 l3 h) := by
  unfold f_Md_partAt
  (try simp (disch := omega) only [mx_hi, mx_up, ↓mp_ite, ↓mp_gd, ↓mp_gb, ↓mp_gp, ↓mp_c1, ↓mp_c2, c1_mp, c2_mp, ↓mp_sw, sw_mp, sm_l, sm_r, xlet_eq, Option.map_some, Option.map_none, loc_Md_isWord, loc_Md_partAt_14])
theorem loc_Md_mend_510 {c h : xH} : f_Md_mend_510 (mx c h) = Option.map (fun q : Int × xH => (q.1, mx c q.2)) (f_Md_mend_510 h) := by
  unfold f_Md_mend_510
  (try simp (disch := omega) only [mx_hi, mx_up, ↓mp_ite, ↓mp_gd, ↓mp_gb, ↓mp_gp, ↓mp_c1, ↓mp_c2, c1_mp, c2_mp, ↓mp_sw, sw_mp, sm_l, sm_r, xlet_eq, Option.map_some, Option.map_none])
theorem loc_Md_mend_485 {c h : xH} {l1 : Int} {l3 : Int} : f_Md_mend_485 l1 l3 (mx c h) = Option.map (Sum.map (fun q : (Int × xH) => (q.1, mx c q.2)) (mx c)) (f_Md_mend_485 l1 l3 h) := by
  unfold f_Md_mend_485
  (try simp (disch := omega) only [mx_hi, mx_up, ↓mp_ite, ↓mp_gd, ↓mp_gb, ↓mp_gp, ↓mp_c1, ↓mp_c2, c1_mp, c2_mp, ↓mp_sw, sw_mp, sm_l, sm_r, xlet_eq, Option.map_some, Option.map_none])
theorem loc_Md_mend_445 {c h : xH} {l1 : Int} {l3 : Int} {l4 : Int} {l6 : Int} {s1 : Int} {s2 : Int} : f_Md_mend_445 l1 l3 l4 l6 s1 s2 (mx c h) = Option.map (Sum.map (fun q : (Int × xH) => (q.1, mx c q.2)) (mx c)) (f_Md_mend_445 l1 l3 l4 l6 s1 s2 h) := by
  unfold f_Md_mend_445
  (try simp (disch := omega) only [mx_hi, mx_up, ↓mp_ite, ↓mp_gd, ↓mp_gb, ↓mp_gp, ↓mp_c1, ↓mp_c2, c1_mp, c2_mp, ↓mp_sw, sw_mp, sm_l, sm_r, xlet_eq, Option.map_some, Option.map_none, loc_Md_mend_485, loc_Md_wordOf])
theorem loc_Md_mend_369 {c h : xH} {l1 : Int} {l3 : Int} {l4 : Int} {s0 : Int} : f_Md_mend_369 l1 l3 l4 s0 (mx c h) = Option.map (Sum.map (fun q : (Int × xH) => (q.1, mx c q.2)) (mx c)) (f_Md_mend_369 l1 l3 l4 s0 h) := by
  unfold f_Md_mend_369
  (try simp (disch := omega) only [mx_hi, mx_up, ↓mp_ite, ↓mp_gd, ↓mp_gb, ↓mp_gp, ↓mp_c1, ↓mp_c2, c1_mp, c2_mp, ↓mp_sw, sw_mp, sm_l, sm_r, xlet_eq, Option.map_some, Option.map_none, loc_Md_isWord, loc_Md_mend_445, loc_Md_together, loc_Md_wordOf])
theorem loc_Md_mend_353 {c h : xH} {l1 : Int} {l3 : Int} {l4 : Int} {s1 : Int} {s2 : Int} : f_Md_mend_353 l1 l3 l4 s1 s2 (mx c h) = Option.map (Sum.map (fun q : (Int × xH) => (q.1, mx c q.2)) (mx c)) (f_Md_mend_353 l1 l3 l4 s1 s2 h) := by
  unfold f_Md_mend_353
  (try simp (disch := omega) only [mx_hi, mx_up, ↓mp_ite, ↓mp_gd, ↓mp_gb, ↓mp_gp, ↓mp_c1, ↓mp_c2, c1_mp, c2_mp, ↓mp_sw, sw_mp, sm_l, sm_r, xlet_eq, Option.map_some, Option.map_none, loc_Md_mend_369, loc_Md_parting])
theorem loc_Md_mend_302 {c h : xH} {l1 : Int} {l3 : Int} {l4 : Int} {l5 : Int} : f_Md_mend_302 l1 l3 l4 l5 (mx c h) = Option.map (Sum.map (fun q : (Int × xH) => (q.1, mx c q.2)) (mx c)) (f_Md_mend_302 l1 l3 l4 l5 h) := by
  unfold f_Md_mend_302
  (try simp (disch := omega) only [mx_hi, mx_up, ↓mp_ite, ↓mp_gd, ↓mp_gb, ↓mp_gp, ↓mp_c1, ↓mp_c2, c1_mp, c2_mp, ↓mp_sw, sw_mp, sm_l, sm_r, xlet_eq, Option.map_some, Option.map_none, loc_Md_mend_353])
theorem loc_Md_mend_286 {c h : xH} {l1 : Int} {l3 : Int} {l4 : Int} : f_Md_mend_286 l1 l3 l4 (mx c h) = Option.map (Sum.map (fun q : (Int × Int × xH) => (q.1, q.2.1, mx c q.2.2)) (fun q : (Int × Int × xH) => (q.1, q.2.1, mx c q.2.2))) (f_Md_mend_286 l1 l3 l4 h) := by
  unfold f_Md_mend_286
  (try simp (disch := omega) only [mx_hi, mx_up, ↓mp_ite, ↓mp_gd, ↓mp_gb, ↓mp_gp, ↓mp_c1, ↓mp_c2, c1_mp, c2_mp, ↓mp_sw, sw_mp, sm_l, sm_r, xlet_eq, Option.map_some, Option.map_none, loc_Md_partAt])
theorem loc_Md_mend_274 {c h : xH} {l1 : Int} {l3 : Int} {l4 : Int} {l5 : Int} {s0 : Int} {s2 : Int} {s3 : Int} : f_Md_mend_274 l1 l3 l4 l5 s0 s2 s3 (mx c h) = Option.map (Sum.map (fun q : (Int × Int × xH) => (q.1, q.2.1, mx c q.2.2)) (fun q : (Int × Int × xH) => (q.1, q.2.1, mx c q.2.2))) (f_Md_mend_274 l1 l3 l4 l5 s0 s2 s3 h) := by
  unfold f_Md_mend_274
  (try simp (disch := omega) only [mx_hi, mx_up, ↓mp_ite, ↓mp_gd, ↓mp_gb, ↓mp_gp, ↓mp_c1, ↓mp_c2, c1_mp, c2_mp, ↓mp_sw, sw_mp, sm_l, sm_r, xlet_eq, Option.map_some, Option.map_none, loc_Md_mend_286])
theorem loc_Md_mend_s248 {c h : xH} {l1 : Int} {l3 : Int} {l4 : Int} {l5 : Int} : f_Md_mend_s248 l1 l3 l4 l5 (mx c h) = Option.map (Sum.map (fun q : (Int × Int × xH) => (q.1, q.2.1, mx c q.2.2)) (fun q : (Int × Int × xH) => (q.1, q.2.1, mx c q.2.2))) (f_Md_mend_s248 l1 l3 l4 l5 h) := by
  unfold f_Md_mend_s248
  (try simp (disch := omega) only [mx_hi, mx_up, ↓mp_ite, ↓mp_gd, ↓mp_gb, ↓mp_gp, ↓mp_c1, ↓mp_c2, c1_mp, c2_mp, ↓mp_sw, sw_mp, sm_l, sm_r, xlet_eq, Option.map_some, Option.map_none, loc_Md_mend_274, loc_Md_mend_286])
theorem loc_Md_mend_248 {c h : xH} {l1 : Int} {l3 : Int} {l4 : Int} {l5 : Int} : f_Md_mend_248 l1 l3 l4 l5 (mx c h) = Option.map (Sum.map (fun q : (Int × xH) => (q.1, mx c q.2)) (mx c)) (f_Md_mend_248 l1 l3 l4 l5 h) := by
  unfold f_Md_mend_248
  rw [xloop_map (f := (fun q : (Int × Int × xH) => (q.1, q.2.1, mx c q.2.2))) (g := (fun q : (Int × Int × xH) => (q.1, q.2.1, mx c q.2.2))) (fun s => loc_Md_mend_s248) ((l4, l5, h))]
  (try simp (disch := omega) only [mx_hi, mx_up, ↓mp_ite, ↓mp_gd, ↓mp_gb, ↓mp_gp, ↓mp_c1, ↓mp_c2, c1_mp, c2_mp, ↓mp_sw, sw_mp, sm_l, sm_r, xlet_eq, Option.map_some, Option.map_none, loc_Md_mend_302, loc_Md_mend_s248])
theorem loc_Md_mend_s228 {c h : xH} {l1 : Int} {l3 : Int} : f_Md_mend_s228 l1 l3 (mx c h) = Option.map (Sum.map (fun q : (Int × xH) => (q.1, mx c q.2)) (mx c)) (f_Md_mend_s228 l1 l3 h) := by
  unfold f_Md_mend_s228
  (try simp (disch := omega) only [mx_hi, mx_up, ↓mp_ite, ↓mp_gd, ↓mp_gb, ↓mp_gp, ↓mp_c1, ↓mp_c2, c1_mp, c2_mp, ↓mp_sw, sw_mp, sm_l, sm_r, xlet_eq, Option.map_some, Option.map_none, loc_Md_mend_248, loc_Md_partAt])
theorem loc_Md_mend_228 {c h : xH} {l1 : Int} {l3 : Int} : f_Md_mend_228 l1 l3 (mx c h) = Option.map (fun q : Int × xH => (q.1, mx c q.2)) (f_Md_mend_228 l1 l3 h) := by
  unfold f_Md_mend_228
  rw [xloop_map (f := (fun q : (Int × xH) => (q.1, mx c q.2))) (g := (mx c)) (fun s => loc_Md_mend_s228) ((l3, h))]
  (try simp (disch := omega) only [mx_hi, mx_up, ↓mp_ite, ↓mp_gd, ↓mp_gb, ↓mp_gp, ↓mp_c1, ↓mp_c2, c1_mp, c2_mp, ↓mp_sw, sw_mp, sm_l, sm_r, xlet_eq, Option.map_some, Option.map_none, loc_Md_mend_510, loc_Md_mend_s228])
theorem loc_Md_mend_211 {c h : xH} {l1 : Int} : f_Md_mend_211 l1 (mx c h) = Option.map (fun q : Int × xH => (q.1, mx c q.2)) (f_Md_mend_211 l1 h) := by
  unfold f_Md_mend_211
  (try simp (disch := omega) only [mx_hi, mx_up, ↓mp_ite, ↓mp_gd, ↓mp_gb, ↓mp_gp, ↓mp_c1, ↓mp_c2, c1_mp, c2_mp, ↓mp_sw, sw_mp, sm_l, sm_r, xlet_eq, Option.map_some, Option.map_none, loc_Md_mend_228])
theorem loc_Md_mend_205 {c h : xH} {l1 : Int} {l3 : Int} : f_Md_mend_205 l1 l3 (mx c h) = Option.map (Sum.map (fun q : (Int × xH) => (q.1, mx c q.2)) (mx c)) (f_Md_mend_205 l1 l3 h) := by
  unfold f_Md_mend_205
  (try simp (disch := omega) only [mx_hi, mx_up, ↓mp_ite, ↓mp_gd, ↓mp_gb, ↓mp_gp, ↓mp_c1, ↓mp_c2, c1_mp, c2_mp, ↓mp_sw, sw_mp, sm_l, sm_r, xlet_eq, Option.map_some, Option.map_none])
theorem loc_Md_mend_199 {c h : xH} {l1 : Int} {l3 : Int} {l4 : Int} : f_Md_mend_199 l1 l3 l4 (mx c h) = Option.map (Sum.map (fun q : (Int × xH) => (q.1, mx c q.2)) (mx c)) (f_Md_mend_199 l1 l3 l4 h) := by
  unfold f_Md_mend_199
  (try simp (disch := omega) only [mx_hi, mx_up, ↓mp_ite, ↓mp_gd, ↓mp_gb, ↓mp_gp, ↓mp_c1, ↓mp_c2, c1_mp, c2_mp, ↓mp_sw, sw_mp, sm_l, sm_r, xlet_eq, Option.map_some, Option.map_none])
theorem loc_Md_mend_192 {c h : xH} {l1 : Int} {l3 : Int} {l4 : Int} {s1 : Int} {s2 : Int} {s3 : Int} {s5 : Int} {s6 : Int} : f_Md_mend_192 l1 l3 l4 s1 s2 s3 s5 s6 (mx c h) = Option.map (Sum.map (fun q : (Int × xH) => (q.1, mx c q.2)) (mx c)) (f_Md_mend_192 l1 l3 l4 s1 s2 s3 s5 s6 h) := by
  unfold f_Md_mend_192
  (try simp (disch := omega) only [mx_hi, mx_up, ↓mp_ite, ↓mp_gd, ↓mp_gb, ↓mp_gp, ↓mp_c1, ↓mp_c2, c1_mp, c2_mp, ↓mp_sw, sw_mp, sm_l, sm_r, xlet_eq, Option.map_some, Option.map_none, loc_Md_mend_199, loc_Md_min])
theorem loc_Md_mend_s139 {c h : xH} {l1 : Int} {l3 : Int} {l4 : Int} : f_Md_mend_s139 l1 l3 l4 (mx c h) = Option.map (Sum.map (fun q : (Int × xH) => (q.1, mx c q.2)) (mx c)) (f_Md_mend_s139 l1 l3 l4 h) := by
  unfold f_Md_mend_s139
  (try simp (disch := omega) only [mx_hi, mx_up, ↓mp_ite, ↓mp_gd, ↓mp_gb, ↓mp_gp, ↓mp_c1, ↓mp_c2, c1_mp, c2_mp, ↓mp_sw, sw_mp, sm_l, sm_r, xlet_eq, Option.map_some, Option.map_none, loc_Md_mend_192, loc_Md_mend_199, loc_Md_partAt])
theorem loc_Md_mend_139 {c h : xH} {l1 : Int} {l3 : Int} {l4 : Int} : f_Md_mend_139 l1 l3 l4 (mx c h) = Option.map (Sum.map (fun q : (Int × xH) => (q.1, mx c q.2)) (mx c)) (f_Md_mend_139 l1 l3 l4 h) := by
  unfold f_Md_mend_139
  rw [xloop_map (f := (fun q : (Int × xH) => (q.1, mx c q.2))) (g := (mx c)) (fun s => loc_Md_mend_s139) ((l4, h))]
  (try simp (disch := omega) only [mx_hi, mx_up, ↓mp_ite, ↓mp_gd, ↓mp_gb, ↓mp_gp, ↓mp_c1, ↓mp_c2, c1_mp, c2_mp, ↓mp_sw, sw_mp, sm_l, sm_r, xlet_eq, Option.map_some, Option.map_none, loc_Md_mend_205, loc_Md_mend_s139])
theorem loc_Md_mend_s123 {c h : xH} {l1 : Int} {l3 : Int} : f_Md_mend_s123 l1 l3 (mx c h) = Option.map (Sum.map (fun q : (Int × xH) => (q.1, mx c q.2)) (mx c)) (f_Md_mend_s123 l1 l3 h) := by
  unfold f_Md_mend_s123
  (try simp (disch := omega) only [mx_hi, mx_up, ↓mp_ite, ↓mp_gd, ↓mp_gb, ↓mp_gp, ↓mp_c1, ↓mp_c2, c1_mp, c2_mp, ↓mp_sw, sw_mp, sm_l, sm_r, xlet_eq, Option.map_some, Option.map_none, loc_Md_mend_139])
theorem loc_Md_mend_123 {c h : xH} {l1 : Int} {l3 : Int} : f_Md_mend_123 l1 l3 (mx c h) = Option.map (fun q : Int × xH => (q.1, mx c q.2)) (f_Md_mend_123 l1 l3 h) := by
  unfold f_Md_mend_123
  rw [xloop_map (f := (fun q : (Int × xH) => (q.1, mx c q.2))) (g := (mx c)) (fun s => loc_Md_mend_s123) ((l3, h))]
  (try simp (disch := omega) only [mx_hi, mx_up, ↓mp_ite, ↓mp_gd, ↓mp_gb, ↓mp_gp, ↓mp_c1, ↓mp_c2, c1_mp, c2_mp, ↓mp_sw, sw_mp, sm_l, sm_r, xlet_eq, Option.map_some, Option.map_none, loc_Md_mend_211, loc_Md_mend_s123])
theorem loc_Md_mend_106 {c h : xH} {l1 : Int} : f_Md_mend_106 l1 (mx c h) = Option.map (fun q : Int × xH => (q.1, mx c q.2)) (f_Md_mend_106 l1 h) := by
  unfold f_Md_mend_106
  (try simp (disch := omega) only [mx_hi, mx_up, ↓mp_ite, ↓mp_gd, ↓mp_gb, ↓mp_gp, ↓mp_c1, ↓mp_c2, c1_mp, c2_mp, ↓mp_sw, sw_mp, sm_l, sm_r, xlet_eq, Option.map_some, Option.map_none, loc_Md_mend_123])
theorem loc_Md_mend_100 {c h : xH} {l1 : Int} {l3 : Int} : f_Md_mend_100 l1 l3 (mx c h) = Option.map (Sum.map (fun q : (Int × xH) => (q.1, mx c q.2)) (mx c)) (f_Md_mend_100 l1 l3 h) := by
  unfold f_Md_mend_100
  (try simp (disch := omega) only [mx_hi, mx_up, ↓mp_ite, ↓mp_gd, ↓mp_gb, ↓mp_gp, ↓mp_c1, ↓mp_c2, c1_mp, c2_mp, ↓mp_sw, sw_mp, sm_l, sm_r, xlet_eq, Option.map_some, Option.map_none])
theorem loc_Md_mend_s31 {c h : xH} {l1 : Int} {l3 : Int} : f_Md_mend_s31 l1 l3 (mx c h) = Option.map (Sum.map (fun q : (Int × xH) => (q.1, mx c q.2)) (mx c)) (f_Md_mend_s31 l1 l3 h) := by
  unfold f_Md_mend_s31
  (try simp (disch := omega) only [mx_hi, mx_up, ↓mp_ite, ↓mp_gd, ↓mp_gb, ↓mp_gp, ↓mp_c1, ↓mp_c2, c1_mp, c2_mp, ↓mp_sw, sw_mp, sm_l, sm_r, xlet_eq, Option.map_some, Option.map_none, loc_Md_isWord, loc_Md_mend_100, loc_Md_takeB, loc_Md_tries])
theorem loc_Md_mend_31 {c h : xH} {l1 : Int} {l3 : Int} : f_Md_mend_31 l1 l3 (mx c h) = Option.map (fun q : Int × xH => (q.1, mx c q.2)) (f_Md_mend_31 l1 l3 h) := by
  unfold f_Md_mend_31
  rw [xloop_map (f := (fun q : (Int × xH) => (q.1, mx c q.2))) (g := (mx c)) (fun s => loc_Md_mend_s31) ((l3, h))]
  (try simp (disch := omega) only [mx_hi, mx_up, ↓mp_ite, ↓mp_gd, ↓mp_gb, ↓mp_gp, ↓mp_c1, ↓mp_c2, c1_mp, c2_mp, ↓mp_sw, sw_mp, sm_l, sm_r, xlet_eq, Option.map_some, Option.map_none, loc_Md_mend_106, loc_Md_mend_s31])
theorem loc_Md_mend {c h : xH} {l1 : Int} : f_Md_mend l1 (mx c h) = Option.map (fun q : Int × xH => (q.1, mx c q.2)) (f_Md_mend l1 h) := by
  unfold f_Md_mend
  (try simp (disch := omega) only [mx_hi, mx_up, ↓mp_ite, ↓mp_gd, ↓mp_gb, ↓mp_gp, ↓mp_c1, ↓mp_c2, c1_mp, c2_mp, ↓mp_sw, sw_mp, sm_l, sm_r, xlet_eq, Option.map_some, Option.map_none, loc_Md_in, loc_Md_mend_31, loc_Md_reads])
theorem loc_Md_part {c h : xH} {l1 : Int} {l2 : Int} : f_Md_part l1 l2 (mx c h) = f_Md_part l1 l2 h := by
  unfold f_Md_part
  (try simp (disch := omega) only [mx_hi, mx_up, ↓mp_ite, ↓mp_gd, ↓mp_gb, ↓mp_gp, ↓mp_c1, ↓mp_c2, c1_mp, c2_mp, ↓mp_sw, sw_mp, sm_l, sm_r, xlet_eq, Option.map_some, Option.map_none, loc_Md_in])
theorem loc_Md_refused {c h : xH} {l1 : Int} : f_Md_refused l1 (mx c h) = Option.map (fun q : Int × xH => (q.1, mx c q.2)) (f_Md_refused l1 h) := by
  unfold f_Md_refused
  (try simp (disch := omega) only [mx_hi, mx_up, ↓mp_ite, ↓mp_gd, ↓mp_gb, ↓mp_gp, ↓mp_c1, ↓mp_c2, c1_mp, c2_mp, ↓mp_sw, sw_mp, sm_l, sm_r, xlet_eq, Option.map_some, Option.map_none])
theorem loc_Md_done {c h : xH} {l1 : Int} : f_Md_done l1 (mx c h) = Option.map (fun q : Int × xH => (q.1, mx c q.2)) (f_Md_done l1 h) := by
  unfold f_Md_done
  (try simp (disch := omega) only [mx_hi, mx_up, ↓mp_ite, ↓mp_gd, ↓mp_gb, ↓mp_gp, ↓mp_c1, ↓mp_c2, c1_mp, c2_mp, ↓mp_sw, sw_mp, sm_l, sm_r, xlet_eq, Option.map_some, Option.map_none])
theorem loc_Md_put_361 {c h : xH} : f_Md_put_361 (mx c h) = Option.map (fun q : Int × xH => (q.1, mx c q.2)) (f_Md_put_361 h) := by
  unfold f_Md_put_361
  (try simp (disch := omega) only [mx_hi, mx_up, ↓mp_ite, ↓mp_gd, ↓mp_gb, ↓mp_gp, ↓mp_c1, ↓mp_c2, c1_mp, c2_mp, ↓mp_sw, sw_mp, sm_l, sm_r, xlet_eq, Option.map_some, Option.map_none, loc_Md_done])
theorem loc_Md_put_358 {c h : xH} : f_Md_put_358 (mx c h) = Option.map (fun q : Int × xH => (q.1, mx c q.2)) (f_Md_put_358 h) := by
  unfold f_Md_put_358
  (try simp (disch := omega) only [mx_hi, mx_up, ↓mp_ite, ↓mp_gd, ↓mp_gb, ↓mp_gp, ↓mp_c1, ↓mp_c2, c1_mp, c2_mp, ↓mp_sw, sw_mp, sm_l, sm_r, xlet_eq, Option.map_some, Option.map_none, loc_Md_put_361])
theorem loc_Md_put_s320 {c h : xH} {l3 : Int} {l5 : Int} {l6 : Int} : f_Md_put_s320 l3 l5 l6 (mx c h) = Option.map (Sum.map (fun q : (Int × xH) => (q.1, mx c q.2)) (mx c)) (f_Md_put_s320 l3 l5 l6 h) := by
  unfold f_Md_put_s320
  (try simp (disch := omega) only [mx_hi, mx_up, ↓mp_ite, ↓mp_gd, ↓mp_gb, ↓mp_gp, ↓mp_c1, ↓mp_c2, c1_mp, c2_mp, ↓mp_sw, sw_mp, sm_l, sm_r, xlet_eq, Option.map_some, Option.map_none])
theorem loc_Md_put_320 {c h : xH} {l3 : Int} {l5 : Int} {l6 : Int} : f_Md_put_320 l3 l5 l6 (mx c h) = Option.map (fun q : Int × xH => (q.1, mx c q.2)) (f_Md_put_320 l3 l5 l6 h) := by
  unfold f_Md_put_320
  rw [xloop_map (f := (fun q : (Int × xH) => (q.1, mx c q.2))) (g := (mx c)) (fun s => loc_Md_put_s320) ((l6, h))]
  (try simp (disch := omega) only [mx_hi, mx_up, ↓mp_ite, ↓mp_gd, ↓mp_gb, ↓mp_gp, ↓mp_c1, ↓mp_c2, c1_mp, c2_mp, ↓mp_sw, sw_mp, sm_l, sm_r, xlet_eq, Option.map_some, Option.map_none, loc_Md_put_358, loc_Md_put_s320])
theorem loc_Md_put_317 {c h : xH} {l3 : Int} {l5 : Int} : f_Md_put_317 l3 l5 (mx c h) = Option.map (fun q : Int × xH => (q.1, mx c q.2)) (f_Md_put_317 l3 l5 h) := by
  unfold f_Md_put_317
  (try simp (disch := omega) only [mx_hi, mx_up, ↓mp_ite, ↓mp_gd, ↓mp_gb, ↓mp_gp, ↓mp_c1, ↓mp_c2, c1_mp, c2_mp, ↓mp_sw, sw_mp, sm_l, sm_r, xlet_eq, Option.map_some, Option.map_none, loc_Md_put_320])
theorem loc_Md_put_s293 {c h : xH} {l3 : Int} {l5 : Int} {l6 : Int} : f_Md_put_s293 l3 l5 l6 (mx c h) = Option.map (Sum.map (fun q : (Int × xH) => (q.1, mx c q.2)) (mx c)) (f_Md_put_s293 l3 l5 l6 h) := by
  unfold f_Md_put_s293
  (try simp (disch := omega) only [mx_hi, mx_up, ↓mp_ite, ↓mp_gd, ↓mp_gb, ↓mp_gp, ↓mp_c1, ↓mp_c2, c1_mp, c2_mp, ↓mp_sw, sw_mp, sm_l, sm_r, xlet_eq, Option.map_some, Option.map_none])
theorem loc_Md_put_293 {c h : xH} {l3 : Int} {l5 : Int} {l6 : Int} : f_Md_put_293 l3 l5 l6 (mx c h) = Option.map (fun q : Int × xH => (q.1, mx c q.2)) (f_Md_put_293 l3 l5 l6 h) := by
  unfold f_Md_put_293
  rw [xloop_map (f := (fun q : (Int × xH) => (q.1, mx c q.2))) (g := (mx c)) (fun s => loc_Md_put_s293) ((l6, h))]
  (try simp (disch := omega) only [mx_hi, mx_up, ↓mp_ite, ↓mp_gd, ↓mp_gb, ↓mp_gp, ↓mp_c1, ↓mp_c2, c1_mp, c2_mp, ↓mp_sw, sw_mp, sm_l, sm_r, xlet_eq, Option.map_some, Option.map_none, loc_Md_put_317, loc_Md_put_s293])
theorem loc_Md_put_279 {c h : xH} : f_Md_put_279 (mx c h) = Option.map (fun q : Int × xH => (q.1, mx c q.2)) (f_Md_put_279 h) := by
  unfold f_Md_put_279
  (try simp (disch := omega) only [mx_hi, mx_up, ↓mp_ite, ↓mp_gd, ↓mp_gb, ↓mp_gp, ↓mp_c1, ↓mp_c2, c1_mp, c2_mp, ↓mp_sw, sw_mp, sm_l, sm_r, xlet_eq, Option.map_some, Option.map_none, loc_Md_put_361])
theorem loc_Md_put_s247 {c h : xH} {l5 : Int} {l6 : Int} : f_Md_put_s247 l5 l6 (mx c h) = Option.map (Sum.map (fun q : (Int × xH) => (q.1, mx c q.2)) (mx c)) (f_Md_put_s247 l5 l6 h) := by
  unfold f_Md_put_s247
  (try simp (disch := omega) only [mx_hi, mx_up, ↓mp_ite, ↓mp_gd, ↓mp_gb, ↓mp_gp, ↓mp_c1, ↓mp_c2, c1_mp, c2_mp, ↓mp_sw, sw_mp, sm_l, sm_r, xlet_eq, Option.map_some, Option.map_none])
theorem loc_Md_put_247 {c h : xH} {l5 : Int} {l6 : Int} : f_Md_put_247 l5 l6 (mx c h) = Option.map (fun q : Int × xH => (q.1, mx c q.2)) (f_Md_put_247 l5 l6 h) := by
  unfold f_Md_put_247
  rw [xloop_map (f := (fun q : (Int × xH) => (q.1, mx c q.2))) (g := (mx c)) (fun s => loc_Md_put_s247) ((l6, h))]
  (try simp (disch := omega) only [mx_hi, mx_up, ↓mp_ite, ↓mp_gd, ↓mp_gb, ↓mp_gp, ↓mp_c1, ↓mp_c2, c1_mp, c2_mp, ↓mp_sw, sw_mp, sm_l, sm_r, xlet_eq, Option.map_some, Option.map_none, loc_Md_put_279, loc_Md_put_s247])
theorem loc_Md_put_233 {c h : xH} : f_Md_put_233 (mx c h) = Option.map (fun q : Int × xH => (q.1, mx c q.2)) (f_Md_put_233 h) := by
  unfold f_Md_put_233
  (try simp (disch := omega) only [mx_hi, mx_up, ↓mp_ite, ↓mp_gd, ↓mp_gb, ↓mp_gp, ↓mp_c1, ↓mp_c2, c1_mp, c2_mp, ↓mp_sw, sw_mp, sm_l, sm_r, xlet_eq, Option.map_some, Option.map_none, loc_Md_put_361])
theorem loc_Md_put_s196 {c h : xH} {l3 : Int} {l5 : Int} {l6 : Int} : f_Md_put_s196 l3 l5 l6 (mx c h) = Option.map (Sum.map (fun q : (Int × xH) => (q.1, mx c q.2)) (mx c)) (f_Md_put_s196 l3 l5 l6 h) := by
  unfold f_Md_put_s196
  (try simp (disch := omega) only [mx_hi, mx_up, ↓mp_ite, ↓mp_gd, ↓mp_gb, ↓mp_gp, ↓mp_c1, ↓mp_c2, c1_mp, c2_mp, ↓mp_sw, sw_mp, sm_l, sm_r, xlet_eq, Option.map_some, Option.map_none])
theorem loc_Md_put_196 {c h : xH} {l3 : Int} {l5 : Int} {l6 : Int} : f_Md_put_196 l3 l5 l6 (mx c h) = Option.map (fun q : Int × xH => (q.1, mx c q.2)) (f_Md_put_196 l3 l5 l6 h) := by
  unfold f_Md_put_196
  rw [xloop_map (f := (fun q : (Int × xH) => (q.1, mx c q.2))) (g := (mx c)) (fun s => loc_Md_put_s196) ((l6, h))]
  (try simp (disch := omega) only [mx_hi, mx_up, ↓mp_ite, ↓mp_gd, ↓mp_gb, ↓mp_gp, ↓mp_c1, ↓mp_c2, c1_mp, c2_mp, ↓mp_sw, sw_mp, sm_l, sm_r, xlet_eq, Option.map_some, Option.map_none, loc_Md_put_233, loc_Md_put_s196])
theorem loc_Md_put_178 {c h : xH} : f_Md_put_178 (mx c h) = Option.map (fun q : Int × xH => (q.1, mx c q.2)) (f_Md_put_178 h) := by
  unfold f_Md_put_178
  (try simp (disch := omega) only [mx_hi, mx_up, ↓mp_ite, ↓mp_gd, ↓mp_gb, ↓mp_gp, ↓mp_c1, ↓mp_c2, c1_mp, c2_mp, ↓mp_sw, sw_mp, sm_l, sm_r, xlet_eq, Option.map_some, Option.map_none, loc_Md_put_361])
theorem loc_Md_put_s139 {c h : xH} {l3 : Int} {l5 : Int} {l6 : Int} : f_Md_put_s139 l3 l5 l6 (mx c h) = Option.map (Sum.map (fun q : (Int × xH) => (q.1, mx c q.2)) (mx c)) (f_Md_put_s139 l3 l5 l6 h) := by
  unfold f_Md_put_s139
  (try simp (disch := omega) only [mx_hi, mx_up, ↓mp_ite, ↓mp_gd, ↓mp_gb, ↓mp_gp, ↓mp_c1, ↓mp_c2, c1_mp, c2_mp, ↓mp_sw, sw_mp, sm_l, sm_r, xlet_eq, Option.map_some, Option.map_none])
theorem loc_Md_put_139 {c h : xH} {l3 : Int} {l5 : Int} {l6 : Int} : f_Md_put_139 l3 l5 l6 (mx c h) = Option.map (fun q : Int × xH => (q.1, mx c q.2)) (f_Md_put_139 l3 l5 l6 h) := by
  unfold f_Md_put_139
  rw [xloop_map (f := (fun q : (Int × xH) => (q.1, mx c q.2))) (g := (mx c)) (fun s => loc_Md_put_s139) ((l6, h))]
  (try simp (disch := omega) only [mx_hi, mx_up, ↓mp_ite, ↓mp_gd, ↓mp_gb, ↓mp_gp, ↓mp_c1, ↓mp_c2, c1_mp, c2_mp, ↓mp_sw, sw_mp, sm_l, sm_r, xlet_eq, Option.map_some, Option.map_none, loc_Md_put_178, loc_Md_put_s139])
theorem loc_Md_put_74 {c h : xH} : f_Md_put_74 (mx c h) = Option.map (fun q : Int × xH => (q.1, mx c q.2)) (f_Md_put_74 h) := by
  unfold f_Md_put_74
  (try simp (disch := omega) only [mx_hi, mx_up, ↓mp_ite, ↓mp_gd, ↓mp_gb, ↓mp_gp, ↓mp_c1, ↓mp_c2, c1_mp, c2_mp, ↓mp_sw, sw_mp, sm_l, sm_r, xlet_eq, Option.map_some, Option.map_none, loc_Md_refused])
theorem loc_Md_put_57 {c h : xH} {l1 : Int} {l2 : Int} {l3 : Int} {s0 : Int} : f_Md_put_57 l1 l2 l3 s0 (mx c h) = Option.map (fun q : Int × xH => (q.1, mx c q.2)) (f_Md_put_57 l1 l2 l3 s0 h) := by
  unfold f_Md_put_57
  (try simp (disch := omega) only [mx_hi, mx_up, ↓mp_ite, ↓mp_gd, ↓mp_gb, ↓mp_gp, ↓mp_c1, ↓mp_c2, c1_mp, c2_mp, ↓mp_sw, sw_mp, sm_l, sm_r, xlet_eq, Option.map_some, Option.map_none, loc_Md_in, loc_Md_put_139, loc_Md_put_196, loc_Md_put_247, loc_Md_put_293, loc_Md_put_361, loc_Md_put_74])
theorem loc_Md_put_56 {c h : xH} {l1 : Int} {l2 : Int} {l3 : Int} : f_Md_put_56 l1 l2 l3 (mx c h) = Option.map (fun q : Int × xH => (q.1, mx c q.2)) (f_Md_put_56 l1 l2 l3 h) := by
  unfold f_Md_put_56
  (try simp (disch := omega) only [mx_hi, mx_up, ↓mp_ite, ↓mp_gd, ↓mp_gb, ↓mp_gp, ↓mp_c1, ↓mp_c2, c1_mp, c2_mp, ↓mp_sw, sw_mp, sm_l, sm_r, xlet_eq, Option.map_some, Option.map_none, loc_Md_put_57])
theorem loc_Md_put_52 {c h : xH} {l1 : Int} {l2 : Int} {l3 : Int} : f_Md_put_52 l1 l2 l3 (mx c h) = Option.map (fun q : Int × xH => (q.1, mx c q.2)) (f_Md_put_52 l1 l2 l3 h) := by
  unfold f_Md_put_52
  (try simp (disch := omega) only [mx_hi, mx_up, ↓mp_ite, ↓mp_gd, ↓mp_gb, ↓mp_gp, ↓mp_c1, ↓mp_c2, c1_mp, c2_mp, ↓mp_sw, sw_mp, sm_l, sm_r, xlet_eq, Option.map_some, Option.map_none, loc_Md_put_57])
theorem loc_Md_put_33 {c h : xH} {l1 : Int} {l2 : Int} {l3 : Int} : f_Md_put_33 l1 l2 l3 (mx c h) = Option.map (fun q : Int × xH => (q.1, mx c q.2)) (f_Md_put_33 l1 l2 l3 h) := by
  unfold f_Md_put_33
  (try simp (disch := omega) only [mx_hi, mx_up, ↓mp_ite, ↓mp_gd, ↓mp_gb, ↓mp_gp, ↓mp_c1, ↓mp_c2, c1_mp, c2_mp, ↓mp_sw, sw_mp, sm_l, sm_r, xlet_eq, Option.map_some, Option.map_none, loc_Md_in, loc_Md_put_52, loc_Md_put_56])
theorem loc_Md_put_19 {c h : xH} {l1 : Int} {l2 : Int} {l3 : Int} : f_Md_put_19 l1 l2 l3 (mx c h) = Option.map (fun q : Int × xH => (q.1, mx c q.2)) (f_Md_put_19 l1 l2 l3 h) := by
  unfold f_Md_put_19
  (try simp (disch := omega) only [mx_hi, mx_up, ↓mp_ite, ↓mp_gd, ↓mp_gb, ↓mp_gp, ↓mp_c1, ↓mp_c2, c1_mp, c2_mp, ↓mp_sw, sw_mp, sm_l, sm_r, xlet_eq, Option.map_some, Option.map_none, loc_Md_in, loc_Md_put_33, loc_Md_put_52])
theorem loc_Md_put {c h : xH} {l1 : Int} {l2 : Int} {l3 : Int} : f_Md_put l1 l2 l3 (mx c h) = Option.map (fun q : Int × xH => (q.1, mx c q.2)) (f_Md_put l1 l2 l3 h) := by
  unfold f_Md_put
  (try simp (disch := omega) only [mx_hi, mx_up, ↓mp_ite, ↓mp_gd, ↓mp_gb, ↓mp_gp, ↓mp_c1, ↓mp_c2, c1_mp, c2_mp, ↓mp_sw, sw_mp, sm_l, sm_r, xlet_eq, Option.map_some, Option.map_none, loc_Md_put_19, loc_Md_put_33, loc_Md_put_52])
theorem loc_Md_forge_271 {c h : xH} {l5 : Int} : f_Md_forge_271 l5 (mx c h) = Option.map (fun q : Int × xH => (q.1, mx c q.2)) (f_Md_forge_271 l5 h) := by
  unfold f_Md_forge_271
  (try simp (disch := omega) only [mx_hi, mx_up, ↓mp_ite, ↓mp_gd, ↓mp_gb, ↓mp_gp, ↓mp_c1, ↓mp_c2, c1_mp, c2_mp, ↓mp_sw, sw_mp, sm_l, sm_r, xlet_eq, Option.map_some, Option.map_none, loc_Md_done])
theorem loc_Md_forge_s237 {c h : xH} {l1 : Int} {l3 : Int} {l5 : Int} {l6 : Int} : f_Md_forge_s237 l1 l3 l5 l6 (mx c h) = f_Md_forge_s237 l1 l3 l5 l6 h := by
  unfold f_Md_forge_s237
  (try simp (disch := omega) only [mx_hi, mx_up, ↓mp_ite, ↓mp_gd, ↓mp_gb, ↓mp_gp, ↓mp_c1, ↓mp_c2, c1_mp, c2_mp, ↓mp_sw, sw_mp, sm_l, sm_r, xlet_eq, Option.map_some, Option.map_none])
theorem loc_Md_forge_237 {c h : xH} {l1 : Int} {l3 : Int} {l5 : Int} {l6 : Int} : f_Md_forge_237 l1 l3 l5 l6 (mx c h) = Option.map (fun q : Int × xH => (q.1, mx c q.2)) (f_Md_forge_237 l1 l3 l5 l6 h) := by
  unfold f_Md_forge_237
  (try simp (disch := omega) only [mx_hi, mx_up, ↓mp_ite, ↓mp_gd, ↓mp_gb, ↓mp_gp, ↓mp_c1, ↓mp_c2, c1_mp, c2_mp, ↓mp_sw, sw_mp, sm_l, sm_r, xlet_eq, Option.map_some, Option.map_none, loc_Md_forge_271, loc_Md_forge_s237])
theorem loc_Md_forge_224 {c h : xH} : f_Md_forge_224 (mx c h) = Option.map (fun q : Int × xH => (q.1, mx c q.2)) (f_Md_forge_224 h) := by
  unfold f_Md_forge_224
  (try simp (disch := omega) only [mx_hi, mx_up, ↓mp_ite, ↓mp_gd, ↓mp_gb, ↓mp_gp, ↓mp_c1, ↓mp_c2, c1_mp, c2_mp, ↓mp_sw, sw_mp, sm_l, sm_r, xlet_eq, Option.map_some, Option.map_none, loc_Md_refused])
theorem loc_Md_forge_140 {c h : xH} {l1 : Int} {l3 : Int} : f_Md_forge_140 l1 l3 (mx c h) = Option.map (fun q : Int × xH => (q.1, mx c q.2)) (f_Md_forge_140 l1 l3 h) := by
  unfold f_Md_forge_140
  (try simp (disch := omega) only [mx_hi, mx_up, ↓mp_ite, ↓mp_gd, ↓mp_gb, ↓mp_gp, ↓mp_c1, ↓mp_c2, c1_mp, c2_mp, ↓mp_sw, sw_mp, sm_l, sm_r, xlet_eq, Option.map_some, Option.map_none, loc_Md_done, loc_Md_in, loc_Md_refused])
theorem loc_Md_forge_91 {c h : xH} {l1 : Int} {l2 : Int} {l3 : Int} {l4 : Int} : f_Md_forge_91 l1 l2 l3 l4 (mx c h) = Option.map (fun q : Int × xH => (q.1, mx c q.2)) (f_Md_forge_91 l1 l2 l3 l4 h) := by
  unfold f_Md_forge_91
  simp (maxSteps := 2000000) (disch := omega) only [mx_hi, mx_up, ↓mp_ite, ↓mp_gd, ↓mp_gb, ↓mp_gp, ↓mp_c1, ↓mp_c2, c1_mp, c2_mp, ↓mp_sw, sw_mp, sm_l, sm_r, xlet_eq, Option.map_some, Option.map_none, loc_Md_done, loc_Md_forge_140, loc_Md_forge_224, loc_Md_forge_237, loc_Md_refused]
theorem loc_Md_forge_81 {c h : xH} {l1 : Int} {l2 : Int} {l3 : Int} {l4 : Int} {s0 : Int} {s1 : Int} : f_Md_forge_81 l1 l2 l3 l4 s0 s1 (mx c h) = Option.map (fun q : Int × xH => (q.1, mx c q.2)) (f_Md_forge_81 l1 l2 l3 l4 s0 s1 h) := by
  unfold f_Md_forge_81
  (try simp (disch := omega) only [mx_hi, mx_up, ↓mp_ite, ↓mp_gd, ↓mp_gb, ↓mp_gp, ↓mp_c1, ↓mp_c2, c1_mp, c2_mp, ↓mp_sw, sw_mp, sm_l, sm_r, xlet_eq, Option.map_some, Option.map_none, loc_Md_forge_91, loc_Md_refused])
theorem loc_Md_forge_55 {c h : xH} {l1 : Int} {l2 : Int} {l3 : Int} {l4 : Int} : f_Md_forge_55 l1 l2 l3 l4 (mx c h) = Option.map (fun q : Int × xH => (q.1, mx c q.2)) (f_Md_forge_55 l1 l2 l3 l4 h) := by
  unfold f_Md_forge_55
  (try simp (disch := omega) only [mx_hi, mx_up, ↓mp_ite, ↓mp_gd, ↓mp_gb, ↓mp_gp, ↓mp_c1, ↓mp_c2, c1_mp, c2_mp, ↓mp_sw, sw_mp, sm_l, sm_r, xlet_eq, Option.map_some, Option.map_none, loc_Md_forge_81, loc_Md_refused])
theorem loc_Md_forge_31 {c h : xH} : f_Md_forge_31 (mx c h) = Option.map (fun q : Int × xH => (q.1, mx c q.2)) (f_Md_forge_31 h) := by
  unfold f_Md_forge_31
  (try simp (disch := omega) only [mx_hi, mx_up, ↓mp_ite, ↓mp_gd, ↓mp_gb, ↓mp_gp, ↓mp_c1, ↓mp_c2, c1_mp, c2_mp, ↓mp_sw, sw_mp, sm_l, sm_r, xlet_eq, Option.map_some, Option.map_none, loc_Md_refused])
theorem loc_Md_forge {c h : xH} {l1 : Int} {l2 : Int} {l3 : Int} : f_Md_forge l1 l2 l3 (mx c h) = Option.map (fun q : Int × xH => (q.1, mx c q.2)) (f_Md_forge l1 l2 l3 h) := by
  unfold f_Md_forge
  simp (maxSteps := 2000000) (disch := omega) only [mx_hi, mx_up, ↓mp_ite, ↓mp_gd, ↓mp_gb, ↓mp_gp, ↓mp_c1, ↓mp_c2, c1_mp, c2_mp, ↓mp_sw, sw_mp, sm_l, sm_r, xlet_eq, Option.map_some, Option.map_none, loc_Md_forge_31, loc_Md_forge_55, loc_Md_forge_91, loc_Md_in]
theorem loc_Md_status {c h : xH} : f_Md_status (mx c h) = f_Md_status h := by
  unfold f_Md_status
  (try simp (disch := omega) only [mx_hi, mx_up, ↓mp_ite, ↓mp_gd, ↓mp_gb, ↓mp_gp, ↓mp_c1, ↓mp_c2, c1_mp, c2_mp, ↓mp_sw, sw_mp, sm_l, sm_r, xlet_eq, Option.map_some, Option.map_none])
