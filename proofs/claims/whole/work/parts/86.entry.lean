/-! THE LAW FROM ITS ENTRY, on the machine -/
theorem e_room {p : Program} {e : Env} {s : State} (h : s.hasRoom e.platform room_1 = true) : s.hasRoom e.platform { frames := 9, cells := 145, slots := 101868, locals := 374 } = true := by
  have h : s.hasRoom e.platform { frames := 9, cells := 600000, slots := 7302250, locals := 374 } = true := h
  simp only [State.hasRoom, Bool.and_eq_true] at h ⊢
  obtain ⟨⟨⟨⟨h1, h2⟩, h3⟩, h4⟩, h5⟩ := h
  exact ⟨⟨⟨⟨h1, h2⟩, decide_eq_true (by have := of_decide_eq_true h3; omega)⟩, decide_eq_true (by have := of_decide_eq_true h4; omega)⟩, h5⟩
theorem e_cls {s : State} {a : Array Value} (hts : ∀ w ∈ lw_tbl, w.before a s = true) : ∃ (dC : Nat → ClassId) (dI : Nat → Nat → Nat), ∀ (k : Nat) (q : vw_C), vwCl[k]? = some q → u_Kn s q.1 q.2.1 q.2.2 (dC k) (dI k) := by
  have ht : ∀ w ∈ xtbl, w.before a s = true := fun w hw => hts w (List.mem_filter.mp hw).1
  obtain ⟨c0, i0, k0⟩ := u_known (n := 5) ht xcf0.2.1 (hts (.instantiable RX0 5) (by decide +kernel))
  obtain ⟨c1, i1, k1⟩ := u_known (n := 3) ht xcf1.2.1 (hts (.instantiable RX1 3) (by decide +kernel))
  obtain ⟨c2, i2, k2⟩ := u_known (n := 8) ht xcf2.2.1 (hts (.instantiable RX2 8) (by decide +kernel))
  obtain ⟨c3, i3, k3⟩ := u_known (n := 8) ht xcf3.2.1 (hts (.instantiable RX3 8) (by decide +kernel))
  obtain ⟨c4, i4, k4⟩ := u_known (n := 2) ht xcf4.2.1 (hts (.instantiable RX4 2) (by decide +kernel))
  obtain ⟨c5, i5, k5⟩ := u_known (n := 3) ht xcf5.2.1 (hts (.instantiable RX5 3) (by decide +kernel))
  obtain ⟨c6, i6, k6⟩ := u_known (n := 7) ht xcf6.2.1 (hts (.instantiable RX6 7) (by decide +kernel))
  obtain ⟨c7, i7, k7⟩ := u_known (n := 2) ht xcf7.2.1 (hts (.instantiable RX7 2) (by decide +kernel))
  obtain ⟨c8, i8, k8⟩ := u_known (n := 4) ht xcf8.2.1 (hts (.instantiable RX8 4) (by decide +kernel))
  obtain ⟨c9, i9, k9⟩ := u_known (n := 9) ht xcf9.2.1 (hts (.instantiable RX9 9) (by decide +kernel))
  obtain ⟨c10, i10, k10⟩ := u_known (n := 7) ht xcf10.2.1 (hts (.instantiable RX10 7) (by decide +kernel))
  obtain ⟨c11, i11, k11⟩ := u_known (n := 17) ht xcf11.2.1 (hts (.instantiable RX11 17) (by decide +kernel))
  obtain ⟨c12, i12, k12⟩ := u_known (n := 86) ht xcf12.2.1 (hts (.instantiable RX12 86) (by decide +kernel))
  refine ⟨fun k => [c0, c1, c2, c3, c4, c5, c6, c7, c8, c9, c10, c11, c12].getD k c0, fun k => [i0, i1, i2, i3, i4, i5, i6, i7, i8, i9, i10, i11, i12].getD k i0, ?_⟩
  intro k q hq
  match k, hq with
  | 0, hq => cases hq; exact k0
  | 1, hq => cases hq; exact k1
  | 2, hq => cases hq; exact k2
  | 3, hq => cases hq; exact k3
  | 4, hq => cases hq; exact k4
  | 5, hq => cases hq; exact k5
  | 6, hq => cases hq; exact k6
  | 7, hq => cases hq; exact k7
  | 8, hq => cases hq; exact k8
  | 9, hq => cases hq; exact k9
  | 10, hq => cases hq; exact k10
  | 11, hq => cases hq; exact k11
  | 12, hq => cases hq; exact k12
  | k + 13, hq => simp at hq
theorem e_arr {s : State} {a : Array Value} {ty : FieldType} (hty : ty = .int ∨ ty = .boolean) (h : (Cond.arrayClass ty).before a s = true) : ∃ cA : ClassId, ArrOfT s cA ty ∧ va_RA s cA ty := by
  obtain ⟨cA, kA, comp, h1, h2, h3⟩ := Cond.arrayClass_spec h
  refine ⟨cA, fun n z => ⟨(fun k h => by cases h), kA, h2, comp, h3⟩, ?_⟩
  rcases hty with rfl | rfl <;> exact h1
theorem e_M {s : State} {a : Array Value} (hs : ∀ w ∈ flatC (Jvm.Cond.and given_1 narrow_1), w.before a s = true) (hts : ∀ w ∈ lw_tbl, w.before a s = true) : ∃ t : Nat, va_Z "WordMender$Slips" "MEANT_TAKEN" "[I" (.ref t) (fun q => s.heap.size ≤ q) s s.heap ∧ va_T .int t 7 xfM (fun q => s.heap.size ≤ q) s s.heap := by
  have hA : ∀ q : Nat, q < s.heap.size → ¬ (fun q : Nat => s.heap.size ≤ q) q := fun q h => Nat.not_le.mpr h
  have el : ∀ j v : Int32, Cond.eq (.elem (.static "WordMender$Slips" "MEANT_TAKEN" "[I") (.int j)) (.int v) ∈ flatC (Jvm.Cond.and given_1 narrow_1) → (Term.elem (.static "WordMender$Slips" "MEANT_TAKEN" "[I") (.int j)).eval a s none [] s = some (.int v) := fun j v h => Cond.eq_int (hs _ h) rfl
  obtain ⟨t, ht, hT⟩ := va_Tof (N := 7) (f := xfM) (tm := .static "WordMender$Slips" "MEANT_TAKEN" "[I") (A := fun q => s.heap.size ≤ q) (by decide) (hs (.arrayOf (.static "WordMender$Slips" "MEANT_TAKEN" "[I") .int) (by decide +kernel)) (Cond.eq_int (hs (.eq (.length (.static "WordMender$Slips" "MEANT_TAKEN" "[I")) (.int 7)) (by decide +kernel)) rfl) (fun j hj => by
    rcases (show j = 0 ∨ j = 1 ∨ j = 2 ∨ j = 3 ∨ j = 4 ∨ j = 5 ∨ j = 6 by omega) with rfl | rfl | rfl | rfl | rfl | rfl | rfl
    · exact el 0 1 (by decide +kernel)
    · exact el 1 1 (by decide +kernel)
    · exact el 2 1 (by decide +kernel)
    · exact el 3 0 (by decide +kernel)
    · exact el 4 2 (by decide +kernel)
    · exact el 5 1 (by decide +kernel)
    · exact el 6 2 (by decide +kernel)) hA
  exact ⟨t, va_Zref (hts (.laysStatic "WordMender$Slips" "MEANT_TAKEN" "[I") (by decide +kernel)) (hts (.initialized "WordMender$Slips") (by decide +kernel)) ht hA, hT⟩
theorem e_T {s : State} {a : Array Value} (hs : ∀ w ∈ flatC (Jvm.Cond.and given_1 narrow_1), w.before a s = true) (hts : ∀ w ∈ lw_tbl, w.before a s = true) : ∃ t : Nat, va_Z "WordMender$Slips" "TYPED_TAKEN" "[I" (.ref t) (fun q => s.heap.size ≤ q) s s.heap ∧ va_T .int t 7 xfT (fun q => s.heap.size ≤ q) s s.heap := by
  have hA : ∀ q : Nat, q < s.heap.size → ¬ (fun q : Nat => s.heap.size ≤ q) q := fun q h => Nat.not_le.mpr h
  have el : ∀ j v : Int32, Cond.eq (.elem (.static "WordMender$Slips" "TYPED_TAKEN" "[I") (.int j)) (.int v) ∈ flatC (Jvm.Cond.and given_1 narrow_1) → (Term.elem (.static "WordMender$Slips" "TYPED_TAKEN" "[I") (.int j)).eval a s none [] s = some (.int v) := fun j v h => Cond.eq_int (hs _ h) rfl
  obtain ⟨t, ht, hT⟩ := va_Tof (N := 7) (f := xfT) (tm := .static "WordMender$Slips" "TYPED_TAKEN" "[I") (A := fun q => s.heap.size ≤ q) (by decide) (hs (.arrayOf (.static "WordMender$Slips" "TYPED_TAKEN" "[I") .int) (by decide +kernel)) (Cond.eq_int (hs (.eq (.length (.static "WordMender$Slips" "TYPED_TAKEN" "[I")) (.int 7)) (by decide +kernel)) rfl) (fun j hj => by
    rcases (show j = 0 ∨ j = 1 ∨ j = 2 ∨ j = 3 ∨ j = 4 ∨ j = 5 ∨ j = 6 by omega) with rfl | rfl | rfl | rfl | rfl | rfl | rfl
    · exact el 0 1 (by decide +kernel)
    · exact el 1 1 (by decide +kernel)
    · exact el 2 0 (by decide +kernel)
    · exact el 3 1 (by decide +kernel)
    · exact el 4 2 (by decide +kernel)
    · exact el 5 2 (by decide +kernel)
    · exact el 6 1 (by decide +kernel)) hA
  exact ⟨t, va_Zref (hts (.laysStatic "WordMender$Slips" "TYPED_TAKEN" "[I") (by decide +kernel)) (hts (.initialized "WordMender$Slips") (by decide +kernel)) ht hA, hT⟩
theorem entry_W {p : Program} {e : Env} {s : State} {m : MethodId} {below : List Frame} {meth : Method} {c : Code} (l : Launch) {b L : Nat} {xs : Nat → Int32} {Z : State → Prop} (hL : L ≤ 2560) (hx : p.tables.exec = Jvm.exec) (hb : c.code = code) (hml : c.maxLocals = 4) (hown : s.vm.findClass "WordMenderLaw" = some m.cls) (hts : ∀ w ∈ lw_tbl, w.before #[Value.ref b] s = true) (hX : va_X b L xs s s.heap) (hbl : b < s.heap.size) (hgv : (Jvm.Cond.and given_1 narrow_1).before #[Value.ref b] s = true)
    (hend : ∀ (pc : Nat) (H : Heap) (ls : Array Slot), decode code pc = .ok (.ireturn, 1) → W p l e room_1 s m #[Value.ref b] below meth c H [] 600000 7302250 Z (F0 m pc ls [.int 1])) :
    W p l e room_1 s m #[Value.ref b] below meth c s.heap [] 0 0 Z (entryFrame m ([Value.ref b] : List Value).toArray 4) := by
  intro T hT X
  have hroom := X.room
  have hs := flat_of_before _ hgv
  obtain ⟨h', hJ⟩ := law_J (xs := xs) hL
  obtain ⟨dC, dI, hD⟩ := e_cls hts
  obtain ⟨cI, hI⟩ := e_arr (Or.inl rfl) (hts (.arrayClass .int) (by decide +kernel))
  obtain ⟨cZ, hZb⟩ := e_arr (Or.inr rfl) (hts (.arrayClass .boolean) (by decide +kernel))
  obtain ⟨t1, z1, y1⟩ := e_M hs hts
  obtain ⟨t2, z2, y2⟩ := e_T hs hts
  obtain ⟨ad, had⟩ : ∃ ad : Int → Nat, ad = fun o => if o = -1 then t1 else if o = -2 then t2 else if o = -3 then b else s.heap.size + (o - 1).toNat := ⟨_, rfl⟩
  have a1 : ad (-1) = t1 := by rw [had]; rfl
  have a2 : ad (-2) = t2 := by rw [had]; rfl
  have a3 : ad (-3) = b := by rw [had]; rfl
  have ak : ∀ k : Nat, ad ((k : Int) + 1) = s.heap.size + k := fun k => by
    rw [had]
    show (if _ then _ else _) = _
    rw [if_neg (by omega), if_neg (by omega), if_neg (by omega)]
    omega
  have hK : va_K (dC, dI) vwCl [(cI, .int), (cZ, .boolean)] s := ⟨hD, fun k q hq => by
    match k, hq with
    | 0, hq => cases hq; exact hI
    | 1, hq => cases hq; exact hZb
    | k + 2, hq => simp at hq⟩
  have K : W p l e { frames := 9, cells := 145, slots := 101868, locals := 374 } s m #[Value.ref b] below meth c s.heap [] 0 0 Z (entryFrame m ([Value.ref b] : List Value).toArray 4) := by
    rw [lg_entry_eq]
    have hls := lv_entry ([.ref b]) (n := 4) (Nat.le_of_ble_eq_true rfl)
    refine hJ (fun q hq => by
      rcases List.mem_singleton.mp hq with rfl
      trivial) (fun v hv => by cases hv) (fun _ _ => xok0) (fun q => by cases q) (dC, dI) cI cZ s.heap.size ad p l e { frames := 9, cells := 145, slots := 101868, locals := 374 } s m #[Value.ref b] below meth c
      ⟨hx, hb, hml, hown, fun w hw => hts w (List.mem_filter.mp hw).1, (fun q => by cases q), ⟨Nat.le_refl _, Nat.le_refl _⟩, hK, ⟨Nat.le_refl _, ⟨by rw [a1]; exact z1, by rw [a1]; exact y1, by rw [a2]; exact z2, by rw [a2]; exact y2⟩, ak⟩, ⟨by rw [a3]; exact hX, by rw [a3]; exact hbl, by rw [a3]; exact hbl⟩, fun w hw => va_Nw.of (xisN_on hw) (hts w (List.mem_filter.mp hw).1)⟩
      s.heap [] 0 0 Z _ ⟨fun k q hq => by simp [xws] at hq, fun _ => rfl⟩ va_S.rf (by
        show lv_has _ 4 [(0, Value.ref (ad (-3)))]
        rw [a3]
        exact hls) ⟨rfl, rfl⟩ ?_
    intro r n' h2 H' locs' pc' lsm' hQ hok hr hg hrel hS hd
    obtain ⟨rfl, rfl, rfl⟩ := hQ
    intro T2 hT2 X2
    exact (va_forget (fun q hq => hS.2.2 q hq) (W.widen (k := 600000) (n := 7302250) (by show (145 : Nat) ≤ 600000; decide) (by show (101868 : Nat) ≤ 7302250; decide) (hend pc' H' lsm' hd)) : W p l e room_1 s m #[Value.ref b] below meth c H' locs' 145 101868 Z (F0 m pc' lsm' [.int 1])) T2 hT2 { X2 with room := hroom }
  obtain ⟨t, h1, h2⟩ := K T hT { X with room := e_room (p := p) hroom }
  exact ⟨t, h1, h2⟩
