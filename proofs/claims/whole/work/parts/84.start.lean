/-! WHAT THE CONSTRUCTORS LEAVE -/
def hZ : xH := fun _ _ => 0
def hS0 : xH := uji_Md_81 (uji_WM_1 hZ)
theorem hS0_z {o : Int} (ho : o = 3 ∨ o = 11 ∨ o = 12 ∨ o = 13 ∨ o = 74 ∨ o = 78 ∨ o = 82 ∨ o = 89 ∨ o = 90 ∨ o = 91 ∨ o = 142) : hS0 o = fun _ => 0 := by
  rcases ho with rfl | rfl | rfl | rfl | rfl | rfl | rfl | rfl | rfl | rfl | rfl <;>
  · unfold hS0 uji_Md_81 uji_WM_1 uji_Trays_77 uji_Mend_70 uji_Found_66 uji_Found_62 uji_Walk_48 uji_Row_55 uji_Met_49 uji_Rows_43 uji_Rows_40 uji_Way_34 uji_Way_28 uji_Rows_25 uji_Row_23 uji_Row_21 uji_Slips_9 uji_Rows_17 uji_Rows_14 uji_Lex_4 uji_Rows_5 uji_Tape_2
    simp (disch := decide) only [xup_row]
    rfl
theorem hS0_n {o j v : Int} (h : decide (hS0 o j = v) = true) : hS0 o j = v := of_decide_eq_true h
theorem inv0 : Inv hS0 := by
  have z11 := hS0_z (o := 11) (by decide)
  have z12 := hS0_z (o := 12) (by decide)
  have z13 := hS0_z (o := 13) (by decide)
  have z78 := hS0_z (o := 78) (by decide)
  have z89 := hS0_z (o := 89) (by decide)
  have z90 := hS0_z (o := 90) (by decide)
  have z91 := hS0_z (o := 91) (by decide)
  have z142 := hS0_z (o := 142) (by decide)
  have z74 := hS0_z (o := 74) (by decide)
  have e2 : hS0 2 1 = 0 := by decide +kernel
  have e811 : hS0 81 1 = 0 := by decide +kernel
  have e5 : hS0 5 2 = 0 := by decide +kernel
  have e815 : hS0 81 5 = 0 := by decide +kernel
  have e42 : hS0 4 2 = 0 := by decide +kernel
  have e8115 : hS0 81 15 = 0 := by decide +kernel
  have e14 : hS0 14 2 = 0 := by decide +kernel
  have e17 : hS0 17 2 = 0 := by decide +kernel
  have e8116 : hS0 81 16 = 0 := by decide +kernel
  have e40 : hS0 40 2 = 0 := by decide +kernel
  have e43 : hS0 43 2 = 0 := by decide +kernel
  have e8161 : hS0 81 61 = 0 := by decide +kernel
  have e8133 : hS0 81 33 = -1 := by decide +kernel
  have e28 : hS0 28 6 = 0 := by decide +kernel
  have e8139 : hS0 81 39 = 0 := by decide +kernel
  have e8140 : hS0 81 40 = 0 := by decide +kernel
  have e495 : hS0 49 5 = 0 := by decide +kernel
  have e496 : hS0 49 6 = 0 := by decide +kernel
  have e8153 : hS0 81 53 = 0 := by decide +kernel
  have e62 : hS0 62 4 = 0 := by decide +kernel
  have e8169 : hS0 81 69 = -1 := by decide +kernel
  have e70 : hS0 70 7 = 0 := by decide +kernel
  have e8182 : hS0 81 82 = 0 := by decide +kernel
  have e77 : hS0 77 3 = 0 := by decide +kernel
  have e8113 : hS0 81 13 = 60 := by decide +kernel
  have e8114 : hS0 81 14 = 60 := by decide +kernel
  have e108 : hS0 10 8 = 60 := by decide +kernel
  have e109 : hS0 10 9 = 60 := by decide +kernel
  have ek : ∀ k : Int, 1 ≤ k → k ≤ 6 → hS0 88 k = 100 ∧ hS0 10 k = 100 := fun k a b => by
    have : k = 1 ∨ k = 2 ∨ k = 3 ∨ k = 4 ∨ k = 5 ∨ k = 6 := by omega
    rcases this with rfl | rfl | rfl | rfl | rfl | rfl <;> exact ⟨by decide +kernel, by decide +kernel⟩
  have ro : ∀ (o N : Int), (xN (o + 2) : Int) = N → (xN (o + 1) : Int) = 12 * N → N ≤ 200 → 0 ≤ N → hS0 o 2 = 0 → RO o N hS0 := fun o N a b c d e => ⟨a, b, c, by omega, by omega, fun r r0 r1 => by omega⟩
  refine ⟨⟨by omega, by omega, by omega, fun k a b => by omega, fun k a b => by omega⟩, ⟨⟨ro 5 200 rfl rfl (by omega) (by omega) e5, by omega, fun w a b => by omega, fun v w a b c => by omega⟩, fun w a b => by omega⟩, ⟨by omega, by omega, by omega⟩, ⟨fun k a b => ?_, ⟨by omega, by omega, by omega⟩, ⟨by omega, by omega, by omega⟩, fun k a b => ?_, fun k a b => ?_, fun k a b => ?_⟩, ⟨ro 14 20 rfl rfl (by omega) (by omega) e14, ro 17 20 rfl rfl (by omega) (by omega) e17, by omega, by omega, fun s a b => by omega⟩, ⟨ro 40 40 rfl rfl (by omega) (by omega) e40, ro 43 40 rfl rfl (by omega) (by omega) e43, by omega, by omega, fun p a b => by omega⟩, Or.inl ⟨e8133, e28⟩, ⟨by omega, by omega, by omega, by omega, fun z => by omega, fun i a b => by omega⟩, ⟨by omega, by omega, by omega, fun i a b => by omega⟩, Or.inl ⟨e8169, e70, by rw [z74]⟩, ⟨by omega, fun t a b => ?_⟩⟩
  · obtain ⟨a1, a2⟩ := ek k a b
    omega
  · rw [z89, z11]; exact ⟨rfl, by show (0 : Int) ≤ 0; decide, by show (0 : Int) ≤ 9999; decide⟩
  · rw [z90, z12]; exact ⟨rfl, by show (0 : Int) ≤ 0; decide, by show (0 : Int) ≤ 9999; decide⟩
  · rw [z91, z13]; exact ⟨rfl, by show (0 : Int) ≤ 0; decide, by show (0 : Int) ≤ 9999; decide⟩
  · rw [z142, z78]
    exact ⟨rfl, by show (0 : Int) ≤ 0; decide, by show (0 : Int) ≤ 4; decide, fun z => absurd rfl z⟩
