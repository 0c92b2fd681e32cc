/-! THE CONSTRUCTORS, object by object -/
abbrev mX0_init : xM := (RX0, cX0_init, 2, none, true, 1, 28, none)
abbrev mX1_init : xM := (RX1, cX1_init, 1, none, true, 2, 50, none)
abbrev mX2_init : xM := (RX2, cX2_init, 1, none, true, 1, 28, none)
abbrev mX3_init : xM := (RX3, cX3_init, 1, none, true, 1, 28, none)
abbrev mX4_init : xM := (RX4, cX4_init, 1, none, true, 1, 28, none)
abbrev mX5_init : xM := (RX5, cX5_init, 3, none, true, 1, 28, none)
abbrev mX6_init : xM := (RX6, cX6_init, 1, none, true, 2, 50, none)
abbrev mX7_init : xM := (RX7, cX7_init, 1, none, true, 1, 28, none)
abbrev mX8_init : xM := (RX8, cX8_init, 1, none, true, 1, 28, none)
abbrev mX9_init : xM := (RX9, cX9_init, 3, none, true, 2, 48, none)
abbrev mX10_init : xM := (RX10, cX10_init, 2, none, true, 1, 28, none)
abbrev mX11_init : xM := (RX11, cX11_init, 1, none, true, 3, 70, none)
abbrev mX12_init : xM := (RX12, cX12_init, 2, none, true, 1, 28, none)
theorem xq141 : Cond.classLink "WordMenderLaw" (7) "WordMender" ∈ xtbl := xq_of 141 (by decide +kernel) (by decide +kernel)
theorem xq142 : Cond.instantiable "WordMender" (17) ∈ xtbl := xq_of 142 (by decide +kernel) (by decide +kernel)
theorem xq143 : Cond.methodLink "WordMenderLaw" (9) yX11_init ∈ xtbl := xq_of 143 (by decide +kernel) (by decide +kernel)
theorem xq144 : Cond.instanceMethod yX11_init ∈ xtbl := xq_of 144 (by decide +kernel) (by decide +kernel)
theorem xq145 : Cond.code yX11_init cX11_init 1 none ∈ xtbl := xq_of 145 (by decide +kernel) (by decide +kernel)
theorem xq146 : Cond.methodLink "WordMender" (3) objectInit ∈ xtbl := xq_of 146 (by decide +kernel) (by decide +kernel)
theorem xq147 : Cond.instanceMethod objectInit ∈ xtbl := xq_of 147 (by decide +kernel) (by decide +kernel)
theorem xq148 : Cond.code objectInit object_method_1_code 1 none ∈ xtbl := xq_of 148 (by decide +kernel) (by decide +kernel)
theorem xq149 : Cond.classLink "WordMender" (9) "WordMender$Tape" ∈ xtbl := xq_of 149 (by decide +kernel) (by decide +kernel)
theorem xq150 : Cond.instantiable "WordMender$Tape" (2) ∈ xtbl := xq_of 150 (by decide +kernel) (by decide +kernel)
theorem xq151 : Cond.methodLinkNest "WordMender" (11) yX7_init "WordMender" ∈ xnst := xn_of 151 (by decide +kernel) (by decide +kernel)
theorem xq152 : Cond.instanceMethod yX7_init ∈ xtbl := xq_of 152 (by decide +kernel) (by decide +kernel)
theorem xq153 : Cond.code yX7_init cX7_init 1 none ∈ xtbl := xq_of 153 (by decide +kernel) (by decide +kernel)
theorem xq154 : Cond.methodLink "WordMender$Tape" (3) objectInit ∈ xtbl := xq_of 154 (by decide +kernel) (by decide +kernel)
theorem xq163 : Cond.arrayClass Jvm.ClassFile.FieldType.int ∈ xtbl := xq_of 163 (by decide +kernel) (by decide +kernel)
theorem xq164 : Cond.classLink "WordMender" (16) "WordMender$Lexicon" ∈ xtbl := xq_of 164 (by decide +kernel) (by decide +kernel)
theorem xq165 : Cond.instantiable "WordMender$Lexicon" (3) ∈ xtbl := xq_of 165 (by decide +kernel) (by decide +kernel)
theorem xq166 : Cond.methodLinkNest "WordMender" (18) yX1_init "WordMender" ∈ xnst := xn_of 166 (by decide +kernel) (by decide +kernel)
theorem xq167 : Cond.instanceMethod yX1_init ∈ xtbl := xq_of 167 (by decide +kernel) (by decide +kernel)
theorem xq168 : Cond.code yX1_init cX1_init 1 none ∈ xtbl := xq_of 168 (by decide +kernel) (by decide +kernel)
theorem xq169 : Cond.methodLink "WordMender$Lexicon" (3) objectInit ∈ xtbl := xq_of 169 (by decide +kernel) (by decide +kernel)
theorem xq170 : Cond.classLink "WordMender$Lexicon" (9) "WordMender$Rows" ∈ xtbl := xq_of 170 (by decide +kernel) (by decide +kernel)
theorem xq171 : Cond.instantiable "WordMender$Rows" (3) ∈ xtbl := xq_of 171 (by decide +kernel) (by decide +kernel)
theorem xq172 : Cond.methodLinkNest "WordMender$Lexicon" (11) yX5_init "WordMender" ∈ xnst := xn_of 172 (by decide +kernel) (by decide +kernel)
theorem xq173 : Cond.instanceMethod yX5_init ∈ xtbl := xq_of 173 (by decide +kernel) (by decide +kernel)
theorem xq174 : Cond.code yX5_init cX5_init 3 none ∈ xtbl := xq_of 174 (by decide +kernel) (by decide +kernel)
theorem xq175 : Cond.methodLink "WordMender$Rows" (3) objectInit ∈ xtbl := xq_of 175 (by decide +kernel) (by decide +kernel)
theorem xq176 : Cond.methodLink "WordMender$Rows" (9) Lib.Math.max.name ∈ xtbl := xq_of 176 (by decide +kernel) (by decide +kernel)
theorem xq208 : Cond.classLink "WordMender" (23) "WordMender$Slips" ∈ xtbl := xq_of 208 (by decide +kernel) (by decide +kernel)
theorem xq209 : Cond.instantiable "WordMender$Slips" (7) ∈ xtbl := xq_of 209 (by decide +kernel) (by decide +kernel)
theorem xq210 : Cond.methodLinkNest "WordMender" (25) yX6_init "WordMender" ∈ xnst := xn_of 210 (by decide +kernel) (by decide +kernel)
theorem xq211 : Cond.instanceMethod yX6_init ∈ xtbl := xq_of 211 (by decide +kernel) (by decide +kernel)
theorem xq212 : Cond.code yX6_init cX6_init 1 none ∈ xtbl := xq_of 212 (by decide +kernel) (by decide +kernel)
theorem xq213 : Cond.methodLink "WordMender$Slips" (3) objectInit ∈ xtbl := xq_of 213 (by decide +kernel) (by decide +kernel)
theorem xq214 : Cond.classLink "WordMender$Slips" (24) "WordMender$Rows" ∈ xtbl := xq_of 214 (by decide +kernel) (by decide +kernel)
theorem xq215 : Cond.methodLinkNest "WordMender$Slips" (26) yX5_init "WordMender" ∈ xnst := xn_of 215 (by decide +kernel) (by decide +kernel)
theorem xq239 : Cond.classLink "WordMender" (30) "WordMender$Row" ∈ xtbl := xq_of 239 (by decide +kernel) (by decide +kernel)
theorem xq240 : Cond.instantiable "WordMender$Row" (2) ∈ xtbl := xq_of 240 (by decide +kernel) (by decide +kernel)
theorem xq241 : Cond.methodLinkNest "WordMender" (32) yX4_init "WordMender" ∈ xnst := xn_of 241 (by decide +kernel) (by decide +kernel)
theorem xq242 : Cond.instanceMethod yX4_init ∈ xtbl := xq_of 242 (by decide +kernel) (by decide +kernel)
theorem xq243 : Cond.code yX4_init cX4_init 1 none ∈ xtbl := xq_of 243 (by decide +kernel) (by decide +kernel)
theorem xq244 : Cond.methodLink "WordMender$Row" (3) objectInit ∈ xtbl := xq_of 244 (by decide +kernel) (by decide +kernel)
theorem xq256 : Cond.classLink "WordMender" (40) "WordMender$Rows" ∈ xtbl := xq_of 256 (by decide +kernel) (by decide +kernel)
theorem xq257 : Cond.methodLinkNest "WordMender" (42) yX5_init "WordMender" ∈ xnst := xn_of 257 (by decide +kernel) (by decide +kernel)
theorem xq258 : Cond.classLink "WordMender" (49) "WordMender$Way" ∈ xtbl := xq_of 258 (by decide +kernel) (by decide +kernel)
theorem xq259 : Cond.instantiable "WordMender$Way" (7) ∈ xtbl := xq_of 259 (by decide +kernel) (by decide +kernel)
theorem xq260 : Cond.methodLinkNest "WordMender" (51) yX10_init "WordMender" ∈ xnst := xn_of 260 (by decide +kernel) (by decide +kernel)
theorem xq261 : Cond.instanceMethod yX10_init ∈ xtbl := xq_of 261 (by decide +kernel) (by decide +kernel)
theorem xq262 : Cond.code yX10_init cX10_init 2 none ∈ xtbl := xq_of 262 (by decide +kernel) (by decide +kernel)
theorem xq263 : Cond.methodLink "WordMender$Way" (3) objectInit ∈ xtbl := xq_of 263 (by decide +kernel) (by decide +kernel)
theorem xq287 : Cond.classLink "WordMender" (74) "WordMender$Walk" ∈ xtbl := xq_of 287 (by decide +kernel) (by decide +kernel)
theorem xq288 : Cond.instantiable "WordMender$Walk" (9) ∈ xtbl := xq_of 288 (by decide +kernel) (by decide +kernel)
theorem xq289 : Cond.methodLinkNest "WordMender" (76) yX9_init "WordMender" ∈ xnst := xn_of 289 (by decide +kernel) (by decide +kernel)
theorem xq290 : Cond.instanceMethod yX9_init ∈ xtbl := xq_of 290 (by decide +kernel) (by decide +kernel)
theorem xq291 : Cond.code yX9_init cX9_init 3 none ∈ xtbl := xq_of 291 (by decide +kernel) (by decide +kernel)
theorem xq292 : Cond.methodLink "WordMender$Walk" (3) objectInit ∈ xtbl := xq_of 292 (by decide +kernel) (by decide +kernel)
theorem xq293 : Cond.classLink "WordMender$Walk" (9) "WordMender$Met" ∈ xtbl := xq_of 293 (by decide +kernel) (by decide +kernel)
theorem xq294 : Cond.instantiable "WordMender$Met" (8) ∈ xtbl := xq_of 294 (by decide +kernel) (by decide +kernel)
theorem xq295 : Cond.methodLinkNest "WordMender$Walk" (11) yX3_init "WordMender" ∈ xnst := xn_of 295 (by decide +kernel) (by decide +kernel)
theorem xq296 : Cond.instanceMethod yX3_init ∈ xtbl := xq_of 296 (by decide +kernel) (by decide +kernel)
theorem xq297 : Cond.code yX3_init cX3_init 1 none ∈ xtbl := xq_of 297 (by decide +kernel) (by decide +kernel)
theorem xq298 : Cond.methodLink "WordMender$Met" (3) objectInit ∈ xtbl := xq_of 298 (by decide +kernel) (by decide +kernel)
theorem xq327 : Cond.arrayClass Jvm.ClassFile.FieldType.boolean ∈ xtbl := xq_of 327 (by decide +kernel) (by decide +kernel)
theorem xq328 : Cond.classLink "WordMender$Walk" (18) "WordMender$Row" ∈ xtbl := xq_of 328 (by decide +kernel) (by decide +kernel)
theorem xq329 : Cond.methodLinkNest "WordMender$Walk" (20) yX4_init "WordMender" ∈ xnst := xn_of 329 (by decide +kernel) (by decide +kernel)
theorem xq361 : Cond.classLink "WordMender" (83) "WordMender$Found" ∈ xtbl := xq_of 361 (by decide +kernel) (by decide +kernel)
theorem xq362 : Cond.instantiable "WordMender$Found" (5) ∈ xtbl := xq_of 362 (by decide +kernel) (by decide +kernel)
theorem xq363 : Cond.methodLinkNest "WordMender" (85) yX0_init "WordMender" ∈ xnst := xn_of 363 (by decide +kernel) (by decide +kernel)
theorem xq364 : Cond.instanceMethod yX0_init ∈ xtbl := xq_of 364 (by decide +kernel) (by decide +kernel)
theorem xq365 : Cond.code yX0_init cX0_init 2 none ∈ xtbl := xq_of 365 (by decide +kernel) (by decide +kernel)
theorem xq366 : Cond.methodLink "WordMender$Found" (3) objectInit ∈ xtbl := xq_of 366 (by decide +kernel) (by decide +kernel)
theorem xq384 : Cond.classLink "WordMender" (95) "WordMender$Mending" ∈ xtbl := xq_of 384 (by decide +kernel) (by decide +kernel)
theorem xq385 : Cond.instantiable "WordMender$Mending" (8) ∈ xtbl := xq_of 385 (by decide +kernel) (by decide +kernel)
theorem xq386 : Cond.methodLinkNest "WordMender" (97) yX2_init "WordMender" ∈ xnst := xn_of 386 (by decide +kernel) (by decide +kernel)
theorem xq387 : Cond.instanceMethod yX2_init ∈ xtbl := xq_of 387 (by decide +kernel) (by decide +kernel)
theorem xq388 : Cond.code yX2_init cX2_init 1 none ∈ xtbl := xq_of 388 (by decide +kernel) (by decide +kernel)
theorem xq389 : Cond.methodLink "WordMender$Mending" (3) objectInit ∈ xtbl := xq_of 389 (by decide +kernel) (by decide +kernel)
theorem xq415 : Cond.classLink "WordMender" (102) "WordMender$Trays" ∈ xtbl := xq_of 415 (by decide +kernel) (by decide +kernel)
theorem xq416 : Cond.instantiable "WordMender$Trays" (4) ∈ xtbl := xq_of 416 (by decide +kernel) (by decide +kernel)
theorem xq417 : Cond.methodLinkNest "WordMender" (104) yX8_init "WordMender" ∈ xnst := xn_of 417 (by decide +kernel) (by decide +kernel)
theorem xq418 : Cond.instanceMethod yX8_init ∈ xtbl := xq_of 418 (by decide +kernel) (by decide +kernel)
theorem xq419 : Cond.code yX8_init cX8_init 1 none ∈ xtbl := xq_of 419 (by decide +kernel) (by decide +kernel)
theorem xq420 : Cond.methodLink "WordMender$Trays" (3) objectInit ∈ xtbl := xq_of 420 (by decide +kernel) (by decide +kernel)
theorem xq1014 : Cond.classLink "WordMenderLaw" (10) "WordMenderModel" ∈ xtbl := xq_of 1014 (by decide +kernel) (by decide +kernel)
theorem xq1015 : Cond.instantiable "WordMenderModel" (86) ∈ xtbl := xq_of 1015 (by decide +kernel) (by decide +kernel)
theorem xq1016 : Cond.methodLink "WordMenderLaw" (12) yX12_init ∈ xtbl := xq_of 1016 (by decide +kernel) (by decide +kernel)
theorem xq1017 : Cond.instanceMethod yX12_init ∈ xtbl := xq_of 1017 (by decide +kernel) (by decide +kernel)
theorem xq1018 : Cond.code yX12_init cX12_init 2 none ∈ xtbl := xq_of 1018 (by decide +kernel) (by decide +kernel)
theorem xq1019 : Cond.methodLink "WordMenderModel" (1) objectInit ∈ xtbl := xq_of 1019 (by decide +kernel) (by decide +kernel)
theorem xq1069 : Cond.fieldLink "WordMenderModel" (125) "WordMenderModel" "path" "[I" ∈ xtbl := xq_of 1069 (by decide +kernel) (by decide +kernel)
theorem fc_Found_init : xFc mX0_init yX0_init 1 := ⟨⟨by decide +kernel, rfl, fun _ => rfl, rfl⟩, ⟨by decide +kernel, by decide +kernel, by decide +kernel⟩, xq135, xq365⟩
theorem fc_Lex_init : xFc mX1_init yX1_init 0 := ⟨⟨by decide +kernel, rfl, fun _ => rfl, rfl⟩, ⟨by decide +kernel, by decide +kernel, by decide +kernel⟩, xq127, xq168⟩
theorem fc_Mend_init : xFc mX2_init yX2_init 0 := ⟨⟨by decide +kernel, rfl, fun _ => rfl, rfl⟩, ⟨by decide +kernel, by decide +kernel, by decide +kernel⟩, xq136, xq388⟩
theorem fc_Met_init : xFc mX3_init yX3_init 0 := ⟨⟨by decide +kernel, rfl, fun _ => rfl, rfl⟩, ⟨by decide +kernel, by decide +kernel, by decide +kernel⟩, xq134, xq297⟩
theorem fc_Row_init : xFc mX4_init yX4_init 0 := ⟨⟨by decide +kernel, rfl, fun _ => rfl, rfl⟩, ⟨by decide +kernel, by decide +kernel, by decide +kernel⟩, xq131, xq243⟩
theorem fc_Rows_init : xFc mX5_init yX5_init 1 := ⟨⟨by decide +kernel, rfl, fun _ => rfl, rfl⟩, ⟨by decide +kernel, by decide +kernel, by decide +kernel⟩, xq128, xq174⟩
theorem fc_Slips_init : xFc mX6_init yX6_init 0 := ⟨⟨by decide +kernel, rfl, fun _ => rfl, rfl⟩, ⟨by decide +kernel, by decide +kernel, by decide +kernel⟩, xq130, xq212⟩
theorem fc_Tape_init : xFc mX7_init yX7_init 0 := ⟨⟨by decide +kernel, rfl, fun _ => rfl, rfl⟩, ⟨by decide +kernel, by decide +kernel, by decide +kernel⟩, xq126, xq153⟩
theorem fc_Trays_init : xFc mX8_init yX8_init 0 := ⟨⟨by decide +kernel, rfl, fun _ => rfl, rfl⟩, ⟨by decide +kernel, by decide +kernel, by decide +kernel⟩, xq137, xq419⟩
theorem fc_Walk_init : xFc mX9_init yX9_init 2 := ⟨⟨by decide +kernel, rfl, fun _ => rfl, rfl⟩, ⟨by decide +kernel, by decide +kernel, by decide +kernel⟩, xq133, xq291⟩
theorem fc_Way_init : xFc mX10_init yX10_init 1 := ⟨⟨by decide +kernel, rfl, fun _ => rfl, rfl⟩, ⟨by decide +kernel, by decide +kernel, by decide +kernel⟩, xq132, xq262⟩
theorem fc_WM_init : xFc mX11_init yX11_init 0 := ⟨⟨by decide +kernel, rfl, fun _ => rfl, rfl⟩, ⟨by decide +kernel, by decide +kernel, by decide +kernel⟩, xq125, xq145⟩
theorem fc_Md_init : xFc mX12_init yX12_init 0 := ⟨⟨by decide +kernel, rfl, fun _ => rfl, rfl⟩, ⟨by decide +kernel, by decide +kernel, by decide +kernel⟩, xq138, xq1018⟩
theorem dX11_init_0 : decode cX11_init 0 = .ok (.aload_n 0, 1) := by decide +kernel
theorem dX11_init_1 : decode cX11_init 1 = .ok (.invokespecial 3, 3) := by decide +kernel
theorem dX11_init_4 : decode cX11_init 4 = .ok (.aload_n 0, 1) := by decide +kernel
theorem dX11_init_5 : decode cX11_init 5 = .ok (.new 9, 3) := by decide +kernel
theorem dX11_init_8 : decode cX11_init 8 = .ok (.dup, 1) := by decide +kernel
theorem dX11_init_9 : decode cX11_init 9 = .ok (.invokespecial 11, 3) := by decide +kernel
theorem dX11_init_12 : decode cX11_init 12 = .ok (.putfield 12, 3) := by decide +kernel
theorem dX11_init_15 : decode cX11_init 15 = .ok (.aload_n 0, 1) := by decide +kernel
theorem dX11_init_16 : decode cX11_init 16 = .ok (.new 16, 3) := by decide +kernel
theorem dX11_init_19 : decode cX11_init 19 = .ok (.dup, 1) := by decide +kernel
theorem dX11_init_20 : decode cX11_init 20 = .ok (.invokespecial 18, 3) := by decide +kernel
theorem dX11_init_23 : decode cX11_init 23 = .ok (.putfield 19, 3) := by decide +kernel
theorem dX11_init_26 : decode cX11_init 26 = .ok (.aload_n 0, 1) := by decide +kernel
theorem dX11_init_27 : decode cX11_init 27 = .ok (.new 23, 3) := by decide +kernel
theorem dX11_init_30 : decode cX11_init 30 = .ok (.dup, 1) := by decide +kernel
theorem dX11_init_31 : decode cX11_init 31 = .ok (.invokespecial 25, 3) := by decide +kernel
theorem dX11_init_34 : decode cX11_init 34 = .ok (.putfield 26, 3) := by decide +kernel
theorem dX11_init_37 : decode cX11_init 37 = .ok (.aload_n 0, 1) := by decide +kernel
theorem dX11_init_38 : decode cX11_init 38 = .ok (.new 30, 3) := by decide +kernel
theorem dX11_init_41 : decode cX11_init 41 = .ok (.dup, 1) := by decide +kernel
theorem dX11_init_42 : decode cX11_init 42 = .ok (.invokespecial 32, 3) := by decide +kernel
theorem dX11_init_45 : decode cX11_init 45 = .ok (.putfield 33, 3) := by decide +kernel
theorem dX11_init_48 : decode cX11_init 48 = .ok (.aload_n 0, 1) := by decide +kernel
theorem dX11_init_49 : decode cX11_init 49 = .ok (.new 30, 3) := by decide +kernel
theorem dX11_init_52 : decode cX11_init 52 = .ok (.dup, 1) := by decide +kernel
theorem dX11_init_53 : decode cX11_init 53 = .ok (.invokespecial 32, 3) := by decide +kernel
theorem dX11_init_56 : decode cX11_init 56 = .ok (.putfield 37, 3) := by decide +kernel
theorem dX11_init_59 : decode cX11_init 59 = .ok (.aload_n 0, 1) := by decide +kernel
theorem dX11_init_60 : decode cX11_init 60 = .ok (.new 40, 3) := by decide +kernel
theorem dX11_init_63 : decode cX11_init 63 = .ok (.dup, 1) := by decide +kernel
theorem dX11_init_64 : decode cX11_init 64 = .ok (.bipush 12, 2) := by decide +kernel
theorem dX11_init_66 : decode cX11_init 66 = .ok (.invokespecial 42, 3) := by decide +kernel
theorem dX11_init_69 : decode cX11_init 69 = .ok (.putfield 45, 3) := by decide +kernel
theorem dX11_init_72 : decode cX11_init 72 = .ok (.aload_n 0, 1) := by decide +kernel
theorem dX11_init_73 : decode cX11_init 73 = .ok (.new 49, 3) := by decide +kernel
theorem dX11_init_76 : decode cX11_init 76 = .ok (.dup, 1) := by decide +kernel
theorem dX11_init_77 : decode cX11_init 77 = .ok (.aload_n 0, 1) := by decide +kernel
theorem dX11_init_78 : decode cX11_init 78 = .ok (.getfield 26, 3) := by decide +kernel
theorem dX11_init_81 : decode cX11_init 81 = .ok (.invokespecial 51, 3) := by decide +kernel
theorem dX11_init_84 : decode cX11_init 84 = .ok (.putfield 54, 3) := by decide +kernel
theorem dX11_init_87 : decode cX11_init 87 = .ok (.aload_n 0, 1) := by decide +kernel
theorem dX11_init_88 : decode cX11_init 88 = .ok (.new 49, 3) := by decide +kernel
theorem dX11_init_91 : decode cX11_init 91 = .ok (.dup, 1) := by decide +kernel
theorem dX11_init_92 : decode cX11_init 92 = .ok (.aload_n 0, 1) := by decide +kernel
theorem dX11_init_93 : decode cX11_init 93 = .ok (.getfield 26, 3) := by decide +kernel
theorem dX11_init_96 : decode cX11_init 96 = .ok (.invokespecial 51, 3) := by decide +kernel
theorem dX11_init_99 : decode cX11_init 99 = .ok (.putfield 58, 3) := by decide +kernel
theorem dX11_init_102 : decode cX11_init 102 = .ok (.aload_n 0, 1) := by decide +kernel
theorem dX11_init_103 : decode cX11_init 103 = .ok (.new 40, 3) := by decide +kernel
theorem dX11_init_106 : decode cX11_init 106 = .ok (.dup, 1) := by decide +kernel
theorem dX11_init_107 : decode cX11_init 107 = .ok (.bipush 40, 2) := by decide +kernel
theorem dX11_init_109 : decode cX11_init 109 = .ok (.invokespecial 42, 3) := by decide +kernel
theorem dX11_init_112 : decode cX11_init 112 = .ok (.putfield 61, 3) := by decide +kernel
theorem dX11_init_115 : decode cX11_init 115 = .ok (.aload_n 0, 1) := by decide +kernel
theorem dX11_init_116 : decode cX11_init 116 = .ok (.new 40, 3) := by decide +kernel
theorem dX11_init_119 : decode cX11_init 119 = .ok (.dup, 1) := by decide +kernel
theorem dX11_init_120 : decode cX11_init 120 = .ok (.bipush 40, 2) := by decide +kernel
theorem dX11_init_122 : decode cX11_init 122 = .ok (.invokespecial 42, 3) := by decide +kernel
theorem dX11_init_125 : decode cX11_init 125 = .ok (.putfield 64, 3) := by decide +kernel
theorem dX11_init_128 : decode cX11_init 128 = .ok (.aload_n 0, 1) := by decide +kernel
theorem dX11_init_129 : decode cX11_init 129 = .ok (.sipush 960, 3) := by decide +kernel
theorem dX11_init_132 : decode cX11_init 132 = .ok (.newarray .int, 2) := by decide +kernel
theorem dX11_init_134 : decode cX11_init 134 = .ok (.putfield 67, 3) := by decide +kernel
theorem dX11_init_137 : decode cX11_init 137 = .ok (.aload_n 0, 1) := by decide +kernel
theorem dX11_init_138 : decode cX11_init 138 = .ok (.bipush 7, 2) := by decide +kernel
theorem dX11_init_140 : decode cX11_init 140 = .ok (.newarray .int, 2) := by decide +kernel
theorem dX11_init_142 : decode cX11_init 142 = .ok (.putfield 71, 3) := by decide +kernel
theorem dX11_init_145 : decode cX11_init 145 = .ok (.aload_n 0, 1) := by decide +kernel
theorem dX11_init_146 : decode cX11_init 146 = .ok (.new 74, 3) := by decide +kernel
theorem dX11_init_149 : decode cX11_init 149 = .ok (.dup, 1) := by decide +kernel
theorem dX11_init_150 : decode cX11_init 150 = .ok (.aload_n 0, 1) := by decide +kernel
theorem dX11_init_151 : decode cX11_init 151 = .ok (.getfield 19, 3) := by decide +kernel
theorem dX11_init_154 : decode cX11_init 154 = .ok (.aload_n 0, 1) := by decide +kernel
theorem dX11_init_155 : decode cX11_init 155 = .ok (.getfield 26, 3) := by decide +kernel
theorem dX11_init_158 : decode cX11_init 158 = .ok (.invokespecial 76, 3) := by decide +kernel
theorem dX11_init_161 : decode cX11_init 161 = .ok (.putfield 79, 3) := by decide +kernel
theorem dX11_init_164 : decode cX11_init 164 = .ok (.aload_n 0, 1) := by decide +kernel
theorem dX11_init_165 : decode cX11_init 165 = .ok (.new 83, 3) := by decide +kernel
theorem dX11_init_168 : decode cX11_init 168 = .ok (.dup, 1) := by decide +kernel
theorem dX11_init_169 : decode cX11_init 169 = .ok (.aload_n 0, 1) := by decide +kernel
theorem dX11_init_170 : decode cX11_init 170 = .ok (.getfield 19, 3) := by decide +kernel
theorem dX11_init_173 : decode cX11_init 173 = .ok (.invokespecial 85, 3) := by decide +kernel
theorem dX11_init_176 : decode cX11_init 176 = .ok (.putfield 88, 3) := by decide +kernel
theorem dX11_init_179 : decode cX11_init 179 = .ok (.aload_n 0, 1) := by decide +kernel
theorem dX11_init_180 : decode cX11_init 180 = .ok (.new 83, 3) := by decide +kernel
theorem dX11_init_183 : decode cX11_init 183 = .ok (.dup, 1) := by decide +kernel
theorem dX11_init_184 : decode cX11_init 184 = .ok (.aload_n 0, 1) := by decide +kernel
theorem dX11_init_185 : decode cX11_init 185 = .ok (.getfield 19, 3) := by decide +kernel
theorem dX11_init_188 : decode cX11_init 188 = .ok (.invokespecial 85, 3) := by decide +kernel
theorem dX11_init_191 : decode cX11_init 191 = .ok (.putfield 92, 3) := by decide +kernel
theorem dX11_init_194 : decode cX11_init 194 = .ok (.aload_n 0, 1) := by decide +kernel
theorem dX11_init_195 : decode cX11_init 195 = .ok (.new 95, 3) := by decide +kernel
theorem dX11_init_198 : decode cX11_init 198 = .ok (.dup, 1) := by decide +kernel
theorem dX11_init_199 : decode cX11_init 199 = .ok (.invokespecial 97, 3) := by decide +kernel
theorem dX11_init_202 : decode cX11_init 202 = .ok (.putfield 98, 3) := by decide +kernel
theorem dX11_init_205 : decode cX11_init 205 = .ok (.aload_n 0, 1) := by decide +kernel
theorem dX11_init_206 : decode cX11_init 206 = .ok (.new 102, 3) := by decide +kernel
theorem dX11_init_209 : decode cX11_init 209 = .ok (.dup, 1) := by decide +kernel
theorem dX11_init_210 : decode cX11_init 210 = .ok (.invokespecial 104, 3) := by decide +kernel
theorem dX11_init_213 : decode cX11_init 213 = .ok (.putfield 105, 3) := by decide +kernel
theorem dX11_init_216 : decode cX11_init 216 = .ok (.return_, 1) := by decide +kernel
theorem dX7_init_0 : decode cX7_init 0 = .ok (.aload_n 0, 1) := by decide +kernel
theorem dX7_init_1 : decode cX7_init 1 = .ok (.invokespecial 3, 3) := by decide +kernel
theorem dX7_init_4 : decode cX7_init 4 = .ok (.aload_n 0, 1) := by decide +kernel
theorem dX7_init_5 : decode cX7_init 5 = .ok (.sipush 240, 3) := by decide +kernel
theorem dX7_init_8 : decode cX7_init 8 = .ok (.newarray .int, 2) := by decide +kernel
theorem dX7_init_10 : decode cX7_init 10 = .ok (.putfield 9, 3) := by decide +kernel
theorem dX7_init_13 : decode cX7_init 13 = .ok (.return_, 1) := by decide +kernel
theorem dX1_init_0 : decode cX1_init 0 = .ok (.aload_n 0, 1) := by decide +kernel
theorem dX1_init_1 : decode cX1_init 1 = .ok (.invokespecial 3, 3) := by decide +kernel
theorem dX1_init_4 : decode cX1_init 4 = .ok (.aload_n 0, 1) := by decide +kernel
theorem dX1_init_5 : decode cX1_init 5 = .ok (.new 9, 3) := by decide +kernel
theorem dX1_init_8 : decode cX1_init 8 = .ok (.dup, 1) := by decide +kernel
theorem dX1_init_9 : decode cX1_init 9 = .ok (.sipush 200, 3) := by decide +kernel
theorem dX1_init_12 : decode cX1_init 12 = .ok (.invokespecial 11, 3) := by decide +kernel
theorem dX1_init_15 : decode cX1_init 15 = .ok (.putfield 14, 3) := by decide +kernel
theorem dX1_init_18 : decode cX1_init 18 = .ok (.aload_n 0, 1) := by decide +kernel
theorem dX1_init_19 : decode cX1_init 19 = .ok (.sipush 200, 3) := by decide +kernel
theorem dX1_init_22 : decode cX1_init 22 = .ok (.newarray .int, 2) := by decide +kernel
theorem dX1_init_24 : decode cX1_init 24 = .ok (.putfield 20, 3) := by decide +kernel
theorem dX1_init_27 : decode cX1_init 27 = .ok (.return_, 1) := by decide +kernel
theorem dX5_init_0 : decode cX5_init 0 = .ok (.aload_n 0, 1) := by decide +kernel
theorem dX5_init_1 : decode cX5_init 1 = .ok (.invokespecial 3, 3) := by decide +kernel
theorem dX5_init_4 : decode cX5_init 4 = .ok (.iload_n 1, 1) := by decide +kernel
theorem dX5_init_5 : decode cX5_init 5 = .ok (.iconst 0, 1) := by decide +kernel
theorem dX5_init_6 : decode cX5_init 6 = .ok (.invokestatic 9, 3) := by decide +kernel
theorem dX5_init_9 : decode cX5_init 9 = .ok (.istore_n 2, 1) := by decide +kernel
theorem dX5_init_10 : decode cX5_init 10 = .ok (.aload_n 0, 1) := by decide +kernel
theorem dX5_init_11 : decode cX5_init 11 = .ok (.iload_n 2, 1) := by decide +kernel
theorem dX5_init_12 : decode cX5_init 12 = .ok (.bipush 12, 2) := by decide +kernel
theorem dX5_init_14 : decode cX5_init 14 = .ok (.imul, 1) := by decide +kernel
theorem dX5_init_15 : decode cX5_init 15 = .ok (.newarray .int, 2) := by decide +kernel
theorem dX5_init_17 : decode cX5_init 17 = .ok (.putfield 15, 3) := by decide +kernel
theorem dX5_init_20 : decode cX5_init 20 = .ok (.aload_n 0, 1) := by decide +kernel
theorem dX5_init_21 : decode cX5_init 21 = .ok (.iload_n 2, 1) := by decide +kernel
theorem dX5_init_22 : decode cX5_init 22 = .ok (.newarray .int, 2) := by decide +kernel
theorem dX5_init_24 : decode cX5_init 24 = .ok (.putfield 21, 3) := by decide +kernel
theorem dX5_init_27 : decode cX5_init 27 = .ok (.return_, 1) := by decide +kernel
theorem dX6_init_0 : decode cX6_init 0 = .ok (.aload_n 0, 1) := by decide +kernel
theorem dX6_init_1 : decode cX6_init 1 = .ok (.invokespecial 3, 3) := by decide +kernel
theorem dX6_init_4 : decode cX6_init 4 = .ok (.aload_n 0, 1) := by decide +kernel
theorem dX6_init_5 : decode cX6_init 5 = .ok (.bipush 10, 2) := by decide +kernel
theorem dX6_init_7 : decode cX6_init 7 = .ok (.newarray .int, 2) := by decide +kernel
theorem dX6_init_9 : decode cX6_init 9 = .ok (.dup, 1) := by decide +kernel
theorem dX6_init_10 : decode cX6_init 10 = .ok (.iconst 0, 1) := by decide +kernel
theorem dX6_init_11 : decode cX6_init 11 = .ok (.iconst 0, 1) := by decide +kernel
theorem dX6_init_12 : decode cX6_init 12 = .ok (.iastore, 1) := by decide +kernel
theorem dX6_init_13 : decode cX6_init 13 = .ok (.dup, 1) := by decide +kernel
theorem dX6_init_14 : decode cX6_init 14 = .ok (.iconst 1, 1) := by decide +kernel
theorem dX6_init_15 : decode cX6_init 15 = .ok (.bipush 100, 2) := by decide +kernel
theorem dX6_init_17 : decode cX6_init 17 = .ok (.iastore, 1) := by decide +kernel
theorem dX6_init_18 : decode cX6_init 18 = .ok (.dup, 1) := by decide +kernel
theorem dX6_init_19 : decode cX6_init 19 = .ok (.iconst 2, 1) := by decide +kernel
theorem dX6_init_20 : decode cX6_init 20 = .ok (.bipush 100, 2) := by decide +kernel
theorem dX6_init_22 : decode cX6_init 22 = .ok (.iastore, 1) := by decide +kernel
theorem dX6_init_23 : decode cX6_init 23 = .ok (.dup, 1) := by decide +kernel
theorem dX6_init_24 : decode cX6_init 24 = .ok (.iconst 3, 1) := by decide +kernel
theorem dX6_init_25 : decode cX6_init 25 = .ok (.bipush 100, 2) := by decide +kernel
theorem dX6_init_27 : decode cX6_init 27 = .ok (.iastore, 1) := by decide +kernel
theorem dX6_init_28 : decode cX6_init 28 = .ok (.dup, 1) := by decide +kernel
theorem dX6_init_29 : decode cX6_init 29 = .ok (.iconst 4, 1) := by decide +kernel
theorem dX6_init_30 : decode cX6_init 30 = .ok (.bipush 100, 2) := by decide +kernel
theorem dX6_init_32 : decode cX6_init 32 = .ok (.iastore, 1) := by decide +kernel
theorem dX6_init_33 : decode cX6_init 33 = .ok (.dup, 1) := by decide +kernel
theorem dX6_init_34 : decode cX6_init 34 = .ok (.iconst 5, 1) := by decide +kernel
theorem dX6_init_35 : decode cX6_init 35 = .ok (.bipush 100, 2) := by decide +kernel
theorem dX6_init_37 : decode cX6_init 37 = .ok (.iastore, 1) := by decide +kernel
theorem dX6_init_38 : decode cX6_init 38 = .ok (.dup, 1) := by decide +kernel
theorem dX6_init_39 : decode cX6_init 39 = .ok (.bipush 6, 2) := by decide +kernel
theorem dX6_init_41 : decode cX6_init 41 = .ok (.bipush 100, 2) := by decide +kernel
theorem dX6_init_43 : decode cX6_init 43 = .ok (.iastore, 1) := by decide +kernel
theorem dX6_init_44 : decode cX6_init 44 = .ok (.dup, 1) := by decide +kernel
theorem dX6_init_45 : decode cX6_init 45 = .ok (.bipush 7, 2) := by decide +kernel
theorem dX6_init_47 : decode cX6_init 47 = .ok (.iconst 0, 1) := by decide +kernel
theorem dX6_init_48 : decode cX6_init 48 = .ok (.iastore, 1) := by decide +kernel
theorem dX6_init_49 : decode cX6_init 49 = .ok (.dup, 1) := by decide +kernel
theorem dX6_init_50 : decode cX6_init 50 = .ok (.bipush 8, 2) := by decide +kernel
theorem dX6_init_52 : decode cX6_init 52 = .ok (.bipush 60, 2) := by decide +kernel
theorem dX6_init_54 : decode cX6_init 54 = .ok (.iastore, 1) := by decide +kernel
theorem dX6_init_55 : decode cX6_init 55 = .ok (.dup, 1) := by decide +kernel
theorem dX6_init_56 : decode cX6_init 56 = .ok (.bipush 9, 2) := by decide +kernel
theorem dX6_init_58 : decode cX6_init 58 = .ok (.bipush 60, 2) := by decide +kernel
theorem dX6_init_60 : decode cX6_init 60 = .ok (.iastore, 1) := by decide +kernel
theorem dX6_init_61 : decode cX6_init 61 = .ok (.putfield 9, 3) := by decide +kernel
theorem dX6_init_64 : decode cX6_init 64 = .ok (.aload_n 0, 1) := by decide +kernel
theorem dX6_init_65 : decode cX6_init 65 = .ok (.sipush 676, 3) := by decide +kernel
theorem dX6_init_68 : decode cX6_init 68 = .ok (.newarray .int, 2) := by decide +kernel
theorem dX6_init_70 : decode cX6_init 70 = .ok (.putfield 15, 3) := by decide +kernel
theorem dX6_init_73 : decode cX6_init 73 = .ok (.aload_n 0, 1) := by decide +kernel
theorem dX6_init_74 : decode cX6_init 74 = .ok (.bipush 26, 2) := by decide +kernel
theorem dX6_init_76 : decode cX6_init 76 = .ok (.newarray .int, 2) := by decide +kernel
theorem dX6_init_78 : decode cX6_init 78 = .ok (.putfield 18, 3) := by decide +kernel
theorem dX6_init_81 : decode cX6_init 81 = .ok (.aload_n 0, 1) := by decide +kernel
theorem dX6_init_82 : decode cX6_init 82 = .ok (.bipush 26, 2) := by decide +kernel
theorem dX6_init_84 : decode cX6_init 84 = .ok (.newarray .int, 2) := by decide +kernel
theorem dX6_init_86 : decode cX6_init 86 = .ok (.putfield 21, 3) := by decide +kernel
theorem dX6_init_89 : decode cX6_init 89 = .ok (.aload_n 0, 1) := by decide +kernel
theorem dX6_init_90 : decode cX6_init 90 = .ok (.new 24, 3) := by decide +kernel
theorem dX6_init_93 : decode cX6_init 93 = .ok (.dup, 1) := by decide +kernel
theorem dX6_init_94 : decode cX6_init 94 = .ok (.bipush 20, 2) := by decide +kernel
theorem dX6_init_96 : decode cX6_init 96 = .ok (.invokespecial 26, 3) := by decide +kernel
theorem dX6_init_99 : decode cX6_init 99 = .ok (.putfield 29, 3) := by decide +kernel
theorem dX6_init_102 : decode cX6_init 102 = .ok (.aload_n 0, 1) := by decide +kernel
theorem dX6_init_103 : decode cX6_init 103 = .ok (.new 24, 3) := by decide +kernel
theorem dX6_init_106 : decode cX6_init 106 = .ok (.dup, 1) := by decide +kernel
theorem dX6_init_107 : decode cX6_init 107 = .ok (.bipush 20, 2) := by decide +kernel
theorem dX6_init_109 : decode cX6_init 109 = .ok (.invokespecial 26, 3) := by decide +kernel
theorem dX6_init_112 : decode cX6_init 112 = .ok (.putfield 33, 3) := by decide +kernel
theorem dX6_init_115 : decode cX6_init 115 = .ok (.aload_n 0, 1) := by decide +kernel
theorem dX6_init_116 : decode cX6_init 116 = .ok (.bipush 20, 2) := by decide +kernel
theorem dX6_init_118 : decode cX6_init 118 = .ok (.newarray .int, 2) := by decide +kernel
theorem dX6_init_120 : decode cX6_init 120 = .ok (.putfield 36, 3) := by decide +kernel
theorem dX6_init_123 : decode cX6_init 123 = .ok (.return_, 1) := by decide +kernel
theorem dX4_init_0 : decode cX4_init 0 = .ok (.aload_n 0, 1) := by decide +kernel
theorem dX4_init_1 : decode cX4_init 1 = .ok (.invokespecial 3, 3) := by decide +kernel
theorem dX4_init_4 : decode cX4_init 4 = .ok (.aload_n 0, 1) := by decide +kernel
theorem dX4_init_5 : decode cX4_init 5 = .ok (.bipush 12, 2) := by decide +kernel
theorem dX4_init_7 : decode cX4_init 7 = .ok (.newarray .int, 2) := by decide +kernel
theorem dX4_init_9 : decode cX4_init 9 = .ok (.putfield 9, 3) := by decide +kernel
theorem dX4_init_12 : decode cX4_init 12 = .ok (.return_, 1) := by decide +kernel
theorem dX10_init_0 : decode cX10_init 0 = .ok (.aload_n 0, 1) := by decide +kernel
theorem dX10_init_1 : decode cX10_init 1 = .ok (.invokespecial 3, 3) := by decide +kernel
theorem dX10_init_4 : decode cX10_init 4 = .ok (.aload_n 0, 1) := by decide +kernel
theorem dX10_init_5 : decode cX10_init 5 = .ok (.sipush 169, 3) := by decide +kernel
theorem dX10_init_8 : decode cX10_init 8 = .ok (.newarray .int, 2) := by decide +kernel
theorem dX10_init_10 : decode cX10_init 10 = .ok (.putfield 9, 3) := by decide +kernel
theorem dX10_init_13 : decode cX10_init 13 = .ok (.aload_n 0, 1) := by decide +kernel
theorem dX10_init_14 : decode cX10_init 14 = .ok (.bipush 24, 2) := by decide +kernel
theorem dX10_init_16 : decode cX10_init 16 = .ok (.newarray .int, 2) := by decide +kernel
theorem dX10_init_18 : decode cX10_init 18 = .ok (.putfield 15, 3) := by decide +kernel
theorem dX10_init_21 : decode cX10_init 21 = .ok (.aload_n 0, 1) := by decide +kernel
theorem dX10_init_22 : decode cX10_init 22 = .ok (.bipush 24, 2) := by decide +kernel
theorem dX10_init_24 : decode cX10_init 24 = .ok (.newarray .int, 2) := by decide +kernel
theorem dX10_init_26 : decode cX10_init 26 = .ok (.putfield 18, 3) := by decide +kernel
theorem dX10_init_29 : decode cX10_init 29 = .ok (.aload_n 0, 1) := by decide +kernel
theorem dX10_init_30 : decode cX10_init 30 = .ok (.bipush 24, 2) := by decide +kernel
theorem dX10_init_32 : decode cX10_init 32 = .ok (.newarray .int, 2) := by decide +kernel
theorem dX10_init_34 : decode cX10_init 34 = .ok (.putfield 21, 3) := by decide +kernel
theorem dX10_init_37 : decode cX10_init 37 = .ok (.aload_n 0, 1) := by decide +kernel
theorem dX10_init_38 : decode cX10_init 38 = .ok (.bipush 24, 2) := by decide +kernel
theorem dX10_init_40 : decode cX10_init 40 = .ok (.newarray .int, 2) := by decide +kernel
theorem dX10_init_42 : decode cX10_init 42 = .ok (.putfield 24, 3) := by decide +kernel
theorem dX10_init_45 : decode cX10_init 45 = .ok (.aload_n 0, 1) := by decide +kernel
theorem dX10_init_46 : decode cX10_init 46 = .ok (.aload_n 1, 1) := by decide +kernel
theorem dX10_init_47 : decode cX10_init 47 = .ok (.putfield 27, 3) := by decide +kernel
theorem dX10_init_50 : decode cX10_init 50 = .ok (.return_, 1) := by decide +kernel
theorem dX9_init_0 : decode cX9_init 0 = .ok (.aload_n 0, 1) := by decide +kernel
theorem dX9_init_1 : decode cX9_init 1 = .ok (.invokespecial 3, 3) := by decide +kernel
theorem dX9_init_4 : decode cX9_init 4 = .ok (.aload_n 0, 1) := by decide +kernel
theorem dX9_init_5 : decode cX9_init 5 = .ok (.new 9, 3) := by decide +kernel
theorem dX9_init_8 : decode cX9_init 8 = .ok (.dup, 1) := by decide +kernel
theorem dX9_init_9 : decode cX9_init 9 = .ok (.invokespecial 11, 3) := by decide +kernel
theorem dX9_init_12 : decode cX9_init 12 = .ok (.putfield 12, 3) := by decide +kernel
theorem dX9_init_15 : decode cX9_init 15 = .ok (.aload_n 0, 1) := by decide +kernel
theorem dX9_init_16 : decode cX9_init 16 = .ok (.new 18, 3) := by decide +kernel
theorem dX9_init_19 : decode cX9_init 19 = .ok (.dup, 1) := by decide +kernel
theorem dX9_init_20 : decode cX9_init 20 = .ok (.invokespecial 20, 3) := by decide +kernel
theorem dX9_init_23 : decode cX9_init 23 = .ok (.putfield 21, 3) := by decide +kernel
theorem dX9_init_26 : decode cX9_init 26 = .ok (.aload_n 0, 1) := by decide +kernel
theorem dX9_init_27 : decode cX9_init 27 = .ok (.sipush 169, 3) := by decide +kernel
theorem dX9_init_30 : decode cX9_init 30 = .ok (.newarray .int, 2) := by decide +kernel
theorem dX9_init_32 : decode cX9_init 32 = .ok (.putfield 25, 3) := by decide +kernel
theorem dX9_init_35 : decode cX9_init 35 = .ok (.aload_n 0, 1) := by decide +kernel
theorem dX9_init_36 : decode cX9_init 36 = .ok (.bipush 13, 2) := by decide +kernel
theorem dX9_init_38 : decode cX9_init 38 = .ok (.newarray .int, 2) := by decide +kernel
theorem dX9_init_40 : decode cX9_init 40 = .ok (.putfield 29, 3) := by decide +kernel
theorem dX9_init_43 : decode cX9_init 43 = .ok (.aload_n 0, 1) := by decide +kernel
theorem dX9_init_44 : decode cX9_init 44 = .ok (.bipush 13, 2) := by decide +kernel
theorem dX9_init_46 : decode cX9_init 46 = .ok (.newarray .int, 2) := by decide +kernel
theorem dX9_init_48 : decode cX9_init 48 = .ok (.putfield 32, 3) := by decide +kernel
theorem dX9_init_51 : decode cX9_init 51 = .ok (.aload_n 0, 1) := by decide +kernel
theorem dX9_init_52 : decode cX9_init 52 = .ok (.sipush 200, 3) := by decide +kernel
theorem dX9_init_55 : decode cX9_init 55 = .ok (.newarray .int, 2) := by decide +kernel
theorem dX9_init_57 : decode cX9_init 57 = .ok (.putfield 35, 3) := by decide +kernel
theorem dX9_init_60 : decode cX9_init 60 = .ok (.aload_n 0, 1) := by decide +kernel
theorem dX9_init_61 : decode cX9_init 61 = .ok (.sipush 200, 3) := by decide +kernel
theorem dX9_init_64 : decode cX9_init 64 = .ok (.newarray .int, 2) := by decide +kernel
theorem dX9_init_66 : decode cX9_init 66 = .ok (.putfield 38, 3) := by decide +kernel
theorem dX9_init_69 : decode cX9_init 69 = .ok (.aload_n 0, 1) := by decide +kernel
theorem dX9_init_70 : decode cX9_init 70 = .ok (.aload_n 1, 1) := by decide +kernel
theorem dX9_init_71 : decode cX9_init 71 = .ok (.putfield 41, 3) := by decide +kernel
theorem dX9_init_74 : decode cX9_init 74 = .ok (.aload_n 0, 1) := by decide +kernel
theorem dX9_init_75 : decode cX9_init 75 = .ok (.aload_n 2, 1) := by decide +kernel
theorem dX9_init_76 : decode cX9_init 76 = .ok (.putfield 45, 3) := by decide +kernel
theorem dX9_init_79 : decode cX9_init 79 = .ok (.return_, 1) := by decide +kernel
theorem dX3_init_0 : decode cX3_init 0 = .ok (.aload_n 0, 1) := by decide +kernel
theorem dX3_init_1 : decode cX3_init 1 = .ok (.invokespecial 3, 3) := by decide +kernel
theorem dX3_init_4 : decode cX3_init 4 = .ok (.aload_n 0, 1) := by decide +kernel
theorem dX3_init_5 : decode cX3_init 5 = .ok (.sipush 2401, 3) := by decide +kernel
theorem dX3_init_8 : decode cX3_init 8 = .ok (.newarray .int, 2) := by decide +kernel
theorem dX3_init_10 : decode cX3_init 10 = .ok (.putfield 9, 3) := by decide +kernel
theorem dX3_init_13 : decode cX3_init 13 = .ok (.aload_n 0, 1) := by decide +kernel
theorem dX3_init_14 : decode cX3_init 14 = .ok (.sipush 2401, 3) := by decide +kernel
theorem dX3_init_17 : decode cX3_init 17 = .ok (.newarray .int, 2) := by decide +kernel
theorem dX3_init_19 : decode cX3_init 19 = .ok (.putfield 15, 3) := by decide +kernel
theorem dX3_init_22 : decode cX3_init 22 = .ok (.aload_n 0, 1) := by decide +kernel
theorem dX3_init_23 : decode cX3_init 23 = .ok (.sipush 2401, 3) := by decide +kernel
theorem dX3_init_26 : decode cX3_init 26 = .ok (.newarray .boolean, 2) := by decide +kernel
theorem dX3_init_28 : decode cX3_init 28 = .ok (.putfield 18, 3) := by decide +kernel
theorem dX3_init_31 : decode cX3_init 31 = .ok (.aload_n 0, 1) := by decide +kernel
theorem dX3_init_32 : decode cX3_init 32 = .ok (.sipush 2401, 3) := by decide +kernel
theorem dX3_init_35 : decode cX3_init 35 = .ok (.newarray .boolean, 2) := by decide +kernel
theorem dX3_init_37 : decode cX3_init 37 = .ok (.putfield 22, 3) := by decide +kernel
theorem dX3_init_40 : decode cX3_init 40 = .ok (.aload_n 0, 1) := by decide +kernel
theorem dX3_init_41 : decode cX3_init 41 = .ok (.sipush 31213, 3) := by decide +kernel
theorem dX3_init_44 : decode cX3_init 44 = .ok (.newarray .int, 2) := by decide +kernel
theorem dX3_init_46 : decode cX3_init 46 = .ok (.putfield 25, 3) := by decide +kernel
theorem dX3_init_49 : decode cX3_init 49 = .ok (.return_, 1) := by decide +kernel
theorem dX0_init_0 : decode cX0_init 0 = .ok (.aload_n 0, 1) := by decide +kernel
theorem dX0_init_1 : decode cX0_init 1 = .ok (.invokespecial 3, 3) := by decide +kernel
theorem dX0_init_4 : decode cX0_init 4 = .ok (.aload_n 0, 1) := by decide +kernel
theorem dX0_init_5 : decode cX0_init 5 = .ok (.sipush 200, 3) := by decide +kernel
theorem dX0_init_8 : decode cX0_init 8 = .ok (.newarray .int, 2) := by decide +kernel
theorem dX0_init_10 : decode cX0_init 10 = .ok (.putfield 9, 3) := by decide +kernel
theorem dX0_init_13 : decode cX0_init 13 = .ok (.aload_n 0, 1) := by decide +kernel
theorem dX0_init_14 : decode cX0_init 14 = .ok (.sipush 200, 3) := by decide +kernel
theorem dX0_init_17 : decode cX0_init 17 = .ok (.newarray .int, 2) := by decide +kernel
theorem dX0_init_19 : decode cX0_init 19 = .ok (.putfield 15, 3) := by decide +kernel
theorem dX0_init_22 : decode cX0_init 22 = .ok (.aload_n 0, 1) := by decide +kernel
theorem dX0_init_23 : decode cX0_init 23 = .ok (.sipush 200, 3) := by decide +kernel
theorem dX0_init_26 : decode cX0_init 26 = .ok (.newarray .int, 2) := by decide +kernel
theorem dX0_init_28 : decode cX0_init 28 = .ok (.putfield 18, 3) := by decide +kernel
theorem dX0_init_31 : decode cX0_init 31 = .ok (.aload_n 0, 1) := by decide +kernel
theorem dX0_init_32 : decode cX0_init 32 = .ok (.aload_n 1, 1) := by decide +kernel
theorem dX0_init_33 : decode cX0_init 33 = .ok (.putfield 21, 3) := by decide +kernel
theorem dX0_init_36 : decode cX0_init 36 = .ok (.return_, 1) := by decide +kernel
theorem dX2_init_0 : decode cX2_init 0 = .ok (.aload_n 0, 1) := by decide +kernel
theorem dX2_init_1 : decode cX2_init 1 = .ok (.invokespecial 3, 3) := by decide +kernel
theorem dX2_init_4 : decode cX2_init 4 = .ok (.aload_n 0, 1) := by decide +kernel
theorem dX2_init_5 : decode cX2_init 5 = .ok (.bipush 60, 2) := by decide +kernel
theorem dX2_init_7 : decode cX2_init 7 = .ok (.newarray .int, 2) := by decide +kernel
theorem dX2_init_9 : decode cX2_init 9 = .ok (.putfield 9, 3) := by decide +kernel
theorem dX2_init_12 : decode cX2_init 12 = .ok (.aload_n 0, 1) := by decide +kernel
theorem dX2_init_13 : decode cX2_init 13 = .ok (.bipush 60, 2) := by decide +kernel
theorem dX2_init_15 : decode cX2_init 15 = .ok (.newarray .int, 2) := by decide +kernel
theorem dX2_init_17 : decode cX2_init 17 = .ok (.putfield 15, 3) := by decide +kernel
theorem dX2_init_20 : decode cX2_init 20 = .ok (.aload_n 0, 1) := by decide +kernel
theorem dX2_init_21 : decode cX2_init 21 = .ok (.bipush 60, 2) := by decide +kernel
theorem dX2_init_23 : decode cX2_init 23 = .ok (.newarray .int, 2) := by decide +kernel
theorem dX2_init_25 : decode cX2_init 25 = .ok (.putfield 18, 3) := by decide +kernel
theorem dX2_init_28 : decode cX2_init 28 = .ok (.aload_n 0, 1) := by decide +kernel
theorem dX2_init_29 : decode cX2_init 29 = .ok (.bipush 13, 2) := by decide +kernel
theorem dX2_init_31 : decode cX2_init 31 = .ok (.newarray .int, 2) := by decide +kernel
theorem dX2_init_33 : decode cX2_init 33 = .ok (.putfield 21, 3) := by decide +kernel
theorem dX2_init_36 : decode cX2_init 36 = .ok (.aload_n 0, 1) := by decide +kernel
theorem dX2_init_37 : decode cX2_init 37 = .ok (.bipush 13, 2) := by decide +kernel
theorem dX2_init_39 : decode cX2_init 39 = .ok (.newarray .int, 2) := by decide +kernel
theorem dX2_init_41 : decode cX2_init 41 = .ok (.putfield 24, 3) := by decide +kernel
theorem dX2_init_44 : decode cX2_init 44 = .ok (.aload_n 0, 1) := by decide +kernel
theorem dX2_init_45 : decode cX2_init 45 = .ok (.bipush 12, 2) := by decide +kernel
theorem dX2_init_47 : decode cX2_init 47 = .ok (.newarray .int, 2) := by decide +kernel
theorem dX2_init_49 : decode cX2_init 49 = .ok (.putfield 27, 3) := by decide +kernel
theorem dX2_init_52 : decode cX2_init 52 = .ok (.return_, 1) := by decide +kernel
theorem dX8_init_0 : decode cX8_init 0 = .ok (.aload_n 0, 1) := by decide +kernel
theorem dX8_init_1 : decode cX8_init 1 = .ok (.invokespecial 3, 3) := by decide +kernel
theorem dX8_init_4 : decode cX8_init 4 = .ok (.aload_n 0, 1) := by decide +kernel
theorem dX8_init_5 : decode cX8_init 5 = .ok (.bipush 8, 2) := by decide +kernel
theorem dX8_init_7 : decode cX8_init 7 = .ok (.newarray .int, 2) := by decide +kernel
theorem dX8_init_9 : decode cX8_init 9 = .ok (.putfield 9, 3) := by decide +kernel
theorem dX8_init_12 : decode cX8_init 12 = .ok (.aload_n 0, 1) := by decide +kernel
theorem dX8_init_13 : decode cX8_init 13 = .ok (.bipush 8, 2) := by decide +kernel
theorem dX8_init_15 : decode cX8_init 15 = .ok (.newarray .int, 2) := by decide +kernel
theorem dX8_init_17 : decode cX8_init 17 = .ok (.putfield 15, 3) := by decide +kernel
theorem dX8_init_20 : decode cX8_init 20 = .ok (.aload_n 0, 1) := by decide +kernel
theorem dX8_init_21 : decode cX8_init 21 = .ok (.sipush 208, 3) := by decide +kernel
theorem dX8_init_24 : decode cX8_init 24 = .ok (.newarray .int, 2) := by decide +kernel
theorem dX8_init_26 : decode cX8_init 26 = .ok (.putfield 18, 3) := by decide +kernel
theorem dX8_init_29 : decode cX8_init 29 = .ok (.return_, 1) := by decide +kernel
theorem dX12_init_0 : decode cX12_init 0 = .ok (.aload_n 0, 1) := by decide +kernel
theorem dX12_init_1 : decode cX12_init 1 = .ok (.invokespecial 1, 3) := by decide +kernel
theorem dX12_init_4 : decode cX12_init 4 = .ok (.aload_n 0, 1) := by decide +kernel
theorem dX12_init_5 : decode cX12_init 5 = .ok (.sipush 240, 3) := by decide +kernel
theorem dX12_init_8 : decode cX12_init 8 = .ok (.newarray .int, 2) := by decide +kernel
theorem dX12_init_10 : decode cX12_init 10 = .ok (.putfield 7, 3) := by decide +kernel
theorem dX12_init_13 : decode cX12_init 13 = .ok (.aload_n 0, 1) := by decide +kernel
theorem dX12_init_14 : decode cX12_init 14 = .ok (.bipush 12, 2) := by decide +kernel
theorem dX12_init_16 : decode cX12_init 16 = .ok (.newarray .int, 2) := by decide +kernel
theorem dX12_init_18 : decode cX12_init 18 = .ok (.putfield 13, 3) := by decide +kernel
theorem dX12_init_21 : decode cX12_init 21 = .ok (.aload_n 0, 1) := by decide +kernel
theorem dX12_init_22 : decode cX12_init 22 = .ok (.sipush 144, 3) := by decide +kernel
theorem dX12_init_25 : decode cX12_init 25 = .ok (.newarray .int, 2) := by decide +kernel
theorem dX12_init_27 : decode cX12_init 27 = .ok (.putfield 16, 3) := by decide +kernel
theorem dX12_init_30 : decode cX12_init 30 = .ok (.aload_n 0, 1) := by decide +kernel
theorem dX12_init_31 : decode cX12_init 31 = .ok (.sipush 200, 3) := by decide +kernel
theorem dX12_init_34 : decode cX12_init 34 = .ok (.newarray .int, 2) := by decide +kernel
theorem dX12_init_36 : decode cX12_init 36 = .ok (.putfield 19, 3) := by decide +kernel
theorem dX12_init_39 : decode cX12_init 39 = .ok (.aload_n 0, 1) := by decide +kernel
theorem dX12_init_40 : decode cX12_init 40 = .ok (.sipush 2400, 3) := by decide +kernel
theorem dX12_init_43 : decode cX12_init 43 = .ok (.newarray .int, 2) := by decide +kernel
theorem dX12_init_45 : decode cX12_init 45 = .ok (.putfield 22, 3) := by decide +kernel
theorem dX12_init_48 : decode cX12_init 48 = .ok (.aload_n 0, 1) := by decide +kernel
theorem dX12_init_49 : decode cX12_init 49 = .ok (.sipush 200, 3) := by decide +kernel
theorem dX12_init_52 : decode cX12_init 52 = .ok (.newarray .int, 2) := by decide +kernel
theorem dX12_init_54 : decode cX12_init 54 = .ok (.putfield 25, 3) := by decide +kernel
theorem dX12_init_57 : decode cX12_init 57 = .ok (.aload_n 0, 1) := by decide +kernel
theorem dX12_init_58 : decode cX12_init 58 = .ok (.bipush 7, 2) := by decide +kernel
theorem dX12_init_60 : decode cX12_init 60 = .ok (.newarray .int, 2) := by decide +kernel
theorem dX12_init_62 : decode cX12_init 62 = .ok (.putfield 28, 3) := by decide +kernel
theorem dX12_init_65 : decode cX12_init 65 = .ok (.aload_n 0, 1) := by decide +kernel
theorem dX12_init_66 : decode cX12_init 66 = .ok (.sipush 676, 3) := by decide +kernel
theorem dX12_init_69 : decode cX12_init 69 = .ok (.newarray .int, 2) := by decide +kernel
theorem dX12_init_71 : decode cX12_init 71 = .ok (.putfield 31, 3) := by decide +kernel
theorem dX12_init_74 : decode cX12_init 74 = .ok (.aload_n 0, 1) := by decide +kernel
theorem dX12_init_75 : decode cX12_init 75 = .ok (.bipush 26, 2) := by decide +kernel
theorem dX12_init_77 : decode cX12_init 77 = .ok (.newarray .int, 2) := by decide +kernel
theorem dX12_init_79 : decode cX12_init 79 = .ok (.putfield 34, 3) := by decide +kernel
theorem dX12_init_82 : decode cX12_init 82 = .ok (.aload_n 0, 1) := by decide +kernel
theorem dX12_init_83 : decode cX12_init 83 = .ok (.bipush 26, 2) := by decide +kernel
theorem dX12_init_85 : decode cX12_init 85 = .ok (.newarray .int, 2) := by decide +kernel
theorem dX12_init_87 : decode cX12_init 87 = .ok (.putfield 37, 3) := by decide +kernel
theorem dX12_init_90 : decode cX12_init 90 = .ok (.aload_n 0, 1) := by decide +kernel
theorem dX12_init_91 : decode cX12_init 91 = .ok (.bipush 60, 2) := by decide +kernel
theorem dX12_init_93 : decode cX12_init 93 = .ok (.putfield 40, 3) := by decide +kernel
theorem dX12_init_96 : decode cX12_init 96 = .ok (.aload_n 0, 1) := by decide +kernel
theorem dX12_init_97 : decode cX12_init 97 = .ok (.bipush 60, 2) := by decide +kernel
theorem dX12_init_99 : decode cX12_init 99 = .ok (.putfield 44, 3) := by decide +kernel
theorem dX12_init_102 : decode cX12_init 102 = .ok (.aload_n 0, 1) := by decide +kernel
theorem dX12_init_103 : decode cX12_init 103 = .ok (.bipush 20, 2) := by decide +kernel
theorem dX12_init_105 : decode cX12_init 105 = .ok (.newarray .int, 2) := by decide +kernel
theorem dX12_init_107 : decode cX12_init 107 = .ok (.putfield 47, 3) := by decide +kernel
theorem dX12_init_110 : decode cX12_init 110 = .ok (.aload_n 0, 1) := by decide +kernel
theorem dX12_init_111 : decode cX12_init 111 = .ok (.bipush 60, 2) := by decide +kernel
theorem dX12_init_113 : decode cX12_init 113 = .ok (.newarray .int, 2) := by decide +kernel
theorem dX12_init_115 : decode cX12_init 115 = .ok (.putfield 50, 3) := by decide +kernel
theorem dX12_init_118 : decode cX12_init 118 = .ok (.aload_n 0, 1) := by decide +kernel
theorem dX12_init_119 : decode cX12_init 119 = .ok (.bipush 20, 2) := by decide +kernel
theorem dX12_init_121 : decode cX12_init 121 = .ok (.newarray .int, 2) := by decide +kernel
theorem dX12_init_123 : decode cX12_init 123 = .ok (.putfield 53, 3) := by decide +kernel
theorem dX12_init_126 : decode cX12_init 126 = .ok (.aload_n 0, 1) := by decide +kernel
theorem dX12_init_127 : decode cX12_init 127 = .ok (.bipush 60, 2) := by decide +kernel
theorem dX12_init_129 : decode cX12_init 129 = .ok (.newarray .int, 2) := by decide +kernel
theorem dX12_init_131 : decode cX12_init 131 = .ok (.putfield 56, 3) := by decide +kernel
theorem dX12_init_134 : decode cX12_init 134 = .ok (.aload_n 0, 1) := by decide +kernel
theorem dX12_init_135 : decode cX12_init 135 = .ok (.bipush 20, 2) := by decide +kernel
theorem dX12_init_137 : decode cX12_init 137 = .ok (.newarray .int, 2) := by decide +kernel
theorem dX12_init_139 : decode cX12_init 139 = .ok (.putfield 59, 3) := by decide +kernel
theorem dX12_init_142 : decode cX12_init 142 = .ok (.aload_n 0, 1) := by decide +kernel
theorem dX12_init_143 : decode cX12_init 143 = .ok (.bipush 12, 2) := by decide +kernel
theorem dX12_init_145 : decode cX12_init 145 = .ok (.newarray .int, 2) := by decide +kernel
theorem dX12_init_147 : decode cX12_init 147 = .ok (.putfield 62, 3) := by decide +kernel
theorem dX12_init_150 : decode cX12_init 150 = .ok (.aload_n 0, 1) := by decide +kernel
theorem dX12_init_151 : decode cX12_init 151 = .ok (.bipush 12, 2) := by decide +kernel
theorem dX12_init_153 : decode cX12_init 153 = .ok (.newarray .int, 2) := by decide +kernel
theorem dX12_init_155 : decode cX12_init 155 = .ok (.putfield 65, 3) := by decide +kernel
theorem dX12_init_158 : decode cX12_init 158 = .ok (.aload_n 0, 1) := by decide +kernel
theorem dX12_init_159 : decode cX12_init 159 = .ok (.sipush 169, 3) := by decide +kernel
theorem dX12_init_162 : decode cX12_init 162 = .ok (.newarray .int, 2) := by decide +kernel
theorem dX12_init_164 : decode cX12_init 164 = .ok (.putfield 68, 3) := by decide +kernel
theorem dX12_init_167 : decode cX12_init 167 = .ok (.aload_n 0, 1) := by decide +kernel
theorem dX12_init_168 : decode cX12_init 168 = .ok (.bipush 24, 2) := by decide +kernel
theorem dX12_init_170 : decode cX12_init 170 = .ok (.newarray .int, 2) := by decide +kernel
theorem dX12_init_172 : decode cX12_init 172 = .ok (.putfield 71, 3) := by decide +kernel
theorem dX12_init_175 : decode cX12_init 175 = .ok (.aload_n 0, 1) := by decide +kernel
theorem dX12_init_176 : decode cX12_init 176 = .ok (.bipush 24, 2) := by decide +kernel
theorem dX12_init_178 : decode cX12_init 178 = .ok (.newarray .int, 2) := by decide +kernel
theorem dX12_init_180 : decode cX12_init 180 = .ok (.putfield 74, 3) := by decide +kernel
theorem dX12_init_183 : decode cX12_init 183 = .ok (.aload_n 0, 1) := by decide +kernel
theorem dX12_init_184 : decode cX12_init 184 = .ok (.bipush 24, 2) := by decide +kernel
theorem dX12_init_186 : decode cX12_init 186 = .ok (.newarray .int, 2) := by decide +kernel
theorem dX12_init_188 : decode cX12_init 188 = .ok (.putfield 77, 3) := by decide +kernel
theorem dX12_init_191 : decode cX12_init 191 = .ok (.aload_n 0, 1) := by decide +kernel
theorem dX12_init_192 : decode cX12_init 192 = .ok (.bipush 24, 2) := by decide +kernel
theorem dX12_init_194 : decode cX12_init 194 = .ok (.newarray .int, 2) := by decide +kernel
theorem dX12_init_196 : decode cX12_init 196 = .ok (.putfield 80, 3) := by decide +kernel
theorem dX12_init_199 : decode cX12_init 199 = .ok (.aload_n 0, 1) := by decide +kernel
theorem dX12_init_200 : decode cX12_init 200 = .ok (.bipush 24, 2) := by decide +kernel
theorem dX12_init_202 : decode cX12_init 202 = .ok (.newarray .int, 2) := by decide +kernel
theorem dX12_init_204 : decode cX12_init 204 = .ok (.putfield 83, 3) := by decide +kernel
theorem dX12_init_207 : decode cX12_init 207 = .ok (.aload_n 0, 1) := by decide +kernel
theorem dX12_init_208 : decode cX12_init 208 = .ok (.iconst (-1), 1) := by decide +kernel
theorem dX12_init_209 : decode cX12_init 209 = .ok (.putfield 86, 3) := by decide +kernel
theorem dX12_init_212 : decode cX12_init 212 = .ok (.aload_n 0, 1) := by decide +kernel
theorem dX12_init_213 : decode cX12_init 213 = .ok (.bipush 24, 2) := by decide +kernel
theorem dX12_init_215 : decode cX12_init 215 = .ok (.newarray .int, 2) := by decide +kernel
theorem dX12_init_217 : decode cX12_init 217 = .ok (.putfield 89, 3) := by decide +kernel
theorem dX12_init_220 : decode cX12_init 220 = .ok (.aload_n 0, 1) := by decide +kernel
theorem dX12_init_221 : decode cX12_init 221 = .ok (.bipush 24, 2) := by decide +kernel
theorem dX12_init_223 : decode cX12_init 223 = .ok (.newarray .int, 2) := by decide +kernel
theorem dX12_init_225 : decode cX12_init 225 = .ok (.putfield 92, 3) := by decide +kernel
theorem dX12_init_228 : decode cX12_init 228 = .ok (.aload_n 0, 1) := by decide +kernel
theorem dX12_init_229 : decode cX12_init 229 = .ok (.bipush 24, 2) := by decide +kernel
theorem dX12_init_231 : decode cX12_init 231 = .ok (.newarray .int, 2) := by decide +kernel
theorem dX12_init_233 : decode cX12_init 233 = .ok (.putfield 95, 3) := by decide +kernel
theorem dX12_init_236 : decode cX12_init 236 = .ok (.aload_n 0, 1) := by decide +kernel
theorem dX12_init_237 : decode cX12_init 237 = .ok (.bipush 24, 2) := by decide +kernel
theorem dX12_init_239 : decode cX12_init 239 = .ok (.newarray .int, 2) := by decide +kernel
theorem dX12_init_241 : decode cX12_init 241 = .ok (.putfield 98, 3) := by decide +kernel
theorem dX12_init_244 : decode cX12_init 244 = .ok (.aload_n 0, 1) := by decide +kernel
theorem dX12_init_245 : decode cX12_init 245 = .ok (.bipush 24, 2) := by decide +kernel
theorem dX12_init_247 : decode cX12_init 247 = .ok (.newarray .int, 2) := by decide +kernel
theorem dX12_init_249 : decode cX12_init 249 = .ok (.putfield 101, 3) := by decide +kernel
theorem dX12_init_252 : decode cX12_init 252 = .ok (.aload_n 0, 1) := by decide +kernel
theorem dX12_init_253 : decode cX12_init 253 = .ok (.sipush 2401, 3) := by decide +kernel
theorem dX12_init_256 : decode cX12_init 256 = .ok (.newarray .int, 2) := by decide +kernel
theorem dX12_init_258 : decode cX12_init 258 = .ok (.putfield 104, 3) := by decide +kernel
theorem dX12_init_261 : decode cX12_init 261 = .ok (.aload_n 0, 1) := by decide +kernel
theorem dX12_init_262 : decode cX12_init 262 = .ok (.sipush 2401, 3) := by decide +kernel
theorem dX12_init_265 : decode cX12_init 265 = .ok (.newarray .int, 2) := by decide +kernel
theorem dX12_init_267 : decode cX12_init 267 = .ok (.putfield 107, 3) := by decide +kernel
theorem dX12_init_270 : decode cX12_init 270 = .ok (.aload_n 0, 1) := by decide +kernel
theorem dX12_init_271 : decode cX12_init 271 = .ok (.sipush 2401, 3) := by decide +kernel
theorem dX12_init_274 : decode cX12_init 274 = .ok (.newarray .int, 2) := by decide +kernel
theorem dX12_init_276 : decode cX12_init 276 = .ok (.putfield 110, 3) := by decide +kernel
theorem dX12_init_279 : decode cX12_init 279 = .ok (.aload_n 0, 1) := by decide +kernel
theorem dX12_init_280 : decode cX12_init 280 = .ok (.sipush 2401, 3) := by decide +kernel
theorem dX12_init_283 : decode cX12_init 283 = .ok (.newarray .int, 2) := by decide +kernel
theorem dX12_init_285 : decode cX12_init 285 = .ok (.putfield 113, 3) := by decide +kernel
theorem dX12_init_288 : decode cX12_init 288 = .ok (.aload_n 0, 1) := by decide +kernel
theorem dX12_init_289 : decode cX12_init 289 = .ok (.sipush 2401, 3) := by decide +kernel
theorem dX12_init_292 : decode cX12_init 292 = .ok (.newarray .int, 2) := by decide +kernel
theorem dX12_init_294 : decode cX12_init 294 = .ok (.putfield 116, 3) := by decide +kernel
theorem dX12_init_297 : decode cX12_init 297 = .ok (.aload_n 0, 1) := by decide +kernel
theorem dX12_init_298 : decode cX12_init 298 = .ok (.sipush 31213, 3) := by decide +kernel
theorem dX12_init_301 : decode cX12_init 301 = .ok (.newarray .int, 2) := by decide +kernel
theorem dX12_init_303 : decode cX12_init 303 = .ok (.putfield 119, 3) := by decide +kernel
theorem dX12_init_306 : decode cX12_init 306 = .ok (.aload_n 0, 1) := by decide +kernel
theorem dX12_init_307 : decode cX12_init 307 = .ok (.sipush 169, 3) := by decide +kernel
theorem dX12_init_310 : decode cX12_init 310 = .ok (.newarray .int, 2) := by decide +kernel
theorem dX12_init_312 : decode cX12_init 312 = .ok (.putfield 122, 3) := by decide +kernel
theorem dX12_init_315 : decode cX12_init 315 = .ok (.aload_n 0, 1) := by decide +kernel
theorem dX12_init_316 : decode cX12_init 316 = .ok (.bipush 13, 2) := by decide +kernel
theorem dX12_init_318 : decode cX12_init 318 = .ok (.newarray .int, 2) := by decide +kernel
theorem dX12_init_320 : decode cX12_init 320 = .ok (.putfield 125, 3) := by decide +kernel
theorem dX12_init_323 : decode cX12_init 323 = .ok (.aload_n 0, 1) := by decide +kernel
theorem dX12_init_324 : decode cX12_init 324 = .ok (.bipush 13, 2) := by decide +kernel
theorem dX12_init_326 : decode cX12_init 326 = .ok (.newarray .int, 2) := by decide +kernel
theorem dX12_init_328 : decode cX12_init 328 = .ok (.putfield 128, 3) := by decide +kernel
theorem dX12_init_331 : decode cX12_init 331 = .ok (.aload_n 0, 1) := by decide +kernel
theorem dX12_init_332 : decode cX12_init 332 = .ok (.bipush 13, 2) := by decide +kernel
theorem dX12_init_334 : decode cX12_init 334 = .ok (.newarray .int, 2) := by decide +kernel
theorem dX12_init_336 : decode cX12_init 336 = .ok (.putfield 131, 3) := by decide +kernel
theorem dX12_init_339 : decode cX12_init 339 = .ok (.aload_n 0, 1) := by decide +kernel
theorem dX12_init_340 : decode cX12_init 340 = .ok (.bipush 13, 2) := by decide +kernel
theorem dX12_init_342 : decode cX12_init 342 = .ok (.newarray .int, 2) := by decide +kernel
theorem dX12_init_344 : decode cX12_init 344 = .ok (.putfield 134, 3) := by decide +kernel
theorem dX12_init_347 : decode cX12_init 347 = .ok (.aload_n 0, 1) := by decide +kernel
theorem dX12_init_348 : decode cX12_init 348 = .ok (.sipush 200, 3) := by decide +kernel
theorem dX12_init_351 : decode cX12_init 351 = .ok (.newarray .int, 2) := by decide +kernel
theorem dX12_init_353 : decode cX12_init 353 = .ok (.putfield 137, 3) := by decide +kernel
theorem dX12_init_356 : decode cX12_init 356 = .ok (.aload_n 0, 1) := by decide +kernel
theorem dX12_init_357 : decode cX12_init 357 = .ok (.sipush 200, 3) := by decide +kernel
theorem dX12_init_360 : decode cX12_init 360 = .ok (.newarray .int, 2) := by decide +kernel
theorem dX12_init_362 : decode cX12_init 362 = .ok (.putfield 140, 3) := by decide +kernel
theorem dX12_init_365 : decode cX12_init 365 = .ok (.aload_n 0, 1) := by decide +kernel
theorem dX12_init_366 : decode cX12_init 366 = .ok (.sipush 200, 3) := by decide +kernel
theorem dX12_init_369 : decode cX12_init 369 = .ok (.newarray .int, 2) := by decide +kernel
theorem dX12_init_371 : decode cX12_init 371 = .ok (.putfield 143, 3) := by decide +kernel
theorem dX12_init_374 : decode cX12_init 374 = .ok (.aload_n 0, 1) := by decide +kernel
theorem dX12_init_375 : decode cX12_init 375 = .ok (.sipush 200, 3) := by decide +kernel
theorem dX12_init_378 : decode cX12_init 378 = .ok (.newarray .int, 2) := by decide +kernel
theorem dX12_init_380 : decode cX12_init 380 = .ok (.putfield 146, 3) := by decide +kernel
theorem dX12_init_383 : decode cX12_init 383 = .ok (.aload_n 0, 1) := by decide +kernel
theorem dX12_init_384 : decode cX12_init 384 = .ok (.sipush 200, 3) := by decide +kernel
theorem dX12_init_387 : decode cX12_init 387 = .ok (.newarray .int, 2) := by decide +kernel
theorem dX12_init_389 : decode cX12_init 389 = .ok (.putfield 149, 3) := by decide +kernel
theorem dX12_init_392 : decode cX12_init 392 = .ok (.aload_n 0, 1) := by decide +kernel
theorem dX12_init_393 : decode cX12_init 393 = .ok (.sipush 200, 3) := by decide +kernel
theorem dX12_init_396 : decode cX12_init 396 = .ok (.newarray .int, 2) := by decide +kernel
theorem dX12_init_398 : decode cX12_init 398 = .ok (.putfield 152, 3) := by decide +kernel
theorem dX12_init_401 : decode cX12_init 401 = .ok (.aload_n 0, 1) := by decide +kernel
theorem dX12_init_402 : decode cX12_init 402 = .ok (.bipush 40, 2) := by decide +kernel
theorem dX12_init_404 : decode cX12_init 404 = .ok (.newarray .int, 2) := by decide +kernel
theorem dX12_init_406 : decode cX12_init 406 = .ok (.putfield 155, 3) := by decide +kernel
theorem dX12_init_409 : decode cX12_init 409 = .ok (.aload_n 0, 1) := by decide +kernel
theorem dX12_init_410 : decode cX12_init 410 = .ok (.sipush 480, 3) := by decide +kernel
theorem dX12_init_413 : decode cX12_init 413 = .ok (.newarray .int, 2) := by decide +kernel
theorem dX12_init_415 : decode cX12_init 415 = .ok (.putfield 158, 3) := by decide +kernel
theorem dX12_init_418 : decode cX12_init 418 = .ok (.aload_n 0, 1) := by decide +kernel
theorem dX12_init_419 : decode cX12_init 419 = .ok (.bipush 40, 2) := by decide +kernel
theorem dX12_init_421 : decode cX12_init 421 = .ok (.newarray .int, 2) := by decide +kernel
theorem dX12_init_423 : decode cX12_init 423 = .ok (.putfield 161, 3) := by decide +kernel
theorem dX12_init_426 : decode cX12_init 426 = .ok (.aload_n 0, 1) := by decide +kernel
theorem dX12_init_427 : decode cX12_init 427 = .ok (.sipush 480, 3) := by decide +kernel
theorem dX12_init_430 : decode cX12_init 430 = .ok (.newarray .int, 2) := by decide +kernel
theorem dX12_init_432 : decode cX12_init 432 = .ok (.putfield 164, 3) := by decide +kernel
theorem dX12_init_435 : decode cX12_init 435 = .ok (.aload_n 0, 1) := by decide +kernel
theorem dX12_init_436 : decode cX12_init 436 = .ok (.bipush 40, 2) := by decide +kernel
theorem dX12_init_438 : decode cX12_init 438 = .ok (.newarray .int, 2) := by decide +kernel
theorem dX12_init_440 : decode cX12_init 440 = .ok (.putfield 167, 3) := by decide +kernel
theorem dX12_init_443 : decode cX12_init 443 = .ok (.aload_n 0, 1) := by decide +kernel
theorem dX12_init_444 : decode cX12_init 444 = .ok (.sipush 960, 3) := by decide +kernel
theorem dX12_init_447 : decode cX12_init 447 = .ok (.newarray .int, 2) := by decide +kernel
theorem dX12_init_449 : decode cX12_init 449 = .ok (.putfield 170, 3) := by decide +kernel
theorem dX12_init_452 : decode cX12_init 452 = .ok (.aload_n 0, 1) := by decide +kernel
theorem dX12_init_453 : decode cX12_init 453 = .ok (.bipush 7, 2) := by decide +kernel
theorem dX12_init_455 : decode cX12_init 455 = .ok (.newarray .int, 2) := by decide +kernel
theorem dX12_init_457 : decode cX12_init 457 = .ok (.putfield 173, 3) := by decide +kernel
theorem dX12_init_460 : decode cX12_init 460 = .ok (.aload_n 0, 1) := by decide +kernel
theorem dX12_init_461 : decode cX12_init 461 = .ok (.iconst (-1), 1) := by decide +kernel
theorem dX12_init_462 : decode cX12_init 462 = .ok (.putfield 176, 3) := by decide +kernel
theorem dX12_init_465 : decode cX12_init 465 = .ok (.aload_n 0, 1) := by decide +kernel
theorem dX12_init_466 : decode cX12_init 466 = .ok (.bipush 12, 2) := by decide +kernel
theorem dX12_init_468 : decode cX12_init 468 = .ok (.newarray .int, 2) := by decide +kernel
theorem dX12_init_470 : decode cX12_init 470 = .ok (.putfield 179, 3) := by decide +kernel
theorem dX12_init_473 : decode cX12_init 473 = .ok (.aload_n 0, 1) := by decide +kernel
theorem dX12_init_474 : decode cX12_init 474 = .ok (.bipush 12, 2) := by decide +kernel
theorem dX12_init_476 : decode cX12_init 476 = .ok (.newarray .int, 2) := by decide +kernel
theorem dX12_init_478 : decode cX12_init 478 = .ok (.putfield 182, 3) := by decide +kernel
theorem dX12_init_481 : decode cX12_init 481 = .ok (.aload_n 0, 1) := by decide +kernel
theorem dX12_init_482 : decode cX12_init 482 = .ok (.bipush 12, 2) := by decide +kernel
theorem dX12_init_484 : decode cX12_init 484 = .ok (.newarray .int, 2) := by decide +kernel
theorem dX12_init_486 : decode cX12_init 486 = .ok (.putfield 185, 3) := by decide +kernel
theorem dX12_init_489 : decode cX12_init 489 = .ok (.aload_n 0, 1) := by decide +kernel
theorem dX12_init_490 : decode cX12_init 490 = .ok (.bipush 12, 2) := by decide +kernel
theorem dX12_init_492 : decode cX12_init 492 = .ok (.newarray .int, 2) := by decide +kernel
theorem dX12_init_494 : decode cX12_init 494 = .ok (.putfield 188, 3) := by decide +kernel
theorem dX12_init_497 : decode cX12_init 497 = .ok (.aload_n 0, 1) := by decide +kernel
theorem dX12_init_498 : decode cX12_init 498 = .ok (.bipush 12, 2) := by decide +kernel
theorem dX12_init_500 : decode cX12_init 500 = .ok (.newarray .int, 2) := by decide +kernel
theorem dX12_init_502 : decode cX12_init 502 = .ok (.putfield 191, 3) := by decide +kernel
theorem dX12_init_505 : decode cX12_init 505 = .ok (.aload_n 0, 1) := by decide +kernel
theorem dX12_init_506 : decode cX12_init 506 = .ok (.bipush 13, 2) := by decide +kernel
theorem dX12_init_508 : decode cX12_init 508 = .ok (.newarray .int, 2) := by decide +kernel
theorem dX12_init_510 : decode cX12_init 510 = .ok (.putfield 194, 3) := by decide +kernel
theorem dX12_init_513 : decode cX12_init 513 = .ok (.aload_n 0, 1) := by decide +kernel
theorem dX12_init_514 : decode cX12_init 514 = .ok (.bipush 12, 2) := by decide +kernel
theorem dX12_init_516 : decode cX12_init 516 = .ok (.newarray .int, 2) := by decide +kernel
theorem dX12_init_518 : decode cX12_init 518 = .ok (.putfield 197, 3) := by decide +kernel
theorem dX12_init_521 : decode cX12_init 521 = .ok (.aload_n 0, 1) := by decide +kernel
theorem dX12_init_522 : decode cX12_init 522 = .ok (.bipush 12, 2) := by decide +kernel
theorem dX12_init_524 : decode cX12_init 524 = .ok (.newarray .int, 2) := by decide +kernel
theorem dX12_init_526 : decode cX12_init 526 = .ok (.putfield 200, 3) := by decide +kernel
theorem dX12_init_529 : decode cX12_init 529 = .ok (.aload_n 0, 1) := by decide +kernel
theorem dX12_init_530 : decode cX12_init 530 = .ok (.bipush 8, 2) := by decide +kernel
theorem dX12_init_532 : decode cX12_init 532 = .ok (.newarray .int, 2) := by decide +kernel
theorem dX12_init_534 : decode cX12_init 534 = .ok (.putfield 203, 3) := by decide +kernel
theorem dX12_init_537 : decode cX12_init 537 = .ok (.aload_n 0, 1) := by decide +kernel
theorem dX12_init_538 : decode cX12_init 538 = .ok (.bipush 8, 2) := by decide +kernel
theorem dX12_init_540 : decode cX12_init 540 = .ok (.newarray .int, 2) := by decide +kernel
theorem dX12_init_542 : decode cX12_init 542 = .ok (.putfield 206, 3) := by decide +kernel
theorem dX12_init_545 : decode cX12_init 545 = .ok (.aload_n 0, 1) := by decide +kernel
theorem dX12_init_546 : decode cX12_init 546 = .ok (.sipush 208, 3) := by decide +kernel
theorem dX12_init_549 : decode cX12_init 549 = .ok (.newarray .int, 2) := by decide +kernel
theorem dX12_init_551 : decode cX12_init 551 = .ok (.putfield 209, 3) := by decide +kernel
theorem dX12_init_554 : decode cX12_init 554 = .ok (.aload_n 0, 1) := by decide +kernel
theorem dX12_init_555 : decode cX12_init 555 = .ok (.bipush 24, 2) := by decide +kernel
theorem dX12_init_557 : decode cX12_init 557 = .ok (.newarray .int, 2) := by decide +kernel
theorem dX12_init_559 : decode cX12_init 559 = .ok (.putfield 212, 3) := by decide +kernel
theorem dX12_init_562 : decode cX12_init 562 = .ok (.iconst 1, 1) := by decide +kernel
theorem dX12_init_563 : decode cX12_init 563 = .ok (.istore_n 1, 1) := by decide +kernel
theorem dX12_init_564 : decode cX12_init 564 = .ok (.iload_n 1, 1) := by decide +kernel
theorem dX12_init_565 : decode cX12_init 565 = .ok (.bipush 6, 2) := by decide +kernel
theorem dX12_init_567 : decode cX12_init 567 = .ok (.if_icmp .gt 17, 3) := by decide +kernel
theorem dX12_init_570 : decode cX12_init 570 = .ok (.aload_n 0, 1) := by decide +kernel
theorem dX12_init_571 : decode cX12_init 571 = .ok (.getfield 28, 3) := by decide +kernel
theorem dX12_init_574 : decode cX12_init 574 = .ok (.iload_n 1, 1) := by decide +kernel
theorem dX12_init_575 : decode cX12_init 575 = .ok (.bipush 100, 2) := by decide +kernel
theorem dX12_init_577 : decode cX12_init 577 = .ok (.iastore, 1) := by decide +kernel
theorem dX12_init_578 : decode cX12_init 578 = .ok (.iinc 1 1, 3) := by decide +kernel
theorem dX12_init_581 : decode cX12_init 581 = .ok (.goto (-17), 3) := by decide +kernel
theorem dX12_init_584 : decode cX12_init 584 = .ok (.return_, 1) := by decide +kernel
def uji_Tape_2 (h : xH) : xH := xup h 2 0 3
theorem zji_Tape_2 {h : xH} (hz : ∀ o j : Int, 2 < o → h o j = 0) : ∀ o j : Int, 3 < o → uji_Tape_2 h o j = 0 := fun o j ho => by
  unfold uji_Tape_2
  rw [xup_row (by omega)]
  exact hz o j (by omega)
theorem rji_Tape_2 {h : xH} {o : Int} (ho : o < 2) : uji_Tape_2 h o = h o := by
  unfold uji_Tape_2
  rw [xup_row (by omega)]
theorem ji_Tape_2 {h : xH} (hz : ∀ o j : Int, 2 < o → h o j = 0) : J mX7_init false 1 240 0 2 (xen 0 [xR 2]) [] h (fun r n' h' => r = none ∧ n' = 3 ∧ h' = uji_Tape_2 h) := by
  refine J_cong (ls2 := [(0, xR 2)]) (st2 := []) rfl rfl ?_
  refine J_aload_n 0 dX7_init_0 rfl rfl ?_
  refine J_obj dX7_init_1 ⟨xq154, xq147, xq148⟩ (xbl rfl) (xbl rfl) ?_
  refine J_aload_n 0 dX7_init_4 rfl rfl ?_
  refine J_sip dX7_init_5 (by decide) ?_
  refine J_newa (rc2 := 0) (rs2 := 0) dX7_init_8 xq163 (by decide +kernel) (by decide +kernel) (by decide +kernel) (fun j => hz 3 j (by decide)) rfl rfl ?_
  refine J_n (m := 3) rfl ?_
  have hz3 : ∀ o j : Int, 3 < o → h o j = 0 := fun o j ho => hz o j (by omega)
  refine J_cong (st2 := [xR 3, xR 2]) rfl rfl ?_
  obtain ⟨h1, eh1⟩ : ∃ x : xH, x = xup h 2 0 3 := ⟨_, rfl⟩
  refine J_putR (j := 0) xcf7 dX7_init_10 rfl rfl (by decide) kO2 xq155 (by decide) (by decide) (fun _ => ⟨rfl, rfl⟩) (by decide) eh1 ?_
  have zh1 : ∀ o j : Int, 3 < o → h1 o j = 0 := fun o j ho => by rw [eh1, xup_row (by omega)]; exact hz3 o j ho
  exact J_rt dX7_init_13 rfl ⟨rfl, rfl, by rw [eh1]; rfl⟩
def uji_Rows_5 (h : xH) : xH := xup (xup h 5 0 6) 5 1 7
theorem zji_Rows_5 {h : xH} (hz : ∀ o j : Int, 5 < o → h o j = 0) : ∀ o j : Int, 7 < o → uji_Rows_5 h o j = 0 := fun o j ho => by
  unfold uji_Rows_5
  rw [xup_row (by omega)]
  rw [xup_row (by omega)]
  exact hz o j (by omega)
theorem rji_Rows_5 {h : xH} {o : Int} (ho : o < 5) : uji_Rows_5 h o = h o := by
  unfold uji_Rows_5
  rw [xup_row (by omega), xup_row (by omega)]
theorem ji_Rows_5 {h : xH} (hz : ∀ o j : Int, 5 < o → h o j = 0) : J mX5_init false 2 2600 0 5 (xen 0 [xR 5, xI 200]) [] h (fun r n' h' => r = none ∧ n' = 7 ∧ h' = uji_Rows_5 h) := by
  refine J_cong (ls2 := [(0, xR 5), (1, xI 200)]) (st2 := []) rfl rfl ?_
  refine J_aload_n 0 dX5_init_0 rfl rfl ?_
  refine J_obj dX5_init_1 ⟨xq175, xq147, xq148⟩ (xbl rfl) (xbl rfl) ?_
  refine J_iload_n 1 dX5_init_4 rfl rfl ?_
  refine J_iconst dX5_init_5 (by decide) ?_
  refine J_mmax dX5_init_6 ⟨xq176, xq177, xq129, xq178⟩ (xbl rfl) (xbl rfl) ?_
  refine J_cong (st2 := [xI 200]) rfl (by decide +kernel) ?_
  refine J_istore_n (y := 200) (ls' := [(2, xI 200), (0, xR 5), (1, xI 200)]) dX5_init_9 rfl (by decide) (by decide) rfl ?_
  refine J_aload_n 1 dX5_init_10 rfl rfl ?_
  refine J_iload_n 0 dX5_init_11 rfl rfl ?_
  refine J_bip dX5_init_12 (by decide) ?_
  refine J_imul dX5_init_14 ?_
  refine J_cong (st2 := [xI 2400, xR 5]) rfl (by decide +kernel) ?_
  refine J_newa (rc2 := 1) (rs2 := 200) dX5_init_15 xq163 (by decide +kernel) (by decide +kernel) (by decide +kernel) (fun j => hz 6 j (by decide)) rfl rfl ?_
  refine J_n (m := 6) rfl ?_
  have hz6 : ∀ o j : Int, 6 < o → h o j = 0 := fun o j ho => hz o j (by omega)
  refine J_cong (st2 := [xR 6, xR 5]) rfl rfl ?_
  refine J_pc (pc2 := 17) rfl ?_
  obtain ⟨h1, eh1⟩ : ∃ x : xH, x = xup h 5 0 6 := ⟨_, rfl⟩
  refine J_putR (j := 0) xcf5 dX5_init_17 rfl rfl (by decide) kO5 xq179 (by decide) (by decide) (fun _ => ⟨rfl, rfl⟩) (by decide) eh1 ?_
  have zh1 : ∀ o j : Int, 6 < o → h1 o j = 0 := fun o j ho => by rw [eh1, xup_row (by omega)]; exact hz6 o j ho
  refine J_aload_n 1 dX5_init_20 rfl rfl ?_
  refine J_iload_n 0 dX5_init_21 rfl rfl ?_
  refine J_newa (rc2 := 0) (rs2 := 0) dX5_init_22 xq163 (by decide +kernel) (by decide +kernel) (by decide +kernel) (fun j => zh1 7 j (by decide)) rfl rfl ?_
  refine J_n (m := 7) rfl ?_
  have hz7 : ∀ o j : Int, 7 < o → h1 o j = 0 := fun o j ho => zh1 o j (by omega)
  refine J_cong (st2 := [xR 7, xR 5]) rfl rfl ?_
  obtain ⟨h2, eh2⟩ : ∃ x : xH, x = xup h1 5 1 7 := ⟨_, rfl⟩
  refine J_putR (j := 1) xcf5 dX5_init_24 rfl rfl (by decide) kO5 xq180 (by decide) (by decide) (fun _ => ⟨rfl, rfl⟩) (by decide) eh2 ?_
  have zh2 : ∀ o j : Int, 7 < o → h2 o j = 0 := fun o j ho => by rw [eh2, xup_row (by omega)]; exact hz7 o j ho
  exact J_rt dX5_init_27 rfl ⟨rfl, rfl, by rw [eh2, eh1]; rfl⟩
def uji_Lex_4 (h : xH) : xH := xup (xup (uji_Rows_5 h) 4 0 5) 4 1 8
theorem zji_Lex_4 {h : xH} (hz : ∀ o j : Int, 4 < o → h o j = 0) : ∀ o j : Int, 8 < o → uji_Lex_4 h o j = 0 := fun o j ho => by
  unfold uji_Lex_4
  rw [xup_row (by omega)]
  rw [xup_row (by omega)]
  refine zji_Rows_5 (fun o j ho => ?_) o j (by omega)
  exact hz o j (by omega)
theorem rji_Lex_4 {h : xH} {o : Int} (ho : o < 4) : uji_Lex_4 h o = h o := by
  unfold uji_Lex_4
  rw [xup_row (by omega), xup_row (by omega), rji_Rows_5 (by omega)]
theorem ji_Lex_4 {h : xH} (hz : ∀ o j : Int, 4 < o → h o j = 0) : J mX1_init false 4 2803 0 4 (xen 0 [xR 4]) [] h (fun r n' h' => r = none ∧ n' = 8 ∧ h' = uji_Lex_4 h) := by
  refine J_cong (ls2 := [(0, xR 4)]) (st2 := []) rfl rfl ?_
  refine J_aload_n 0 dX1_init_0 rfl rfl ?_
  refine J_obj dX1_init_1 ⟨xq169, xq147, xq148⟩ (xbl rfl) (xbl rfl) ?_
  refine J_aload_n 0 dX1_init_4 rfl rfl ?_
  refine J_new (rc2 := 3) (rs2 := 2800) xcf5 (by decide +kernel) dX1_init_5 xq170 xq171 xq128 (by decide +kernel) (fun j => hz 5 j (by decide)) rfl rfl ?_
  refine J_n (m := 5) rfl ?_
  have hz5 : ∀ o j : Int, 5 < o → h o j = 0 := fun o j ho => hz o j (by omega)
  refine J_cong (st2 := [xR 5, xR 4]) rfl rfl ?_
  refine J_dup dX1_init_8 rfl ?_
  refine J_sip dX1_init_9 (by decide) ?_
  obtain ⟨h1, eh1⟩ : ∃ x : xH, x = uji_Rows_5 h := ⟨_, rfl⟩
  refine J_cI (Mc := mX5_init) (n2 := 7) (h2 := h1) (rc2 := 1) (rs2 := 200) [xI 200] dX1_init_12 ((fc_Rows_init).fit ⟨xbl rfl, xbl rfl⟩) rfl ⟨Or.inr ⟨_, xq172⟩, rfl, xq173, rfl⟩ rfl (xbl rfl) (xbl rfl) ⟨rfl, rfl⟩ (by rw [eh1]; exact ji_Rows_5 hz5) ?_
  have zh1 : ∀ o j : Int, 7 < o → h1 o j = 0 := fun o j ho => by rw [eh1]; exact zji_Rows_5 hz5 o j ho
  obtain ⟨h2, eh2⟩ : ∃ x : xH, x = xup h1 4 0 5 := ⟨_, rfl⟩
  refine J_putR (j := 0) xcf1 dX1_init_15 rfl rfl (by decide) kO4 xq194 (by decide) (by decide) (fun _ => ⟨rfl, rfl⟩) (by decide) eh2 ?_
  have zh2 : ∀ o j : Int, 7 < o → h2 o j = 0 := fun o j ho => by rw [eh2, xup_row (by omega)]; exact zh1 o j ho
  refine J_aload_n 0 dX1_init_18 rfl rfl ?_
  refine J_sip dX1_init_19 (by decide) ?_
  refine J_newa (rc2 := 0) (rs2 := 0) dX1_init_22 xq163 (by decide +kernel) (by decide +kernel) (by decide +kernel) (fun j => zh2 8 j (by decide)) rfl rfl ?_
  refine J_n (m := 8) rfl ?_
  have hz8 : ∀ o j : Int, 8 < o → h2 o j = 0 := fun o j ho => zh2 o j (by omega)
  refine J_cong (st2 := [xR 8, xR 4]) rfl rfl ?_
  refine J_pc (pc2 := 24) rfl ?_
  obtain ⟨h3, eh3⟩ : ∃ x : xH, x = xup h2 4 1 8 := ⟨_, rfl⟩
  refine J_putR (j := 1) xcf1 dX1_init_24 rfl rfl (by decide) kO4 xq198 (by decide) (by decide) (fun _ => ⟨rfl, rfl⟩) (by decide) eh3 ?_
  have zh3 : ∀ o j : Int, 8 < o → h3 o j = 0 := fun o j ho => by rw [eh3, xup_row (by omega)]; exact hz8 o j ho
  exact J_rt dX1_init_27 rfl ⟨rfl, rfl, by rw [eh3, eh2, eh1]; rfl⟩
def uji_Rows_14 (h : xH) : xH := xup (xup h 14 0 15) 14 1 16
theorem zji_Rows_14 {h : xH} (hz : ∀ o j : Int, 14 < o → h o j = 0) : ∀ o j : Int, 16 < o → uji_Rows_14 h o j = 0 := fun o j ho => by
  unfold uji_Rows_14
  rw [xup_row (by omega)]
  rw [xup_row (by omega)]
  exact hz o j (by omega)
theorem rji_Rows_14 {h : xH} {o : Int} (ho : o < 14) : uji_Rows_14 h o = h o := by
  unfold uji_Rows_14
  rw [xup_row (by omega), xup_row (by omega)]
theorem ji_Rows_14 {h : xH} (hz : ∀ o j : Int, 14 < o → h o j = 0) : J mX5_init false 2 260 0 14 (xen 0 [xR 14, xI 20]) [] h (fun r n' h' => r = none ∧ n' = 16 ∧ h' = uji_Rows_14 h) := by
  refine J_cong (ls2 := [(0, xR 14), (1, xI 20)]) (st2 := []) rfl rfl ?_
  refine J_aload_n 0 dX5_init_0 rfl rfl ?_
  refine J_obj dX5_init_1 ⟨xq175, xq147, xq148⟩ (xbl rfl) (xbl rfl) ?_
  refine J_iload_n 1 dX5_init_4 rfl rfl ?_
  refine J_iconst dX5_init_5 (by decide) ?_
  refine J_mmax dX5_init_6 ⟨xq176, xq177, xq129, xq178⟩ (xbl rfl) (xbl rfl) ?_
  refine J_cong (st2 := [xI 20]) rfl (by decide +kernel) ?_
  refine J_istore_n (y := 20) (ls' := [(2, xI 20), (0, xR 14), (1, xI 20)]) dX5_init_9 rfl (by decide) (by decide) rfl ?_
  refine J_aload_n 1 dX5_init_10 rfl rfl ?_
  refine J_iload_n 0 dX5_init_11 rfl rfl ?_
  refine J_bip dX5_init_12 (by decide) ?_
  refine J_imul dX5_init_14 ?_
  refine J_cong (st2 := [xI 240, xR 14]) rfl (by decide +kernel) ?_
  refine J_newa (rc2 := 1) (rs2 := 20) dX5_init_15 xq163 (by decide +kernel) (by decide +kernel) (by decide +kernel) (fun j => hz 15 j (by decide)) rfl rfl ?_
  refine J_n (m := 15) rfl ?_
  have hz15 : ∀ o j : Int, 15 < o → h o j = 0 := fun o j ho => hz o j (by omega)
  refine J_cong (st2 := [xR 15, xR 14]) rfl rfl ?_
  refine J_pc (pc2 := 17) rfl ?_
  obtain ⟨h1, eh1⟩ : ∃ x : xH, x = xup h 14 0 15 := ⟨_, rfl⟩
  refine J_putR (j := 0) xcf5 dX5_init_17 rfl rfl (by decide) kO14 xq179 (by decide) (by decide) (fun _ => ⟨rfl, rfl⟩) (by decide) eh1 ?_
  have zh1 : ∀ o j : Int, 15 < o → h1 o j = 0 := fun o j ho => by rw [eh1, xup_row (by omega)]; exact hz15 o j ho
  refine J_aload_n 1 dX5_init_20 rfl rfl ?_
  refine J_iload_n 0 dX5_init_21 rfl rfl ?_
  refine J_newa (rc2 := 0) (rs2 := 0) dX5_init_22 xq163 (by decide +kernel) (by decide +kernel) (by decide +kernel) (fun j => zh1 16 j (by decide)) rfl rfl ?_
  refine J_n (m := 16) rfl ?_
  have hz16 : ∀ o j : Int, 16 < o → h1 o j = 0 := fun o j ho => zh1 o j (by omega)
  refine J_cong (st2 := [xR 16, xR 14]) rfl rfl ?_
  obtain ⟨h2, eh2⟩ : ∃ x : xH, x = xup h1 14 1 16 := ⟨_, rfl⟩
  refine J_putR (j := 1) xcf5 dX5_init_24 rfl rfl (by decide) kO14 xq180 (by decide) (by decide) (fun _ => ⟨rfl, rfl⟩) (by decide) eh2 ?_
  have zh2 : ∀ o j : Int, 16 < o → h2 o j = 0 := fun o j ho => by rw [eh2, xup_row (by omega)]; exact hz16 o j ho
  exact J_rt dX5_init_27 rfl ⟨rfl, rfl, by rw [eh2, eh1]; rfl⟩
def uji_Rows_17 (h : xH) : xH := xup (xup h 17 0 18) 17 1 19
theorem zji_Rows_17 {h : xH} (hz : ∀ o j : Int, 17 < o → h o j = 0) : ∀ o j : Int, 19 < o → uji_Rows_17 h o j = 0 := fun o j ho => by
  unfold uji_Rows_17
  rw [xup_row (by omega)]
  rw [xup_row (by omega)]
  exact hz o j (by omega)
theorem rji_Rows_17 {h : xH} {o : Int} (ho : o < 17) : uji_Rows_17 h o = h o := by
  unfold uji_Rows_17
  rw [xup_row (by omega), xup_row (by omega)]
theorem ji_Rows_17 {h : xH} (hz : ∀ o j : Int, 17 < o → h o j = 0) : J mX5_init false 2 260 0 17 (xen 0 [xR 17, xI 20]) [] h (fun r n' h' => r = none ∧ n' = 19 ∧ h' = uji_Rows_17 h) := by
  refine J_cong (ls2 := [(0, xR 17), (1, xI 20)]) (st2 := []) rfl rfl ?_
  refine J_aload_n 0 dX5_init_0 rfl rfl ?_
  refine J_obj dX5_init_1 ⟨xq175, xq147, xq148⟩ (xbl rfl) (xbl rfl) ?_
  refine J_iload_n 1 dX5_init_4 rfl rfl ?_
  refine J_iconst dX5_init_5 (by decide) ?_
  refine J_mmax dX5_init_6 ⟨xq176, xq177, xq129, xq178⟩ (xbl rfl) (xbl rfl) ?_
  refine J_cong (st2 := [xI 20]) rfl (by decide +kernel) ?_
  refine J_istore_n (y := 20) (ls' := [(2, xI 20), (0, xR 17), (1, xI 20)]) dX5_init_9 rfl (by decide) (by decide) rfl ?_
  refine J_aload_n 1 dX5_init_10 rfl rfl ?_
  refine J_iload_n 0 dX5_init_11 rfl rfl ?_
  refine J_bip dX5_init_12 (by decide) ?_
  refine J_imul dX5_init_14 ?_
  refine J_cong (st2 := [xI 240, xR 17]) rfl (by decide +kernel) ?_
  refine J_newa (rc2 := 1) (rs2 := 20) dX5_init_15 xq163 (by decide +kernel) (by decide +kernel) (by decide +kernel) (fun j => hz 18 j (by decide)) rfl rfl ?_
  refine J_n (m := 18) rfl ?_
  have hz18 : ∀ o j : Int, 18 < o → h o j = 0 := fun o j ho => hz o j (by omega)
  refine J_cong (st2 := [xR 18, xR 17]) rfl rfl ?_
  refine J_pc (pc2 := 17) rfl ?_
  obtain ⟨h1, eh1⟩ : ∃ x : xH, x = xup h 17 0 18 := ⟨_, rfl⟩
  refine J_putR (j := 0) xcf5 dX5_init_17 rfl rfl (by decide) kO17 xq179 (by decide) (by decide) (fun _ => ⟨rfl, rfl⟩) (by decide) eh1 ?_
  have zh1 : ∀ o j : Int, 18 < o → h1 o j = 0 := fun o j ho => by rw [eh1, xup_row (by omega)]; exact hz18 o j ho
  refine J_aload_n 1 dX5_init_20 rfl rfl ?_
  refine J_iload_n 0 dX5_init_21 rfl rfl ?_
  refine J_newa (rc2 := 0) (rs2 := 0) dX5_init_22 xq163 (by decide +kernel) (by decide +kernel) (by decide +kernel) (fun j => zh1 19 j (by decide)) rfl rfl ?_
  refine J_n (m := 19) rfl ?_
  have hz19 : ∀ o j : Int, 19 < o → h1 o j = 0 := fun o j ho => zh1 o j (by omega)
  refine J_cong (st2 := [xR 19, xR 17]) rfl rfl ?_
  obtain ⟨h2, eh2⟩ : ∃ x : xH, x = xup h1 17 1 19 := ⟨_, rfl⟩
  refine J_putR (j := 1) xcf5 dX5_init_24 rfl rfl (by decide) kO17 xq180 (by decide) (by decide) (fun _ => ⟨rfl, rfl⟩) (by decide) eh2 ?_
  have zh2 : ∀ o j : Int, 19 < o → h2 o j = 0 := fun o j ho => by rw [eh2, xup_row (by omega)]; exact hz19 o j ho
  exact J_rt dX5_init_27 rfl ⟨rfl, rfl, by rw [eh2, eh1]; rfl⟩
def uji_Slips_9 (h : xH) : xH := xup (xup (uji_Rows_17 (xup (uji_Rows_14 (xup (xup (xup (xup (xup (xup (xup (xup (xup (xup (xup (xup (xup (xup h 10 0 0) 10 1 100) 10 2 100) 10 3 100) 10 4 100) 10 5 100) 10 6 100) 10 7 0) 10 8 60) 10 9 60) 9 0 10) 9 1 11) 9 2 12) 9 3 13)) 9 4 14)) 9 5 17) 9 6 20
theorem zji_Slips_9 {h : xH} (hz : ∀ o j : Int, 9 < o → h o j = 0) : ∀ o j : Int, 20 < o → uji_Slips_9 h o j = 0 := fun o j ho => by
  unfold uji_Slips_9
  rw [xup_row (by omega)]
  rw [xup_row (by omega)]
  refine zji_Rows_17 (fun o j ho => ?_) o j (by omega)
  rw [xup_row (by omega)]
  refine zji_Rows_14 (fun o j ho => ?_) o j (by omega)
  rw [xup_row (by omega)]
  rw [xup_row (by omega)]
  rw [xup_row (by omega)]
  rw [xup_row (by omega)]
  rw [xup_row (by omega)]
  rw [xup_row (by omega)]
  rw [xup_row (by omega)]
  rw [xup_row (by omega)]
  rw [xup_row (by omega)]
  rw [xup_row (by omega)]
  rw [xup_row (by omega)]
  rw [xup_row (by omega)]
  rw [xup_row (by omega)]
  rw [xup_row (by omega)]
  exact hz o j (by omega)
theorem rji_Slips_9 {h : xH} {o : Int} (ho : o < 9) : uji_Slips_9 h o = h o := by
  unfold uji_Slips_9
  rw [xup_row (by omega), xup_row (by omega), rji_Rows_17 (by omega), xup_row (by omega), rji_Rows_14 (by omega), xup_row (by omega), xup_row (by omega), xup_row (by omega), xup_row (by omega), xup_row (by omega), xup_row (by omega), xup_row (by omega), xup_row (by omega), xup_row (by omega), xup_row (by omega), xup_row (by omega), xup_row (by omega), xup_row (by omega), xup_row (by omega)]
theorem ji_Slips_9 {h : xH} (hz : ∀ o j : Int, 9 < o → h o j = 0) : J mX6_init false 11 1284 0 9 (xen 0 [xR 9]) [] h (fun r n' h' => r = none ∧ n' = 20 ∧ h' = uji_Slips_9 h) := by
  refine J_cong (ls2 := [(0, xR 9)]) (st2 := []) rfl rfl ?_
  refine J_aload_n 0 dX6_init_0 rfl rfl ?_
  refine J_obj dX6_init_1 ⟨xq213, xq147, xq148⟩ (xbl rfl) (xbl rfl) ?_
  refine J_aload_n 0 dX6_init_4 rfl rfl ?_
  refine J_bip dX6_init_5 (by decide) ?_
  refine J_newa (rc2 := 10) (rs2 := 1274) dX6_init_7 xq163 (by decide +kernel) (by decide +kernel) (by decide +kernel) (fun j => hz 10 j (by decide)) rfl rfl ?_
  refine J_n (m := 10) rfl ?_
  have hz10 : ∀ o j : Int, 10 < o → h o j = 0 := fun o j ho => hz o j (by omega)
  refine J_cong (st2 := [xR 10, xR 9]) rfl rfl ?_
  refine J_dup dX6_init_9 rfl ?_
  refine J_iconst dX6_init_10 (by decide) ?_
  refine J_iconst dX6_init_11 (by decide) ?_
  obtain ⟨h1, eh1⟩ : ∃ x : xH, x = xup h 10 0 0 := ⟨_, rfl⟩
  refine J_iast dX6_init_12 (by decide) kO10 (by decide) nA10 eh1 ?_
  have zh1 : ∀ o j : Int, 10 < o → h1 o j = 0 := fun o j ho => by rw [eh1, xup_row (by omega)]; exact hz10 o j ho
  refine J_dup dX6_init_13 rfl ?_
  refine J_iconst dX6_init_14 (by decide) ?_
  refine J_pc (pc2 := 15) rfl ?_
  refine J_bip dX6_init_15 (by decide) ?_
  obtain ⟨h2, eh2⟩ : ∃ x : xH, x = xup h1 10 1 100 := ⟨_, rfl⟩
  refine J_iast dX6_init_17 (by decide) kO10 (by decide) nA10 eh2 ?_
  have zh2 : ∀ o j : Int, 10 < o → h2 o j = 0 := fun o j ho => by rw [eh2, xup_row (by omega)]; exact zh1 o j ho
  refine J_dup dX6_init_18 rfl ?_
  refine J_iconst dX6_init_19 (by decide) ?_
  refine J_bip dX6_init_20 (by decide) ?_
  obtain ⟨h3, eh3⟩ : ∃ x : xH, x = xup h2 10 2 100 := ⟨_, rfl⟩
  refine J_iast dX6_init_22 (by decide) kO10 (by decide) nA10 eh3 ?_
  have zh3 : ∀ o j : Int, 10 < o → h3 o j = 0 := fun o j ho => by rw [eh3, xup_row (by omega)]; exact zh2 o j ho
  refine J_dup dX6_init_23 rfl ?_
  refine J_iconst dX6_init_24 (by decide) ?_
  refine J_bip dX6_init_25 (by decide) ?_
  obtain ⟨h4, eh4⟩ : ∃ x : xH, x = xup h3 10 3 100 := ⟨_, rfl⟩
  refine J_iast dX6_init_27 (by decide) kO10 (by decide) nA10 eh4 ?_
  have zh4 : ∀ o j : Int, 10 < o → h4 o j = 0 := fun o j ho => by rw [eh4, xup_row (by omega)]; exact zh3 o j ho
  refine J_dup dX6_init_28 rfl ?_
  refine J_iconst dX6_init_29 (by decide) ?_
  refine J_pc (pc2 := 30) rfl ?_
  refine J_bip dX6_init_30 (by decide) ?_
  obtain ⟨h5, eh5⟩ : ∃ x : xH, x = xup h4 10 4 100 := ⟨_, rfl⟩
  refine J_iast dX6_init_32 (by decide) kO10 (by decide) nA10 eh5 ?_
  have zh5 : ∀ o j : Int, 10 < o → h5 o j = 0 := fun o j ho => by rw [eh5, xup_row (by omega)]; exact zh4 o j ho
  refine J_dup dX6_init_33 rfl ?_
  refine J_iconst dX6_init_34 (by decide) ?_
  refine J_bip dX6_init_35 (by decide) ?_
  obtain ⟨h6, eh6⟩ : ∃ x : xH, x = xup h5 10 5 100 := ⟨_, rfl⟩
  refine J_iast dX6_init_37 (by decide) kO10 (by decide) nA10 eh6 ?_
  have zh6 : ∀ o j : Int, 10 < o → h6 o j = 0 := fun o j ho => by rw [eh6, xup_row (by omega)]; exact zh5 o j ho
  refine J_dup dX6_init_38 rfl ?_
  refine J_bip dX6_init_39 (by decide) ?_
  refine J_bip dX6_init_41 (by decide) ?_
  obtain ⟨h7, eh7⟩ : ∃ x : xH, x = xup h6 10 6 100 := ⟨_, rfl⟩
  refine J_iast dX6_init_43 (by decide) kO10 (by decide) nA10 eh7 ?_
  have zh7 : ∀ o j : Int, 10 < o → h7 o j = 0 := fun o j ho => by rw [eh7, xup_row (by omega)]; exact zh6 o j ho
  refine J_dup dX6_init_44 rfl ?_
  refine J_bip dX6_init_45 (by decide) ?_
  refine J_pc (pc2 := 47) rfl ?_
  refine J_iconst dX6_init_47 (by decide) ?_
  obtain ⟨h8, eh8⟩ : ∃ x : xH, x = xup h7 10 7 0 := ⟨_, rfl⟩
  refine J_iast dX6_init_48 (by decide) kO10 (by decide) nA10 eh8 ?_
  have zh8 : ∀ o j : Int, 10 < o → h8 o j = 0 := fun o j ho => by rw [eh8, xup_row (by omega)]; exact zh7 o j ho
  refine J_dup dX6_init_49 rfl ?_
  refine J_bip dX6_init_50 (by decide) ?_
  refine J_bip dX6_init_52 (by decide) ?_
  obtain ⟨h9, eh9⟩ : ∃ x : xH, x = xup h8 10 8 60 := ⟨_, rfl⟩
  refine J_iast dX6_init_54 (by decide) kO10 (by decide) nA10 eh9 ?_
  have zh9 : ∀ o j : Int, 10 < o → h9 o j = 0 := fun o j ho => by rw [eh9, xup_row (by omega)]; exact zh8 o j ho
  refine J_dup dX6_init_55 rfl ?_
  refine J_bip dX6_init_56 (by decide) ?_
  refine J_bip dX6_init_58 (by decide) ?_
  obtain ⟨h10, eh10⟩ : ∃ x : xH, x = xup h9 10 9 60 := ⟨_, rfl⟩
  refine J_iast dX6_init_60 (by decide) kO10 (by decide) nA10 eh10 ?_
  have zh10 : ∀ o j : Int, 10 < o → h10 o j = 0 := fun o j ho => by rw [eh10, xup_row (by omega)]; exact zh9 o j ho
  obtain ⟨h11, eh11⟩ : ∃ x : xH, x = xup h10 9 0 10 := ⟨_, rfl⟩
  refine J_putR (j := 0) xcf6 dX6_init_61 rfl rfl (by decide) kO9 xq216 (by decide) (by decide) (fun _ => ⟨rfl, rfl⟩) (by decide) eh11 ?_
  have zh11 : ∀ o j : Int, 10 < o → h11 o j = 0 := fun o j ho => by rw [eh11, xup_row (by omega)]; exact zh10 o j ho
  refine J_aload_n 0 dX6_init_64 rfl rfl ?_
  refine J_pc (pc2 := 65) rfl ?_
  refine J_sip dX6_init_65 (by decide) ?_
  refine J_newa (rc2 := 9) (rs2 := 598) dX6_init_68 xq163 (by decide +kernel) (by decide +kernel) (by decide +kernel) (fun j => zh11 11 j (by decide)) rfl rfl ?_
  refine J_n (m := 11) rfl ?_
  have hz11 : ∀ o j : Int, 11 < o → h11 o j = 0 := fun o j ho => zh11 o j (by omega)
  refine J_cong (st2 := [xR 11, xR 9]) rfl rfl ?_
  obtain ⟨h12, eh12⟩ : ∃ x : xH, x = xup h11 9 1 11 := ⟨_, rfl⟩
  refine J_putR (j := 1) xcf6 dX6_init_70 rfl rfl (by decide) kO9 xq217 (by decide) (by decide) (fun _ => ⟨rfl, rfl⟩) (by decide) eh12 ?_
  have zh12 : ∀ o j : Int, 11 < o → h12 o j = 0 := fun o j ho => by rw [eh12, xup_row (by omega)]; exact hz11 o j ho
  refine J_aload_n 0 dX6_init_73 rfl rfl ?_
  refine J_bip dX6_init_74 (by decide) ?_
  refine J_newa (rc2 := 8) (rs2 := 572) dX6_init_76 xq163 (by decide +kernel) (by decide +kernel) (by decide +kernel) (fun j => zh12 12 j (by decide)) rfl rfl ?_
  refine J_n (m := 12) rfl ?_
  have hz12 : ∀ o j : Int, 12 < o → h12 o j = 0 := fun o j ho => zh12 o j (by omega)
  refine J_cong (st2 := [xR 12, xR 9]) rfl rfl ?_
  obtain ⟨h13, eh13⟩ : ∃ x : xH, x = xup h12 9 2 12 := ⟨_, rfl⟩
  refine J_putR (j := 2) xcf6 dX6_init_78 rfl rfl (by decide) kO9 xq218 (by decide) (by decide) (fun _ => ⟨rfl, rfl⟩) (by decide) eh13 ?_
  have zh13 : ∀ o j : Int, 12 < o → h13 o j = 0 := fun o j ho => by rw [eh13, xup_row (by omega)]; exact hz12 o j ho
  refine J_aload_n 0 dX6_init_81 rfl rfl ?_
  refine J_bip dX6_init_82 (by decide) ?_
  refine J_newa (rc2 := 7) (rs2 := 546) dX6_init_84 xq163 (by decide +kernel) (by decide +kernel) (by decide +kernel) (fun j => zh13 13 j (by decide)) rfl rfl ?_
  refine J_n (m := 13) rfl ?_
  have hz13 : ∀ o j : Int, 13 < o → h13 o j = 0 := fun o j ho => zh13 o j (by omega)
  refine J_cong (st2 := [xR 13, xR 9]) rfl rfl ?_
  obtain ⟨h14, eh14⟩ : ∃ x : xH, x = xup h13 9 3 13 := ⟨_, rfl⟩
  refine J_putR (j := 3) xcf6 dX6_init_86 rfl rfl (by decide) kO9 xq219 (by decide) (by decide) (fun _ => ⟨rfl, rfl⟩) (by decide) eh14 ?_
  have zh14 : ∀ o j : Int, 13 < o → h14 o j = 0 := fun o j ho => by rw [eh14, xup_row (by omega)]; exact hz13 o j ho
  refine J_aload_n 0 dX6_init_89 rfl rfl ?_
  refine J_pc (pc2 := 90) rfl ?_
  refine J_new (rc2 := 6) (rs2 := 543) xcf5 (by decide +kernel) dX6_init_90 xq214 xq171 xq128 (by decide +kernel) (fun j => zh14 14 j (by decide)) rfl rfl ?_
  refine J_n (m := 14) rfl ?_
  have hz14 : ∀ o j : Int, 14 < o → h14 o j = 0 := fun o j ho => zh14 o j (by omega)
  refine J_cong (st2 := [xR 14, xR 9]) rfl rfl ?_
  refine J_dup dX6_init_93 rfl ?_
  refine J_bip dX6_init_94 (by decide) ?_
  obtain ⟨h15, eh15⟩ : ∃ x : xH, x = uji_Rows_14 h14 := ⟨_, rfl⟩
  refine J_cI (Mc := mX5_init) (n2 := 16) (h2 := h15) (rc2 := 4) (rs2 := 283) [xI 20] dX6_init_96 ((fc_Rows_init).fit ⟨xbl rfl, xbl rfl⟩) rfl ⟨Or.inr ⟨_, xq215⟩, rfl, xq173, rfl⟩ rfl (xbl rfl) (xbl rfl) ⟨rfl, rfl⟩ (by rw [eh15]; exact ji_Rows_14 hz14) ?_
  have zh15 : ∀ o j : Int, 16 < o → h15 o j = 0 := fun o j ho => by rw [eh15]; exact zji_Rows_14 hz14 o j ho
  obtain ⟨h16, eh16⟩ : ∃ x : xH, x = xup h15 9 4 14 := ⟨_, rfl⟩
  refine J_putR (j := 4) xcf6 dX6_init_99 rfl rfl (by decide) kO9 xq220 (by decide) (by decide) (fun _ => ⟨rfl, rfl⟩) (by decide) eh16 ?_
  have zh16 : ∀ o j : Int, 16 < o → h16 o j = 0 := fun o j ho => by rw [eh16, xup_row (by omega)]; exact zh15 o j ho
  refine J_aload_n 0 dX6_init_102 rfl rfl ?_
  refine J_new (rc2 := 3) (rs2 := 280) xcf5 (by decide +kernel) dX6_init_103 xq214 xq171 xq128 (by decide +kernel) (fun j => zh16 17 j (by decide)) rfl rfl ?_
  refine J_n (m := 17) rfl ?_
  have hz17 : ∀ o j : Int, 17 < o → h16 o j = 0 := fun o j ho => zh16 o j (by omega)
  refine J_cong (st2 := [xR 17, xR 9]) rfl rfl ?_
  refine J_dup dX6_init_106 rfl ?_
  refine J_bip dX6_init_107 (by decide) ?_
  obtain ⟨h17, eh17⟩ : ∃ x : xH, x = uji_Rows_17 h16 := ⟨_, rfl⟩
  refine J_cI (Mc := mX5_init) (n2 := 19) (h2 := h17) (rc2 := 1) (rs2 := 20) [xI 20] dX6_init_109 ((fc_Rows_init).fit ⟨xbl rfl, xbl rfl⟩) rfl ⟨Or.inr ⟨_, xq215⟩, rfl, xq173, rfl⟩ rfl (xbl rfl) (xbl rfl) ⟨rfl, rfl⟩ (by rw [eh17]; exact ji_Rows_17 hz17) ?_
  have zh17 : ∀ o j : Int, 19 < o → h17 o j = 0 := fun o j ho => by rw [eh17]; exact zji_Rows_17 hz17 o j ho
  obtain ⟨h18, eh18⟩ : ∃ x : xH, x = xup h17 9 5 17 := ⟨_, rfl⟩
  refine J_putR (j := 5) xcf6 dX6_init_112 rfl rfl (by decide) kO9 xq222 (by decide) (by decide) (fun _ => ⟨rfl, rfl⟩) (by decide) eh18 ?_
  have zh18 : ∀ o j : Int, 19 < o → h18 o j = 0 := fun o j ho => by rw [eh18, xup_row (by omega)]; exact zh17 o j ho
  refine J_aload_n 0 dX6_init_115 rfl rfl ?_
  refine J_pc (pc2 := 116) rfl ?_
  refine J_bip dX6_init_116 (by decide) ?_
  refine J_newa (rc2 := 0) (rs2 := 0) dX6_init_118 xq163 (by decide +kernel) (by decide +kernel) (by decide +kernel) (fun j => zh18 20 j (by decide)) rfl rfl ?_
  refine J_n (m := 20) rfl ?_
  have hz20 : ∀ o j : Int, 20 < o → h18 o j = 0 := fun o j ho => zh18 o j (by omega)
  refine J_cong (st2 := [xR 20, xR 9]) rfl rfl ?_
  obtain ⟨h19, eh19⟩ : ∃ x : xH, x = xup h18 9 6 20 := ⟨_, rfl⟩
  refine J_putR (j := 6) xcf6 dX6_init_120 rfl rfl (by decide) kO9 xq223 (by decide) (by decide) (fun _ => ⟨rfl, rfl⟩) (by decide) eh19 ?_
  have zh19 : ∀ o j : Int, 20 < o → h19 o j = 0 := fun o j ho => by rw [eh19, xup_row (by omega)]; exact hz20 o j ho
  exact J_rt dX6_init_123 rfl ⟨rfl, rfl, by rw [eh19, eh18, eh17, eh16, eh15, eh14, eh13, eh12, eh11, eh10, eh9, eh8, eh7, eh6, eh5, eh4, eh3, eh2, eh1]; rfl⟩
def uji_Row_21 (h : xH) : xH := xup h 21 0 22
theorem zji_Row_21 {h : xH} (hz : ∀ o j : Int, 21 < o → h o j = 0) : ∀ o j : Int, 22 < o → uji_Row_21 h o j = 0 := fun o j ho => by
  unfold uji_Row_21
  rw [xup_row (by omega)]
  exact hz o j (by omega)
theorem rji_Row_21 {h : xH} {o : Int} (ho : o < 21) : uji_Row_21 h o = h o := by
  unfold uji_Row_21
  rw [xup_row (by omega)]
theorem ji_Row_21 {h : xH} (hz : ∀ o j : Int, 21 < o → h o j = 0) : J mX4_init false 1 12 0 21 (xen 0 [xR 21]) [] h (fun r n' h' => r = none ∧ n' = 22 ∧ h' = uji_Row_21 h) := by
  refine J_cong (ls2 := [(0, xR 21)]) (st2 := []) rfl rfl ?_
  refine J_aload_n 0 dX4_init_0 rfl rfl ?_
  refine J_obj dX4_init_1 ⟨xq244, xq147, xq148⟩ (xbl rfl) (xbl rfl) ?_
  refine J_aload_n 0 dX4_init_4 rfl rfl ?_
  refine J_bip dX4_init_5 (by decide) ?_
  refine J_newa (rc2 := 0) (rs2 := 0) dX4_init_7 xq163 (by decide +kernel) (by decide +kernel) (by decide +kernel) (fun j => hz 22 j (by decide)) rfl rfl ?_
  refine J_n (m := 22) rfl ?_
  have hz22 : ∀ o j : Int, 22 < o → h o j = 0 := fun o j ho => hz o j (by omega)
  refine J_cong (st2 := [xR 22, xR 21]) rfl rfl ?_
  obtain ⟨h1, eh1⟩ : ∃ x : xH, x = xup h 21 0 22 := ⟨_, rfl⟩
  refine J_putR (j := 0) xcf4 dX4_init_9 rfl rfl (by decide) kO21 xq245 (by decide) (by decide) (fun _ => ⟨rfl, rfl⟩) (by decide) eh1 ?_
  have zh1 : ∀ o j : Int, 22 < o → h1 o j = 0 := fun o j ho => by rw [eh1, xup_row (by omega)]; exact hz22 o j ho
  exact J_rt dX4_init_12 rfl ⟨rfl, rfl, by rw [eh1]; rfl⟩
def uji_Row_23 (h : xH) : xH := xup h 23 0 24
theorem zji_Row_23 {h : xH} (hz : ∀ o j : Int, 23 < o → h o j = 0) : ∀ o j : Int, 24 < o → uji_Row_23 h o j = 0 := fun o j ho => by
  unfold uji_Row_23
  rw [xup_row (by omega)]
  exact hz o j (by omega)
theorem rji_Row_23 {h : xH} {o : Int} (ho : o < 23) : uji_Row_23 h o = h o := by
  unfold uji_Row_23
  rw [xup_row (by omega)]
theorem ji_Row_23 {h : xH} (hz : ∀ o j : Int, 23 < o → h o j = 0) : J mX4_init false 1 12 0 23 (xen 0 [xR 23]) [] h (fun r n' h' => r = none ∧ n' = 24 ∧ h' = uji_Row_23 h) := by
  refine J_cong (ls2 := [(0, xR 23)]) (st2 := []) rfl rfl ?_
  refine J_aload_n 0 dX4_init_0 rfl rfl ?_
  refine J_obj dX4_init_1 ⟨xq244, xq147, xq148⟩ (xbl rfl) (xbl rfl) ?_
  refine J_aload_n 0 dX4_init_4 rfl rfl ?_
  refine J_bip dX4_init_5 (by decide) ?_
  refine J_newa (rc2 := 0) (rs2 := 0) dX4_init_7 xq163 (by decide +kernel) (by decide +kernel) (by decide +kernel) (fun j => hz 24 j (by decide)) rfl rfl ?_
  refine J_n (m := 24) rfl ?_
  have hz24 : ∀ o j : Int, 24 < o → h o j = 0 := fun o j ho => hz o j (by omega)
  refine J_cong (st2 := [xR 24, xR 23]) rfl rfl ?_
  obtain ⟨h1, eh1⟩ : ∃ x : xH, x = xup h 23 0 24 := ⟨_, rfl⟩
  refine J_putR (j := 0) xcf4 dX4_init_9 rfl rfl (by decide) kO23 xq245 (by decide) (by decide) (fun _ => ⟨rfl, rfl⟩) (by decide) eh1 ?_
  have zh1 : ∀ o j : Int, 24 < o → h1 o j = 0 := fun o j ho => by rw [eh1, xup_row (by omega)]; exact hz24 o j ho
  exact J_rt dX4_init_12 rfl ⟨rfl, rfl, by rw [eh1]; rfl⟩
def uji_Rows_25 (h : xH) : xH := xup (xup h 25 0 26) 25 1 27
theorem zji_Rows_25 {h : xH} (hz : ∀ o j : Int, 25 < o → h o j = 0) : ∀ o j : Int, 27 < o → uji_Rows_25 h o j = 0 := fun o j ho => by
  unfold uji_Rows_25
  rw [xup_row (by omega)]
  rw [xup_row (by omega)]
  exact hz o j (by omega)
theorem rji_Rows_25 {h : xH} {o : Int} (ho : o < 25) : uji_Rows_25 h o = h o := by
  unfold uji_Rows_25
  rw [xup_row (by omega), xup_row (by omega)]
theorem ji_Rows_25 {h : xH} (hz : ∀ o j : Int, 25 < o → h o j = 0) : J mX5_init false 2 156 0 25 (xen 0 [xR 25, xI 12]) [] h (fun r n' h' => r = none ∧ n' = 27 ∧ h' = uji_Rows_25 h) := by
  refine J_cong (ls2 := [(0, xR 25), (1, xI 12)]) (st2 := []) rfl rfl ?_
  refine J_aload_n 0 dX5_init_0 rfl rfl ?_
  refine J_obj dX5_init_1 ⟨xq175, xq147, xq148⟩ (xbl rfl) (xbl rfl) ?_
  refine J_iload_n 1 dX5_init_4 rfl rfl ?_
  refine J_iconst dX5_init_5 (by decide) ?_
  refine J_mmax dX5_init_6 ⟨xq176, xq177, xq129, xq178⟩ (xbl rfl) (xbl rfl) ?_
  refine J_cong (st2 := [xI 12]) rfl (by decide +kernel) ?_
  refine J_istore_n (y := 12) (ls' := [(2, xI 12), (0, xR 25), (1, xI 12)]) dX5_init_9 rfl (by decide) (by decide) rfl ?_
  refine J_aload_n 1 dX5_init_10 rfl rfl ?_
  refine J_iload_n 0 dX5_init_11 rfl rfl ?_
  refine J_bip dX5_init_12 (by decide) ?_
  refine J_imul dX5_init_14 ?_
  refine J_cong (st2 := [xI 144, xR 25]) rfl (by decide +kernel) ?_
  refine J_newa (rc2 := 1) (rs2 := 12) dX5_init_15 xq163 (by decide +kernel) (by decide +kernel) (by decide +kernel) (fun j => hz 26 j (by decide)) rfl rfl ?_
  refine J_n (m := 26) rfl ?_
  have hz26 : ∀ o j : Int, 26 < o → h o j = 0 := fun o j ho => hz o j (by omega)
  refine J_cong (st2 := [xR 26, xR 25]) rfl rfl ?_
  refine J_pc (pc2 := 17) rfl ?_
  obtain ⟨h1, eh1⟩ : ∃ x : xH, x = xup h 25 0 26 := ⟨_, rfl⟩
  refine J_putR (j := 0) xcf5 dX5_init_17 rfl rfl (by decide) kO25 xq179 (by decide) (by decide) (fun _ => ⟨rfl, rfl⟩) (by decide) eh1 ?_
  have zh1 : ∀ o j : Int, 26 < o → h1 o j = 0 := fun o j ho => by rw [eh1, xup_row (by omega)]; exact hz26 o j ho
  refine J_aload_n 1 dX5_init_20 rfl rfl ?_
  refine J_iload_n 0 dX5_init_21 rfl rfl ?_
  refine J_newa (rc2 := 0) (rs2 := 0) dX5_init_22 xq163 (by decide +kernel) (by decide +kernel) (by decide +kernel) (fun j => zh1 27 j (by decide)) rfl rfl ?_
  refine J_n (m := 27) rfl ?_
  have hz27 : ∀ o j : Int, 27 < o → h1 o j = 0 := fun o j ho => zh1 o j (by omega)
  refine J_cong (st2 := [xR 27, xR 25]) rfl rfl ?_
  obtain ⟨h2, eh2⟩ : ∃ x : xH, x = xup h1 25 1 27 := ⟨_, rfl⟩
  refine J_putR (j := 1) xcf5 dX5_init_24 rfl rfl (by decide) kO25 xq180 (by decide) (by decide) (fun _ => ⟨rfl, rfl⟩) (by decide) eh2 ?_
  have zh2 : ∀ o j : Int, 27 < o → h2 o j = 0 := fun o j ho => by rw [eh2, xup_row (by omega)]; exact hz27 o j ho
  exact J_rt dX5_init_27 rfl ⟨rfl, rfl, by rw [eh2, eh1]; rfl⟩
def uji_Way_28 (h : xH) : xH := xup (xup (xup (xup (xup (xup h 28 1 29) 28 2 30) 28 3 31) 28 4 32) 28 5 33) 28 0 9
theorem zji_Way_28 {h : xH} (hz : ∀ o j : Int, 28 < o → h o j = 0) : ∀ o j : Int, 33 < o → uji_Way_28 h o j = 0 := fun o j ho => by
  unfold uji_Way_28
  rw [xup_row (by omega)]
  rw [xup_row (by omega)]
  rw [xup_row (by omega)]
  rw [xup_row (by omega)]
  rw [xup_row (by omega)]
  rw [xup_row (by omega)]
  exact hz o j (by omega)
theorem rji_Way_28 {h : xH} {o : Int} (ho : o < 28) : uji_Way_28 h o = h o := by
  unfold uji_Way_28
  rw [xup_row (by omega), xup_row (by omega), xup_row (by omega), xup_row (by omega), xup_row (by omega), xup_row (by omega)]
theorem ji_Way_28 {h : xH} (hz : ∀ o j : Int, 28 < o → h o j = 0) : J mX10_init false 5 265 0 28 (xen 0 [xR 28, xR 9]) [] h (fun r n' h' => r = none ∧ n' = 33 ∧ h' = uji_Way_28 h) := by
  refine J_cong (ls2 := [(0, xR 28), (1, xR 9)]) (st2 := []) rfl rfl ?_
  refine J_aload_n 0 dX10_init_0 rfl rfl ?_
  refine J_obj dX10_init_1 ⟨xq263, xq147, xq148⟩ (xbl rfl) (xbl rfl) ?_
  refine J_aload_n 0 dX10_init_4 rfl rfl ?_
  refine J_sip dX10_init_5 (by decide) ?_
  refine J_newa (rc2 := 4) (rs2 := 96) dX10_init_8 xq163 (by decide +kernel) (by decide +kernel) (by decide +kernel) (fun j => hz 29 j (by decide)) rfl rfl ?_
  refine J_n (m := 29) rfl ?_
  have hz29 : ∀ o j : Int, 29 < o → h o j = 0 := fun o j ho => hz o j (by omega)
  refine J_cong (st2 := [xR 29, xR 28]) rfl rfl ?_
  obtain ⟨h1, eh1⟩ : ∃ x : xH, x = xup h 28 1 29 := ⟨_, rfl⟩
  refine J_putR (j := 1) xcf10 dX10_init_10 rfl rfl (by decide) kO28 xq265 (by decide) (by decide) (fun _ => ⟨rfl, rfl⟩) (by decide) eh1 ?_
  have zh1 : ∀ o j : Int, 29 < o → h1 o j = 0 := fun o j ho => by rw [eh1, xup_row (by omega)]; exact hz29 o j ho
  refine J_aload_n 0 dX10_init_13 rfl rfl ?_
  refine J_bip dX10_init_14 (by decide) ?_
  refine J_newa (rc2 := 3) (rs2 := 72) dX10_init_16 xq163 (by decide +kernel) (by decide +kernel) (by decide +kernel) (fun j => zh1 30 j (by decide)) rfl rfl ?_
  refine J_n (m := 30) rfl ?_
  have hz30 : ∀ o j : Int, 30 < o → h1 o j = 0 := fun o j ho => zh1 o j (by omega)
  refine J_cong (st2 := [xR 30, xR 28]) rfl rfl ?_
  obtain ⟨h2, eh2⟩ : ∃ x : xH, x = xup h1 28 2 30 := ⟨_, rfl⟩
  refine J_putR (j := 2) xcf10 dX10_init_18 rfl rfl (by decide) kO28 xq266 (by decide) (by decide) (fun _ => ⟨rfl, rfl⟩) (by decide) eh2 ?_
  have zh2 : ∀ o j : Int, 30 < o → h2 o j = 0 := fun o j ho => by rw [eh2, xup_row (by omega)]; exact hz30 o j ho
  refine J_aload_n 0 dX10_init_21 rfl rfl ?_
  refine J_pc (pc2 := 22) rfl ?_
  refine J_bip dX10_init_22 (by decide) ?_
  refine J_newa (rc2 := 2) (rs2 := 48) dX10_init_24 xq163 (by decide +kernel) (by decide +kernel) (by decide +kernel) (fun j => zh2 31 j (by decide)) rfl rfl ?_
  refine J_n (m := 31) rfl ?_
  have hz31 : ∀ o j : Int, 31 < o → h2 o j = 0 := fun o j ho => zh2 o j (by omega)
  refine J_cong (st2 := [xR 31, xR 28]) rfl rfl ?_
  obtain ⟨h3, eh3⟩ : ∃ x : xH, x = xup h2 28 3 31 := ⟨_, rfl⟩
  refine J_putR (j := 3) xcf10 dX10_init_26 rfl rfl (by decide) kO28 xq267 (by decide) (by decide) (fun _ => ⟨rfl, rfl⟩) (by decide) eh3 ?_
  have zh3 : ∀ o j : Int, 31 < o → h3 o j = 0 := fun o j ho => by rw [eh3, xup_row (by omega)]; exact hz31 o j ho
  refine J_aload_n 0 dX10_init_29 rfl rfl ?_
  refine J_bip dX10_init_30 (by decide) ?_
  refine J_newa (rc2 := 1) (rs2 := 24) dX10_init_32 xq163 (by decide +kernel) (by decide +kernel) (by decide +kernel) (fun j => zh3 32 j (by decide)) rfl rfl ?_
  refine J_n (m := 32) rfl ?_
  have hz32 : ∀ o j : Int, 32 < o → h3 o j = 0 := fun o j ho => zh3 o j (by omega)
  refine J_cong (st2 := [xR 32, xR 28]) rfl rfl ?_
  obtain ⟨h4, eh4⟩ : ∃ x : xH, x = xup h3 28 4 32 := ⟨_, rfl⟩
  refine J_putR (j := 4) xcf10 dX10_init_34 rfl rfl (by decide) kO28 xq268 (by decide) (by decide) (fun _ => ⟨rfl, rfl⟩) (by decide) eh4 ?_
  have zh4 : ∀ o j : Int, 32 < o → h4 o j = 0 := fun o j ho => by rw [eh4, xup_row (by omega)]; exact hz32 o j ho
  refine J_aload_n 0 dX10_init_37 rfl rfl ?_
  refine J_bip dX10_init_38 (by decide) ?_
  refine J_newa (rc2 := 0) (rs2 := 0) dX10_init_40 xq163 (by decide +kernel) (by decide +kernel) (by decide +kernel) (fun j => zh4 33 j (by decide)) rfl rfl ?_
  refine J_n (m := 33) rfl ?_
  have hz33 : ∀ o j : Int, 33 < o → h4 o j = 0 := fun o j ho => zh4 o j (by omega)
  refine J_cong (st2 := [xR 33, xR 28]) rfl rfl ?_
  obtain ⟨h5, eh5⟩ : ∃ x : xH, x = xup h4 28 5 33 := ⟨_, rfl⟩
  refine J_putR (j := 5) xcf10 dX10_init_42 rfl rfl (by decide) kO28 xq269 (by decide) (by decide) (fun _ => ⟨rfl, rfl⟩) (by decide) eh5 ?_
  have zh5 : ∀ o j : Int, 33 < o → h5 o j = 0 := fun o j ho => by rw [eh5, xup_row (by omega)]; exact hz33 o j ho
  refine J_aload_n 0 dX10_init_45 rfl rfl ?_
  refine J_pc (pc2 := 46) rfl ?_
  refine J_aload_n 1 dX10_init_46 rfl rfl ?_
  obtain ⟨h6, eh6⟩ : ∃ x : xH, x = xup h5 28 0 9 := ⟨_, rfl⟩
  refine J_putR (j := 0) xcf10 dX10_init_47 rfl rfl (by decide) kO28 xq264 (by decide) (by decide) (fun _ => ⟨rfl, rfl⟩) (by decide) eh6 ?_
  have zh6 : ∀ o j : Int, 33 < o → h6 o j = 0 := fun o j ho => by rw [eh6, xup_row (by omega)]; exact zh5 o j ho
  exact J_rt dX10_init_50 rfl ⟨rfl, rfl, by rw [eh6, eh5, eh4, eh3, eh2, eh1]; rfl⟩
def uji_Way_34 (h : xH) : xH := xup (xup (xup (xup (xup (xup h 34 1 35) 34 2 36) 34 3 37) 34 4 38) 34 5 39) 34 0 9
theorem zji_Way_34 {h : xH} (hz : ∀ o j : Int, 34 < o → h o j = 0) : ∀ o j : Int, 39 < o → uji_Way_34 h o j = 0 := fun o j ho => by
  unfold uji_Way_34
  rw [xup_row (by omega)]
  rw [xup_row (by omega)]
  rw [xup_row (by omega)]
  rw [xup_row (by omega)]
  rw [xup_row (by omega)]
  rw [xup_row (by omega)]
  exact hz o j (by omega)
theorem rji_Way_34 {h : xH} {o : Int} (ho : o < 34) : uji_Way_34 h o = h o := by
  unfold uji_Way_34
  rw [xup_row (by omega), xup_row (by omega), xup_row (by omega), xup_row (by omega), xup_row (by omega), xup_row (by omega)]
theorem ji_Way_34 {h : xH} (hz : ∀ o j : Int, 34 < o → h o j = 0) : J mX10_init false 5 265 0 34 (xen 0 [xR 34, xR 9]) [] h (fun r n' h' => r = none ∧ n' = 39 ∧ h' = uji_Way_34 h) := by
  refine J_cong (ls2 := [(0, xR 34), (1, xR 9)]) (st2 := []) rfl rfl ?_
  refine J_aload_n 0 dX10_init_0 rfl rfl ?_
  refine J_obj dX10_init_1 ⟨xq263, xq147, xq148⟩ (xbl rfl) (xbl rfl) ?_
  refine J_aload_n 0 dX10_init_4 rfl rfl ?_
  refine J_sip dX10_init_5 (by decide) ?_
  refine J_newa (rc2 := 4) (rs2 := 96) dX10_init_8 xq163 (by decide +kernel) (by decide +kernel) (by decide +kernel) (fun j => hz 35 j (by decide)) rfl rfl ?_
  refine J_n (m := 35) rfl ?_
  have hz35 : ∀ o j : Int, 35 < o → h o j = 0 := fun o j ho => hz o j (by omega)
  refine J_cong (st2 := [xR 35, xR 34]) rfl rfl ?_
  obtain ⟨h1, eh1⟩ : ∃ x : xH, x = xup h 34 1 35 := ⟨_, rfl⟩
  refine J_putR (j := 1) xcf10 dX10_init_10 rfl rfl (by decide) kO34 xq265 (by decide) (by decide) (fun _ => ⟨rfl, rfl⟩) (by decide) eh1 ?_
  have zh1 : ∀ o j : Int, 35 < o → h1 o j = 0 := fun o j ho => by rw [eh1, xup_row (by omega)]; exact hz35 o j ho
  refine J_aload_n 0 dX10_init_13 rfl rfl ?_
  refine J_bip dX10_init_14 (by decide) ?_
  refine J_newa (rc2 := 3) (rs2 := 72) dX10_init_16 xq163 (by decide +kernel) (by decide +kernel) (by decide +kernel) (fun j => zh1 36 j (by decide)) rfl rfl ?_
  refine J_n (m := 36) rfl ?_
  have hz36 : ∀ o j : Int, 36 < o → h1 o j = 0 := fun o j ho => zh1 o j (by omega)
  refine J_cong (st2 := [xR 36, xR 34]) rfl rfl ?_
  obtain ⟨h2, eh2⟩ : ∃ x : xH, x = xup h1 34 2 36 := ⟨_, rfl⟩
  refine J_putR (j := 2) xcf10 dX10_init_18 rfl rfl (by decide) kO34 xq266 (by decide) (by decide) (fun _ => ⟨rfl, rfl⟩) (by decide) eh2 ?_
  have zh2 : ∀ o j : Int, 36 < o → h2 o j = 0 := fun o j ho => by rw [eh2, xup_row (by omega)]; exact hz36 o j ho
  refine J_aload_n 0 dX10_init_21 rfl rfl ?_
  refine J_pc (pc2 := 22) rfl ?_
  refine J_bip dX10_init_22 (by decide) ?_
  refine J_newa (rc2 := 2) (rs2 := 48) dX10_init_24 xq163 (by decide +kernel) (by decide +kernel) (by decide +kernel) (fun j => zh2 37 j (by decide)) rfl rfl ?_
  refine J_n (m := 37) rfl ?_
  have hz37 : ∀ o j : Int, 37 < o → h2 o j = 0 := fun o j ho => zh2 o j (by omega)
  refine J_cong (st2 := [xR 37, xR 34]) rfl rfl ?_
  obtain ⟨h3, eh3⟩ : ∃ x : xH, x = xup h2 34 3 37 := ⟨_, rfl⟩
  refine J_putR (j := 3) xcf10 dX10_init_26 rfl rfl (by decide) kO34 xq267 (by decide) (by decide) (fun _ => ⟨rfl, rfl⟩) (by decide) eh3 ?_
  have zh3 : ∀ o j : Int, 37 < o → h3 o j = 0 := fun o j ho => by rw [eh3, xup_row (by omega)]; exact hz37 o j ho
  refine J_aload_n 0 dX10_init_29 rfl rfl ?_
  refine J_bip dX10_init_30 (by decide) ?_
  refine J_newa (rc2 := 1) (rs2 := 24) dX10_init_32 xq163 (by decide +kernel) (by decide +kernel) (by decide +kernel) (fun j => zh3 38 j (by decide)) rfl rfl ?_
  refine J_n (m := 38) rfl ?_
  have hz38 : ∀ o j : Int, 38 < o → h3 o j = 0 := fun o j ho => zh3 o j (by omega)
  refine J_cong (st2 := [xR 38, xR 34]) rfl rfl ?_
  obtain ⟨h4, eh4⟩ : ∃ x : xH, x = xup h3 34 4 38 := ⟨_, rfl⟩
  refine J_putR (j := 4) xcf10 dX10_init_34 rfl rfl (by decide) kO34 xq268 (by decide) (by decide) (fun _ => ⟨rfl, rfl⟩) (by decide) eh4 ?_
  have zh4 : ∀ o j : Int, 38 < o → h4 o j = 0 := fun o j ho => by rw [eh4, xup_row (by omega)]; exact hz38 o j ho
  refine J_aload_n 0 dX10_init_37 rfl rfl ?_
  refine J_bip dX10_init_38 (by decide) ?_
  refine J_newa (rc2 := 0) (rs2 := 0) dX10_init_40 xq163 (by decide +kernel) (by decide +kernel) (by decide +kernel) (fun j => zh4 39 j (by decide)) rfl rfl ?_
  refine J_n (m := 39) rfl ?_
  have hz39 : ∀ o j : Int, 39 < o → h4 o j = 0 := fun o j ho => zh4 o j (by omega)
  refine J_cong (st2 := [xR 39, xR 34]) rfl rfl ?_
  obtain ⟨h5, eh5⟩ : ∃ x : xH, x = xup h4 34 5 39 := ⟨_, rfl⟩
  refine J_putR (j := 5) xcf10 dX10_init_42 rfl rfl (by decide) kO34 xq269 (by decide) (by decide) (fun _ => ⟨rfl, rfl⟩) (by decide) eh5 ?_
  have zh5 : ∀ o j : Int, 39 < o → h5 o j = 0 := fun o j ho => by rw [eh5, xup_row (by omega)]; exact hz39 o j ho
  refine J_aload_n 0 dX10_init_45 rfl rfl ?_
  refine J_pc (pc2 := 46) rfl ?_
  refine J_aload_n 1 dX10_init_46 rfl rfl ?_
  obtain ⟨h6, eh6⟩ : ∃ x : xH, x = xup h5 34 0 9 := ⟨_, rfl⟩
  refine J_putR (j := 0) xcf10 dX10_init_47 rfl rfl (by decide) kO34 xq264 (by decide) (by decide) (fun _ => ⟨rfl, rfl⟩) (by decide) eh6 ?_
  have zh6 : ∀ o j : Int, 39 < o → h6 o j = 0 := fun o j ho => by rw [eh6, xup_row (by omega)]; exact zh5 o j ho
  exact J_rt dX10_init_50 rfl ⟨rfl, rfl, by rw [eh6, eh5, eh4, eh3, eh2, eh1]; rfl⟩
def uji_Rows_40 (h : xH) : xH := xup (xup h 40 0 41) 40 1 42
theorem zji_Rows_40 {h : xH} (hz : ∀ o j : Int, 40 < o → h o j = 0) : ∀ o j : Int, 42 < o → uji_Rows_40 h o j = 0 := fun o j ho => by
  unfold uji_Rows_40
  rw [xup_row (by omega)]
  rw [xup_row (by omega)]
  exact hz o j (by omega)
theorem rji_Rows_40 {h : xH} {o : Int} (ho : o < 40) : uji_Rows_40 h o = h o := by
  unfold uji_Rows_40
  rw [xup_row (by omega), xup_row (by omega)]
theorem ji_Rows_40 {h : xH} (hz : ∀ o j : Int, 40 < o → h o j = 0) : J mX5_init false 2 520 0 40 (xen 0 [xR 40, xI 40]) [] h (fun r n' h' => r = none ∧ n' = 42 ∧ h' = uji_Rows_40 h) := by
  refine J_cong (ls2 := [(0, xR 40), (1, xI 40)]) (st2 := []) rfl rfl ?_
  refine J_aload_n 0 dX5_init_0 rfl rfl ?_
  refine J_obj dX5_init_1 ⟨xq175, xq147, xq148⟩ (xbl rfl) (xbl rfl) ?_
  refine J_iload_n 1 dX5_init_4 rfl rfl ?_
  refine J_iconst dX5_init_5 (by decide) ?_
  refine J_mmax dX5_init_6 ⟨xq176, xq177, xq129, xq178⟩ (xbl rfl) (xbl rfl) ?_
  refine J_cong (st2 := [xI 40]) rfl (by decide +kernel) ?_
  refine J_istore_n (y := 40) (ls' := [(2, xI 40), (0, xR 40), (1, xI 40)]) dX5_init_9 rfl (by decide) (by decide) rfl ?_
  refine J_aload_n 1 dX5_init_10 rfl rfl ?_
  refine J_iload_n 0 dX5_init_11 rfl rfl ?_
  refine J_bip dX5_init_12 (by decide) ?_
  refine J_imul dX5_init_14 ?_
  refine J_cong (st2 := [xI 480, xR 40]) rfl (by decide +kernel) ?_
  refine J_newa (rc2 := 1) (rs2 := 40) dX5_init_15 xq163 (by decide +kernel) (by decide +kernel) (by decide +kernel) (fun j => hz 41 j (by decide)) rfl rfl ?_
  refine J_n (m := 41) rfl ?_
  have hz41 : ∀ o j : Int, 41 < o → h o j = 0 := fun o j ho => hz o j (by omega)
  refine J_cong (st2 := [xR 41, xR 40]) rfl rfl ?_
  refine J_pc (pc2 := 17) rfl ?_
  obtain ⟨h1, eh1⟩ : ∃ x : xH, x = xup h 40 0 41 := ⟨_, rfl⟩
  refine J_putR (j := 0) xcf5 dX5_init_17 rfl rfl (by decide) kO40 xq179 (by decide) (by decide) (fun _ => ⟨rfl, rfl⟩) (by decide) eh1 ?_
  have zh1 : ∀ o j : Int, 41 < o → h1 o j = 0 := fun o j ho => by rw [eh1, xup_row (by omega)]; exact hz41 o j ho
  refine J_aload_n 1 dX5_init_20 rfl rfl ?_
  refine J_iload_n 0 dX5_init_21 rfl rfl ?_
  refine J_newa (rc2 := 0) (rs2 := 0) dX5_init_22 xq163 (by decide +kernel) (by decide +kernel) (by decide +kernel) (fun j => zh1 42 j (by decide)) rfl rfl ?_
  refine J_n (m := 42) rfl ?_
  have hz42 : ∀ o j : Int, 42 < o → h1 o j = 0 := fun o j ho => zh1 o j (by omega)
  refine J_cong (st2 := [xR 42, xR 40]) rfl rfl ?_
  obtain ⟨h2, eh2⟩ : ∃ x : xH, x = xup h1 40 1 42 := ⟨_, rfl⟩
  refine J_putR (j := 1) xcf5 dX5_init_24 rfl rfl (by decide) kO40 xq180 (by decide) (by decide) (fun _ => ⟨rfl, rfl⟩) (by decide) eh2 ?_
  have zh2 : ∀ o j : Int, 42 < o → h2 o j = 0 := fun o j ho => by rw [eh2, xup_row (by omega)]; exact hz42 o j ho
  exact J_rt dX5_init_27 rfl ⟨rfl, rfl, by rw [eh2, eh1]; rfl⟩
def uji_Rows_43 (h : xH) : xH := xup (xup h 43 0 44) 43 1 45
theorem zji_Rows_43 {h : xH} (hz : ∀ o j : Int, 43 < o → h o j = 0) : ∀ o j : Int, 45 < o → uji_Rows_43 h o j = 0 := fun o j ho => by
  unfold uji_Rows_43
  rw [xup_row (by omega)]
  rw [xup_row (by omega)]
  exact hz o j (by omega)
theorem rji_Rows_43 {h : xH} {o : Int} (ho : o < 43) : uji_Rows_43 h o = h o := by
  unfold uji_Rows_43
  rw [xup_row (by omega), xup_row (by omega)]
theorem ji_Rows_43 {h : xH} (hz : ∀ o j : Int, 43 < o → h o j = 0) : J mX5_init false 2 520 0 43 (xen 0 [xR 43, xI 40]) [] h (fun r n' h' => r = none ∧ n' = 45 ∧ h' = uji_Rows_43 h) := by
  refine J_cong (ls2 := [(0, xR 43), (1, xI 40)]) (st2 := []) rfl rfl ?_
  refine J_aload_n 0 dX5_init_0 rfl rfl ?_
  refine J_obj dX5_init_1 ⟨xq175, xq147, xq148⟩ (xbl rfl) (xbl rfl) ?_
  refine J_iload_n 1 dX5_init_4 rfl rfl ?_
  refine J_iconst dX5_init_5 (by decide) ?_
  refine J_mmax dX5_init_6 ⟨xq176, xq177, xq129, xq178⟩ (xbl rfl) (xbl rfl) ?_
  refine J_cong (st2 := [xI 40]) rfl (by decide +kernel) ?_
  refine J_istore_n (y := 40) (ls' := [(2, xI 40), (0, xR 43), (1, xI 40)]) dX5_init_9 rfl (by decide) (by decide) rfl ?_
  refine J_aload_n 1 dX5_init_10 rfl rfl ?_
  refine J_iload_n 0 dX5_init_11 rfl rfl ?_
  refine J_bip dX5_init_12 (by decide) ?_
  refine J_imul dX5_init_14 ?_
  refine J_cong (st2 := [xI 480, xR 43]) rfl (by decide +kernel) ?_
  refine J_newa (rc2 := 1) (rs2 := 40) dX5_init_15 xq163 (by decide +kernel) (by decide +kernel) (by decide +kernel) (fun j => hz 44 j (by decide)) rfl rfl ?_
  refine J_n (m := 44) rfl ?_
  have hz44 : ∀ o j : Int, 44 < o → h o j = 0 := fun o j ho => hz o j (by omega)
  refine J_cong (st2 := [xR 44, xR 43]) rfl rfl ?_
  refine J_pc (pc2 := 17) rfl ?_
  obtain ⟨h1, eh1⟩ : ∃ x : xH, x = xup h 43 0 44 := ⟨_, rfl⟩
  refine J_putR (j := 0) xcf5 dX5_init_17 rfl rfl (by decide) kO43 xq179 (by decide) (by decide) (fun _ => ⟨rfl, rfl⟩) (by decide) eh1 ?_
  have zh1 : ∀ o j : Int, 44 < o → h1 o j = 0 := fun o j ho => by rw [eh1, xup_row (by omega)]; exact hz44 o j ho
  refine J_aload_n 1 dX5_init_20 rfl rfl ?_
  refine J_iload_n 0 dX5_init_21 rfl rfl ?_
  refine J_newa (rc2 := 0) (rs2 := 0) dX5_init_22 xq163 (by decide +kernel) (by decide +kernel) (by decide +kernel) (fun j => zh1 45 j (by decide)) rfl rfl ?_
  refine J_n (m := 45) rfl ?_
  have hz45 : ∀ o j : Int, 45 < o → h1 o j = 0 := fun o j ho => zh1 o j (by omega)
  refine J_cong (st2 := [xR 45, xR 43]) rfl rfl ?_
  obtain ⟨h2, eh2⟩ : ∃ x : xH, x = xup h1 43 1 45 := ⟨_, rfl⟩
  refine J_putR (j := 1) xcf5 dX5_init_24 rfl rfl (by decide) kO43 xq180 (by decide) (by decide) (fun _ => ⟨rfl, rfl⟩) (by decide) eh2 ?_
  have zh2 : ∀ o j : Int, 45 < o → h2 o j = 0 := fun o j ho => by rw [eh2, xup_row (by omega)]; exact hz45 o j ho
  exact J_rt dX5_init_27 rfl ⟨rfl, rfl, by rw [eh2, eh1]; rfl⟩
def uji_Met_49 (h : xH) : xH := xup (xup (xup (xup (xup h 49 0 50) 49 1 51) 49 2 52) 49 3 53) 49 4 54
theorem zji_Met_49 {h : xH} (hz : ∀ o j : Int, 49 < o → h o j = 0) : ∀ o j : Int, 54 < o → uji_Met_49 h o j = 0 := fun o j ho => by
  unfold uji_Met_49
  rw [xup_row (by omega)]
  rw [xup_row (by omega)]
  rw [xup_row (by omega)]
  rw [xup_row (by omega)]
  rw [xup_row (by omega)]
  exact hz o j (by omega)
theorem rji_Met_49 {h : xH} {o : Int} (ho : o < 49) : uji_Met_49 h o = h o := by
  unfold uji_Met_49
  rw [xup_row (by omega), xup_row (by omega), xup_row (by omega), xup_row (by omega), xup_row (by omega)]
theorem ji_Met_49 {h : xH} (hz : ∀ o j : Int, 49 < o → h o j = 0) : J mX3_init false 5 40817 0 49 (xen 0 [xR 49]) [] h (fun r n' h' => r = none ∧ n' = 54 ∧ h' = uji_Met_49 h) := by
  refine J_cong (ls2 := [(0, xR 49)]) (st2 := []) rfl rfl ?_
  refine J_aload_n 0 dX3_init_0 rfl rfl ?_
  refine J_obj dX3_init_1 ⟨xq298, xq147, xq148⟩ (xbl rfl) (xbl rfl) ?_
  refine J_aload_n 0 dX3_init_4 rfl rfl ?_
  refine J_sip dX3_init_5 (by decide) ?_
  refine J_newa (rc2 := 4) (rs2 := 38416) dX3_init_8 xq163 (by decide +kernel) (by decide +kernel) (by decide +kernel) (fun j => hz 50 j (by decide)) rfl rfl ?_
  refine J_n (m := 50) rfl ?_
  have hz50 : ∀ o j : Int, 50 < o → h o j = 0 := fun o j ho => hz o j (by omega)
  refine J_cong (st2 := [xR 50, xR 49]) rfl rfl ?_
  obtain ⟨h1, eh1⟩ : ∃ x : xH, x = xup h 49 0 50 := ⟨_, rfl⟩
  refine J_putR (j := 0) xcf3 dX3_init_10 rfl rfl (by decide) kO49 xq299 (by decide) (by decide) (fun _ => ⟨rfl, rfl⟩) (by decide) eh1 ?_
  have zh1 : ∀ o j : Int, 50 < o → h1 o j = 0 := fun o j ho => by rw [eh1, xup_row (by omega)]; exact hz50 o j ho
  refine J_aload_n 0 dX3_init_13 rfl rfl ?_
  refine J_sip dX3_init_14 (by decide) ?_
  refine J_newa (rc2 := 3) (rs2 := 36015) dX3_init_17 xq163 (by decide +kernel) (by decide +kernel) (by decide +kernel) (fun j => zh1 51 j (by decide)) rfl rfl ?_
  refine J_n (m := 51) rfl ?_
  have hz51 : ∀ o j : Int, 51 < o → h1 o j = 0 := fun o j ho => zh1 o j (by omega)
  refine J_cong (st2 := [xR 51, xR 49]) rfl rfl ?_
  obtain ⟨h2, eh2⟩ : ∃ x : xH, x = xup h1 49 1 51 := ⟨_, rfl⟩
  refine J_putR (j := 1) xcf3 dX3_init_19 rfl rfl (by decide) kO49 xq300 (by decide) (by decide) (fun _ => ⟨rfl, rfl⟩) (by decide) eh2 ?_
  have zh2 : ∀ o j : Int, 51 < o → h2 o j = 0 := fun o j ho => by rw [eh2, xup_row (by omega)]; exact hz51 o j ho
  refine J_aload_n 0 dX3_init_22 rfl rfl ?_
  refine J_pc (pc2 := 23) rfl ?_
  refine J_sip dX3_init_23 (by decide) ?_
  refine J_newaz (rc2 := 2) (rs2 := 33614) dX3_init_26 xq327 (by decide +kernel) (by decide +kernel) (by decide +kernel) (fun j => zh2 52 j (by decide)) rfl rfl ?_
  refine J_n (m := 52) rfl ?_
  have hz52 : ∀ o j : Int, 52 < o → h2 o j = 0 := fun o j ho => zh2 o j (by omega)
  refine J_cong (st2 := [xR 52, xR 49]) rfl rfl ?_
  obtain ⟨h3, eh3⟩ : ∃ x : xH, x = xup h2 49 2 52 := ⟨_, rfl⟩
  refine J_putR (j := 2) xcf3 dX3_init_28 rfl rfl (by decide) kO49 xq301 (by decide) (by decide) (fun _ => ⟨rfl, rfl⟩) (by decide) eh3 ?_
  have zh3 : ∀ o j : Int, 52 < o → h3 o j = 0 := fun o j ho => by rw [eh3, xup_row (by omega)]; exact hz52 o j ho
  refine J_aload_n 0 dX3_init_31 rfl rfl ?_
  refine J_sip dX3_init_32 (by decide) ?_
  refine J_newaz (rc2 := 1) (rs2 := 31213) dX3_init_35 xq327 (by decide +kernel) (by decide +kernel) (by decide +kernel) (fun j => zh3 53 j (by decide)) rfl rfl ?_
  refine J_n (m := 53) rfl ?_
  have hz53 : ∀ o j : Int, 53 < o → h3 o j = 0 := fun o j ho => zh3 o j (by omega)
  refine J_cong (st2 := [xR 53, xR 49]) rfl rfl ?_
  obtain ⟨h4, eh4⟩ : ∃ x : xH, x = xup h3 49 3 53 := ⟨_, rfl⟩
  refine J_putR (j := 3) xcf3 dX3_init_37 rfl rfl (by decide) kO49 xq302 (by decide) (by decide) (fun _ => ⟨rfl, rfl⟩) (by decide) eh4 ?_
  have zh4 : ∀ o j : Int, 53 < o → h4 o j = 0 := fun o j ho => by rw [eh4, xup_row (by omega)]; exact hz53 o j ho
  refine J_aload_n 0 dX3_init_40 rfl rfl ?_
  refine J_sip dX3_init_41 (by decide) ?_
  refine J_newa (rc2 := 0) (rs2 := 0) dX3_init_44 xq163 (by decide +kernel) (by decide +kernel) (by decide +kernel) (fun j => zh4 54 j (by decide)) rfl rfl ?_
  refine J_n (m := 54) rfl ?_
  have hz54 : ∀ o j : Int, 54 < o → h4 o j = 0 := fun o j ho => zh4 o j (by omega)
  refine J_cong (st2 := [xR 54, xR 49]) rfl rfl ?_
  obtain ⟨h5, eh5⟩ : ∃ x : xH, x = xup h4 49 4 54 := ⟨_, rfl⟩
  refine J_putR (j := 4) xcf3 dX3_init_46 rfl rfl (by decide) kO49 xq303 (by decide) (by decide) (fun _ => ⟨rfl, rfl⟩) (by decide) eh5 ?_
  have zh5 : ∀ o j : Int, 54 < o → h5 o j = 0 := fun o j ho => by rw [eh5, xup_row (by omega)]; exact hz54 o j ho
  exact J_rt dX3_init_49 rfl ⟨rfl, rfl, by rw [eh5, eh4, eh3, eh2, eh1]; rfl⟩
def uji_Row_55 (h : xH) : xH := xup h 55 0 56
theorem zji_Row_55 {h : xH} (hz : ∀ o j : Int, 55 < o → h o j = 0) : ∀ o j : Int, 56 < o → uji_Row_55 h o j = 0 := fun o j ho => by
  unfold uji_Row_55
  rw [xup_row (by omega)]
  exact hz o j (by omega)
theorem rji_Row_55 {h : xH} {o : Int} (ho : o < 55) : uji_Row_55 h o = h o := by
  unfold uji_Row_55
  rw [xup_row (by omega)]
theorem ji_Row_55 {h : xH} (hz : ∀ o j : Int, 55 < o → h o j = 0) : J mX4_init false 1 12 0 55 (xen 0 [xR 55]) [] h (fun r n' h' => r = none ∧ n' = 56 ∧ h' = uji_Row_55 h) := by
  refine J_cong (ls2 := [(0, xR 55)]) (st2 := []) rfl rfl ?_
  refine J_aload_n 0 dX4_init_0 rfl rfl ?_
  refine J_obj dX4_init_1 ⟨xq244, xq147, xq148⟩ (xbl rfl) (xbl rfl) ?_
  refine J_aload_n 0 dX4_init_4 rfl rfl ?_
  refine J_bip dX4_init_5 (by decide) ?_
  refine J_newa (rc2 := 0) (rs2 := 0) dX4_init_7 xq163 (by decide +kernel) (by decide +kernel) (by decide +kernel) (fun j => hz 56 j (by decide)) rfl rfl ?_
  refine J_n (m := 56) rfl ?_
  have hz56 : ∀ o j : Int, 56 < o → h o j = 0 := fun o j ho => hz o j (by omega)
  refine J_cong (st2 := [xR 56, xR 55]) rfl rfl ?_
  obtain ⟨h1, eh1⟩ : ∃ x : xH, x = xup h 55 0 56 := ⟨_, rfl⟩
  refine J_putR (j := 0) xcf4 dX4_init_9 rfl rfl (by decide) kO55 xq245 (by decide) (by decide) (fun _ => ⟨rfl, rfl⟩) (by decide) eh1 ?_
  have zh1 : ∀ o j : Int, 56 < o → h1 o j = 0 := fun o j ho => by rw [eh1, xup_row (by omega)]; exact hz56 o j ho
  exact J_rt dX4_init_12 rfl ⟨rfl, rfl, by rw [eh1]; rfl⟩
def uji_Walk_48 (h : xH) : xH := xup (xup (xup (xup (xup (xup (xup (xup (uji_Row_55 (xup (uji_Met_49 h) 48 2 49)) 48 3 55) 48 4 57) 48 5 58) 48 6 59) 48 7 60) 48 8 61) 48 0 4) 48 1 9
theorem zji_Walk_48 {h : xH} (hz : ∀ o j : Int, 48 < o → h o j = 0) : ∀ o j : Int, 61 < o → uji_Walk_48 h o j = 0 := fun o j ho => by
  unfold uji_Walk_48
  rw [xup_row (by omega)]
  rw [xup_row (by omega)]
  rw [xup_row (by omega)]
  rw [xup_row (by omega)]
  rw [xup_row (by omega)]
  rw [xup_row (by omega)]
  rw [xup_row (by omega)]
  rw [xup_row (by omega)]
  refine zji_Row_55 (fun o j ho => ?_) o j (by omega)
  rw [xup_row (by omega)]
  refine zji_Met_49 (fun o j ho => ?_) o j (by omega)
  exact hz o j (by omega)
theorem rji_Walk_48 {h : xH} {o : Int} (ho : o < 48) : uji_Walk_48 h o = h o := by
  unfold uji_Walk_48
  rw [xup_row (by omega), xup_row (by omega), xup_row (by omega), xup_row (by omega), xup_row (by omega), xup_row (by omega), xup_row (by omega), xup_row (by omega), rji_Row_55 (by omega), xup_row (by omega), rji_Met_49 (by omega)]
theorem ji_Walk_48 {h : xH} (hz : ∀ o j : Int, 48 < o → h o j = 0) : J mX9_init false 13 41434 0 48 (xen 0 [xR 48, xR 4, xR 9]) [] h (fun r n' h' => r = none ∧ n' = 61 ∧ h' = uji_Walk_48 h) := by
  refine J_cong (ls2 := [(0, xR 48), (1, xR 4), (2, xR 9)]) (st2 := []) rfl rfl ?_
  refine J_aload_n 0 dX9_init_0 rfl rfl ?_
  refine J_obj dX9_init_1 ⟨xq292, xq147, xq148⟩ (xbl rfl) (xbl rfl) ?_
  refine J_aload_n 0 dX9_init_4 rfl rfl ?_
  refine J_new (rc2 := 12) (rs2 := 41426) xcf3 (by decide +kernel) dX9_init_5 xq293 xq294 xq134 (by decide +kernel) (fun j => hz 49 j (by decide)) rfl rfl ?_
  refine J_n (m := 49) rfl ?_
  have hz49 : ∀ o j : Int, 49 < o → h o j = 0 := fun o j ho => hz o j (by omega)
  refine J_cong (st2 := [xR 49, xR 48]) rfl rfl ?_
  refine J_dup dX9_init_8 rfl ?_
  obtain ⟨h1, eh1⟩ : ∃ x : xH, x = uji_Met_49 h := ⟨_, rfl⟩
  refine J_cI (Mc := mX3_init) (n2 := 54) (h2 := h1) (rc2 := 7) (rs2 := 609) [] dX9_init_9 ((fc_Met_init).fit ⟨xbl rfl, xbl rfl⟩) rfl ⟨Or.inr ⟨_, xq295⟩, rfl, xq296, rfl⟩ rfl (xbl rfl) (xbl rfl) ⟨rfl, rfl⟩ (by rw [eh1]; exact ji_Met_49 hz49) ?_
  have zh1 : ∀ o j : Int, 54 < o → h1 o j = 0 := fun o j ho => by rw [eh1]; exact zji_Met_49 hz49 o j ho
  obtain ⟨h2, eh2⟩ : ∃ x : xH, x = xup h1 48 2 49 := ⟨_, rfl⟩
  refine J_putR (j := 2) xcf9 dX9_init_12 rfl rfl (by decide) kO48 xq332 (by decide) (by decide) (fun _ => ⟨rfl, rfl⟩) (by decide) eh2 ?_
  have zh2 : ∀ o j : Int, 54 < o → h2 o j = 0 := fun o j ho => by rw [eh2, xup_row (by omega)]; exact zh1 o j ho
  refine J_aload_n 0 dX9_init_15 rfl rfl ?_
  refine J_new (rc2 := 6) (rs2 := 607) xcf4 (by decide +kernel) dX9_init_16 xq328 xq240 xq131 (by decide +kernel) (fun j => zh2 55 j (by decide)) rfl rfl ?_
  refine J_n (m := 55) rfl ?_
  have hz55 : ∀ o j : Int, 55 < o → h2 o j = 0 := fun o j ho => zh2 o j (by omega)
  refine J_cong (st2 := [xR 55, xR 48]) rfl rfl ?_
  refine J_dup dX9_init_19 rfl ?_
  obtain ⟨h3, eh3⟩ : ∃ x : xH, x = uji_Row_55 h2 := ⟨_, rfl⟩
  refine J_cI (Mc := mX4_init) (n2 := 56) (h2 := h3) (rc2 := 5) (rs2 := 595) [] dX9_init_20 ((fc_Row_init).fit ⟨xbl rfl, xbl rfl⟩) rfl ⟨Or.inr ⟨_, xq329⟩, rfl, xq242, rfl⟩ rfl (xbl rfl) (xbl rfl) ⟨rfl, rfl⟩ (by rw [eh3]; exact ji_Row_55 hz55) ?_
  have zh3 : ∀ o j : Int, 56 < o → h3 o j = 0 := fun o j ho => by rw [eh3]; exact zji_Row_55 hz55 o j ho
  refine J_pc (pc2 := 23) rfl ?_
  obtain ⟨h4, eh4⟩ : ∃ x : xH, x = xup h3 48 3 55 := ⟨_, rfl⟩
  refine J_putR (j := 3) xcf9 dX9_init_23 rfl rfl (by decide) kO48 xq334 (by decide) (by decide) (fun _ => ⟨rfl, rfl⟩) (by decide) eh4 ?_
  have zh4 : ∀ o j : Int, 56 < o → h4 o j = 0 := fun o j ho => by rw [eh4, xup_row (by omega)]; exact zh3 o j ho
  refine J_aload_n 0 dX9_init_26 rfl rfl ?_
  refine J_sip dX9_init_27 (by decide) ?_
  refine J_newa (rc2 := 4) (rs2 := 426) dX9_init_30 xq163 (by decide +kernel) (by decide +kernel) (by decide +kernel) (fun j => zh4 57 j (by decide)) rfl rfl ?_
  refine J_n (m := 57) rfl ?_
  have hz57 : ∀ o j : Int, 57 < o → h4 o j = 0 := fun o j ho => zh4 o j (by omega)
  refine J_cong (st2 := [xR 57, xR 48]) rfl rfl ?_
  obtain ⟨h5, eh5⟩ : ∃ x : xH, x = xup h4 48 4 57 := ⟨_, rfl⟩
  refine J_putR (j := 4) xcf9 dX9_init_32 rfl rfl (by decide) kO48 xq335 (by decide) (by decide) (fun _ => ⟨rfl, rfl⟩) (by decide) eh5 ?_
  have zh5 : ∀ o j : Int, 57 < o → h5 o j = 0 := fun o j ho => by rw [eh5, xup_row (by omega)]; exact hz57 o j ho
  refine J_aload_n 0 dX9_init_35 rfl rfl ?_
  refine J_bip dX9_init_36 (by decide) ?_
  refine J_newa (rc2 := 3) (rs2 := 413) dX9_init_38 xq163 (by decide +kernel) (by decide +kernel) (by decide +kernel) (fun j => zh5 58 j (by decide)) rfl rfl ?_
  refine J_n (m := 58) rfl ?_
  have hz58 : ∀ o j : Int, 58 < o → h5 o j = 0 := fun o j ho => zh5 o j (by omega)
  refine J_cong (st2 := [xR 58, xR 48]) rfl rfl ?_
  obtain ⟨h6, eh6⟩ : ∃ x : xH, x = xup h5 48 5 58 := ⟨_, rfl⟩
  refine J_putR (j := 5) xcf9 dX9_init_40 rfl rfl (by decide) kO48 xq336 (by decide) (by decide) (fun _ => ⟨rfl, rfl⟩) (by decide) eh6 ?_
  have zh6 : ∀ o j : Int, 58 < o → h6 o j = 0 := fun o j ho => by rw [eh6, xup_row (by omega)]; exact hz58 o j ho
  refine J_aload_n 0 dX9_init_43 rfl rfl ?_
  refine J_bip dX9_init_44 (by decide) ?_
  refine J_newa (rc2 := 2) (rs2 := 400) dX9_init_46 xq163 (by decide +kernel) (by decide +kernel) (by decide +kernel) (fun j => zh6 59 j (by decide)) rfl rfl ?_
  refine J_n (m := 59) rfl ?_
  have hz59 : ∀ o j : Int, 59 < o → h6 o j = 0 := fun o j ho => zh6 o j (by omega)
  refine J_cong (st2 := [xR 59, xR 48]) rfl rfl ?_
  refine J_pc (pc2 := 48) rfl ?_
  obtain ⟨h7, eh7⟩ : ∃ x : xH, x = xup h6 48 6 59 := ⟨_, rfl⟩
  refine J_putR (j := 6) xcf9 dX9_init_48 rfl rfl (by decide) kO48 xq337 (by decide) (by decide) (fun _ => ⟨rfl, rfl⟩) (by decide) eh7 ?_
  have zh7 : ∀ o j : Int, 59 < o → h7 o j = 0 := fun o j ho => by rw [eh7, xup_row (by omega)]; exact hz59 o j ho
  refine J_aload_n 0 dX9_init_51 rfl rfl ?_
  refine J_sip dX9_init_52 (by decide) ?_
  refine J_newa (rc2 := 1) (rs2 := 200) dX9_init_55 xq163 (by decide +kernel) (by decide +kernel) (by decide +kernel) (fun j => zh7 60 j (by decide)) rfl rfl ?_
  refine J_n (m := 60) rfl ?_
  have hz60 : ∀ o j : Int, 60 < o → h7 o j = 0 := fun o j ho => zh7 o j (by omega)
  refine J_cong (st2 := [xR 60, xR 48]) rfl rfl ?_
  obtain ⟨h8, eh8⟩ : ∃ x : xH, x = xup h7 48 7 60 := ⟨_, rfl⟩
  refine J_putR (j := 7) xcf9 dX9_init_57 rfl rfl (by decide) kO48 xq338 (by decide) (by decide) (fun _ => ⟨rfl, rfl⟩) (by decide) eh8 ?_
  have zh8 : ∀ o j : Int, 60 < o → h8 o j = 0 := fun o j ho => by rw [eh8, xup_row (by omega)]; exact hz60 o j ho
  refine J_aload_n 0 dX9_init_60 rfl rfl ?_
  refine J_sip dX9_init_61 (by decide) ?_
  refine J_newa (rc2 := 0) (rs2 := 0) dX9_init_64 xq163 (by decide +kernel) (by decide +kernel) (by decide +kernel) (fun j => zh8 61 j (by decide)) rfl rfl ?_
  refine J_n (m := 61) rfl ?_
  have hz61 : ∀ o j : Int, 61 < o → h8 o j = 0 := fun o j ho => zh8 o j (by omega)
  refine J_cong (st2 := [xR 61, xR 48]) rfl rfl ?_
  obtain ⟨h9, eh9⟩ : ∃ x : xH, x = xup h8 48 8 61 := ⟨_, rfl⟩
  refine J_putR (j := 8) xcf9 dX9_init_66 rfl rfl (by decide) kO48 xq340 (by decide) (by decide) (fun _ => ⟨rfl, rfl⟩) (by decide) eh9 ?_
  have zh9 : ∀ o j : Int, 61 < o → h9 o j = 0 := fun o j ho => by rw [eh9, xup_row (by omega)]; exact hz61 o j ho
  refine J_aload_n 0 dX9_init_69 rfl rfl ?_
  refine J_aload_n 1 dX9_init_70 rfl rfl ?_
  obtain ⟨h10, eh10⟩ : ∃ x : xH, x = xup h9 48 0 4 := ⟨_, rfl⟩
  refine J_putR (j := 0) xcf9 dX9_init_71 rfl rfl (by decide) kO48 xq330 (by decide) (by decide) (fun _ => ⟨rfl, rfl⟩) (by decide) eh10 ?_
  have zh10 : ∀ o j : Int, 61 < o → h10 o j = 0 := fun o j ho => by rw [eh10, xup_row (by omega)]; exact zh9 o j ho
  refine J_pc (pc2 := 74) rfl ?_
  refine J_aload_n 0 dX9_init_74 rfl rfl ?_
  refine J_aload_n 2 dX9_init_75 rfl rfl ?_
  obtain ⟨h11, eh11⟩ : ∃ x : xH, x = xup h10 48 1 9 := ⟨_, rfl⟩
  refine J_putR (j := 1) xcf9 dX9_init_76 rfl rfl (by decide) kO48 xq331 (by decide) (by decide) (fun _ => ⟨rfl, rfl⟩) (by decide) eh11 ?_
  have zh11 : ∀ o j : Int, 61 < o → h11 o j = 0 := fun o j ho => by rw [eh11, xup_row (by omega)]; exact zh10 o j ho
  exact J_rt dX9_init_79 rfl ⟨rfl, rfl, by rw [eh11, eh10, eh9, eh8, eh7, eh6, eh5, eh4, eh3, eh2, eh1]; rfl⟩
def uji_Found_62 (h : xH) : xH := xup (xup (xup (xup h 62 1 63) 62 2 64) 62 3 65) 62 0 4
theorem zji_Found_62 {h : xH} (hz : ∀ o j : Int, 62 < o → h o j = 0) : ∀ o j : Int, 65 < o → uji_Found_62 h o j = 0 := fun o j ho => by
  unfold uji_Found_62
  rw [xup_row (by omega)]
  rw [xup_row (by omega)]
  rw [xup_row (by omega)]
  rw [xup_row (by omega)]
  exact hz o j (by omega)
theorem rji_Found_62 {h : xH} {o : Int} (ho : o < 62) : uji_Found_62 h o = h o := by
  unfold uji_Found_62
  rw [xup_row (by omega), xup_row (by omega), xup_row (by omega), xup_row (by omega)]
theorem ji_Found_62 {h : xH} (hz : ∀ o j : Int, 62 < o → h o j = 0) : J mX0_init false 3 600 0 62 (xen 0 [xR 62, xR 4]) [] h (fun r n' h' => r = none ∧ n' = 65 ∧ h' = uji_Found_62 h) := by
  refine J_cong (ls2 := [(0, xR 62), (1, xR 4)]) (st2 := []) rfl rfl ?_
  refine J_aload_n 0 dX0_init_0 rfl rfl ?_
  refine J_obj dX0_init_1 ⟨xq366, xq147, xq148⟩ (xbl rfl) (xbl rfl) ?_
  refine J_aload_n 0 dX0_init_4 rfl rfl ?_
  refine J_sip dX0_init_5 (by decide) ?_
  refine J_newa (rc2 := 2) (rs2 := 400) dX0_init_8 xq163 (by decide +kernel) (by decide +kernel) (by decide +kernel) (fun j => hz 63 j (by decide)) rfl rfl ?_
  refine J_n (m := 63) rfl ?_
  have hz63 : ∀ o j : Int, 63 < o → h o j = 0 := fun o j ho => hz o j (by omega)
  refine J_cong (st2 := [xR 63, xR 62]) rfl rfl ?_
  obtain ⟨h1, eh1⟩ : ∃ x : xH, x = xup h 62 1 63 := ⟨_, rfl⟩
  refine J_putR (j := 1) xcf0 dX0_init_10 rfl rfl (by decide) kO62 xq368 (by decide) (by decide) (fun _ => ⟨rfl, rfl⟩) (by decide) eh1 ?_
  have zh1 : ∀ o j : Int, 63 < o → h1 o j = 0 := fun o j ho => by rw [eh1, xup_row (by omega)]; exact hz63 o j ho
  refine J_aload_n 0 dX0_init_13 rfl rfl ?_
  refine J_sip dX0_init_14 (by decide) ?_
  refine J_newa (rc2 := 1) (rs2 := 200) dX0_init_17 xq163 (by decide +kernel) (by decide +kernel) (by decide +kernel) (fun j => zh1 64 j (by decide)) rfl rfl ?_
  refine J_n (m := 64) rfl ?_
  have hz64 : ∀ o j : Int, 64 < o → h1 o j = 0 := fun o j ho => zh1 o j (by omega)
  refine J_cong (st2 := [xR 64, xR 62]) rfl rfl ?_
  obtain ⟨h2, eh2⟩ : ∃ x : xH, x = xup h1 62 2 64 := ⟨_, rfl⟩
  refine J_putR (j := 2) xcf0 dX0_init_19 rfl rfl (by decide) kO62 xq369 (by decide) (by decide) (fun _ => ⟨rfl, rfl⟩) (by decide) eh2 ?_
  have zh2 : ∀ o j : Int, 64 < o → h2 o j = 0 := fun o j ho => by rw [eh2, xup_row (by omega)]; exact hz64 o j ho
  refine J_aload_n 0 dX0_init_22 rfl rfl ?_
  refine J_pc (pc2 := 23) rfl ?_
  refine J_sip dX0_init_23 (by decide) ?_
  refine J_newa (rc2 := 0) (rs2 := 0) dX0_init_26 xq163 (by decide +kernel) (by decide +kernel) (by decide +kernel) (fun j => zh2 65 j (by decide)) rfl rfl ?_
  refine J_n (m := 65) rfl ?_
  have hz65 : ∀ o j : Int, 65 < o → h2 o j = 0 := fun o j ho => zh2 o j (by omega)
  refine J_cong (st2 := [xR 65, xR 62]) rfl rfl ?_
  obtain ⟨h3, eh3⟩ : ∃ x : xH, x = xup h2 62 3 65 := ⟨_, rfl⟩
  refine J_putR (j := 3) xcf0 dX0_init_28 rfl rfl (by decide) kO62 xq370 (by decide) (by decide) (fun _ => ⟨rfl, rfl⟩) (by decide) eh3 ?_
  have zh3 : ∀ o j : Int, 65 < o → h3 o j = 0 := fun o j ho => by rw [eh3, xup_row (by omega)]; exact hz65 o j ho
  refine J_aload_n 0 dX0_init_31 rfl rfl ?_
  refine J_aload_n 1 dX0_init_32 rfl rfl ?_
  obtain ⟨h4, eh4⟩ : ∃ x : xH, x = xup h3 62 0 4 := ⟨_, rfl⟩
  refine J_putR (j := 0) xcf0 dX0_init_33 rfl rfl (by decide) kO62 xq367 (by decide) (by decide) (fun _ => ⟨rfl, rfl⟩) (by decide) eh4 ?_
  have zh4 : ∀ o j : Int, 65 < o → h4 o j = 0 := fun o j ho => by rw [eh4, xup_row (by omega)]; exact zh3 o j ho
  exact J_rt dX0_init_36 rfl ⟨rfl, rfl, by rw [eh4, eh3, eh2, eh1]; rfl⟩
def uji_Found_66 (h : xH) : xH := xup (xup (xup (xup h 66 1 67) 66 2 68) 66 3 69) 66 0 4
theorem zji_Found_66 {h : xH} (hz : ∀ o j : Int, 66 < o → h o j = 0) : ∀ o j : Int, 69 < o → uji_Found_66 h o j = 0 := fun o j ho => by
  unfold uji_Found_66
  rw [xup_row (by omega)]
  rw [xup_row (by omega)]
  rw [xup_row (by omega)]
  rw [xup_row (by omega)]
  exact hz o j (by omega)
theorem rji_Found_66 {h : xH} {o : Int} (ho : o < 66) : uji_Found_66 h o = h o := by
  unfold uji_Found_66
  rw [xup_row (by omega), xup_row (by omega), xup_row (by omega), xup_row (by omega)]
theorem ji_Found_66 {h : xH} (hz : ∀ o j : Int, 66 < o → h o j = 0) : J mX0_init false 3 600 0 66 (xen 0 [xR 66, xR 4]) [] h (fun r n' h' => r = none ∧ n' = 69 ∧ h' = uji_Found_66 h) := by
  refine J_cong (ls2 := [(0, xR 66), (1, xR 4)]) (st2 := []) rfl rfl ?_
  refine J_aload_n 0 dX0_init_0 rfl rfl ?_
  refine J_obj dX0_init_1 ⟨xq366, xq147, xq148⟩ (xbl rfl) (xbl rfl) ?_
  refine J_aload_n 0 dX0_init_4 rfl rfl ?_
  refine J_sip dX0_init_5 (by decide) ?_
  refine J_newa (rc2 := 2) (rs2 := 400) dX0_init_8 xq163 (by decide +kernel) (by decide +kernel) (by decide +kernel) (fun j => hz 67 j (by decide)) rfl rfl ?_
  refine J_n (m := 67) rfl ?_
  have hz67 : ∀ o j : Int, 67 < o → h o j = 0 := fun o j ho => hz o j (by omega)
  refine J_cong (st2 := [xR 67, xR 66]) rfl rfl ?_
  obtain ⟨h1, eh1⟩ : ∃ x : xH, x = xup h 66 1 67 := ⟨_, rfl⟩
  refine J_putR (j := 1) xcf0 dX0_init_10 rfl rfl (by decide) kO66 xq368 (by decide) (by decide) (fun _ => ⟨rfl, rfl⟩) (by decide) eh1 ?_
  have zh1 : ∀ o j : Int, 67 < o → h1 o j = 0 := fun o j ho => by rw [eh1, xup_row (by omega)]; exact hz67 o j ho
  refine J_aload_n 0 dX0_init_13 rfl rfl ?_
  refine J_sip dX0_init_14 (by decide) ?_
  refine J_newa (rc2 := 1) (rs2 := 200) dX0_init_17 xq163 (by decide +kernel) (by decide +kernel) (by decide +kernel) (fun j => zh1 68 j (by decide)) rfl rfl ?_
  refine J_n (m := 68) rfl ?_
  have hz68 : ∀ o j : Int, 68 < o → h1 o j = 0 := fun o j ho => zh1 o j (by omega)
  refine J_cong (st2 := [xR 68, xR 66]) rfl rfl ?_
  obtain ⟨h2, eh2⟩ : ∃ x : xH, x = xup h1 66 2 68 := ⟨_, rfl⟩
  refine J_putR (j := 2) xcf0 dX0_init_19 rfl rfl (by decide) kO66 xq369 (by decide) (by decide) (fun _ => ⟨rfl, rfl⟩) (by decide) eh2 ?_
  have zh2 : ∀ o j : Int, 68 < o → h2 o j = 0 := fun o j ho => by rw [eh2, xup_row (by omega)]; exact hz68 o j ho
  refine J_aload_n 0 dX0_init_22 rfl rfl ?_
  refine J_pc (pc2 := 23) rfl ?_
  refine J_sip dX0_init_23 (by decide) ?_
  refine J_newa (rc2 := 0) (rs2 := 0) dX0_init_26 xq163 (by decide +kernel) (by decide +kernel) (by decide +kernel) (fun j => zh2 69 j (by decide)) rfl rfl ?_
  refine J_n (m := 69) rfl ?_
  have hz69 : ∀ o j : Int, 69 < o → h2 o j = 0 := fun o j ho => zh2 o j (by omega)
  refine J_cong (st2 := [xR 69, xR 66]) rfl rfl ?_
  obtain ⟨h3, eh3⟩ : ∃ x : xH, x = xup h2 66 3 69 := ⟨_, rfl⟩
  refine J_putR (j := 3) xcf0 dX0_init_28 rfl rfl (by decide) kO66 xq370 (by decide) (by decide) (fun _ => ⟨rfl, rfl⟩) (by decide) eh3 ?_
  have zh3 : ∀ o j : Int, 69 < o → h3 o j = 0 := fun o j ho => by rw [eh3, xup_row (by omega)]; exact hz69 o j ho
  refine J_aload_n 0 dX0_init_31 rfl rfl ?_
  refine J_aload_n 1 dX0_init_32 rfl rfl ?_
  obtain ⟨h4, eh4⟩ : ∃ x : xH, x = xup h3 66 0 4 := ⟨_, rfl⟩
  refine J_putR (j := 0) xcf0 dX0_init_33 rfl rfl (by decide) kO66 xq367 (by decide) (by decide) (fun _ => ⟨rfl, rfl⟩) (by decide) eh4 ?_
  have zh4 : ∀ o j : Int, 69 < o → h4 o j = 0 := fun o j ho => by rw [eh4, xup_row (by omega)]; exact zh3 o j ho
  exact J_rt dX0_init_36 rfl ⟨rfl, rfl, by rw [eh4, eh3, eh2, eh1]; rfl⟩
def uji_Mend_70 (h : xH) : xH := xup (xup (xup (xup (xup (xup h 70 0 71) 70 1 72) 70 2 73) 70 3 74) 70 4 75) 70 5 76
theorem zji_Mend_70 {h : xH} (hz : ∀ o j : Int, 70 < o → h o j = 0) : ∀ o j : Int, 76 < o → uji_Mend_70 h o j = 0 := fun o j ho => by
  unfold uji_Mend_70
  rw [xup_row (by omega)]
  rw [xup_row (by omega)]
  rw [xup_row (by omega)]
  rw [xup_row (by omega)]
  rw [xup_row (by omega)]
  rw [xup_row (by omega)]
  exact hz o j (by omega)
theorem rji_Mend_70 {h : xH} {o : Int} (ho : o < 70) : uji_Mend_70 h o = h o := by
  unfold uji_Mend_70
  rw [xup_row (by omega), xup_row (by omega), xup_row (by omega), xup_row (by omega), xup_row (by omega), xup_row (by omega)]
theorem ji_Mend_70 {h : xH} (hz : ∀ o j : Int, 70 < o → h o j = 0) : J mX2_init false 6 218 0 70 (xen 0 [xR 70]) [] h (fun r n' h' => r = none ∧ n' = 76 ∧ h' = uji_Mend_70 h) := by
  refine J_cong (ls2 := [(0, xR 70)]) (st2 := []) rfl rfl ?_
  refine J_aload_n 0 dX2_init_0 rfl rfl ?_
  refine J_obj dX2_init_1 ⟨xq389, xq147, xq148⟩ (xbl rfl) (xbl rfl) ?_
  refine J_aload_n 0 dX2_init_4 rfl rfl ?_
  refine J_bip dX2_init_5 (by decide) ?_
  refine J_newa (rc2 := 5) (rs2 := 158) dX2_init_7 xq163 (by decide +kernel) (by decide +kernel) (by decide +kernel) (fun j => hz 71 j (by decide)) rfl rfl ?_
  refine J_n (m := 71) rfl ?_
  have hz71 : ∀ o j : Int, 71 < o → h o j = 0 := fun o j ho => hz o j (by omega)
  refine J_cong (st2 := [xR 71, xR 70]) rfl rfl ?_
  obtain ⟨h1, eh1⟩ : ∃ x : xH, x = xup h 70 0 71 := ⟨_, rfl⟩
  refine J_putR (j := 0) xcf2 dX2_init_9 rfl rfl (by decide) kO70 xq390 (by decide) (by decide) (fun _ => ⟨rfl, rfl⟩) (by decide) eh1 ?_
  have zh1 : ∀ o j : Int, 71 < o → h1 o j = 0 := fun o j ho => by rw [eh1, xup_row (by omega)]; exact hz71 o j ho
  refine J_aload_n 0 dX2_init_12 rfl rfl ?_
  refine J_bip dX2_init_13 (by decide) ?_
  refine J_newa (rc2 := 4) (rs2 := 98) dX2_init_15 xq163 (by decide +kernel) (by decide +kernel) (by decide +kernel) (fun j => zh1 72 j (by decide)) rfl rfl ?_
  refine J_n (m := 72) rfl ?_
  have hz72 : ∀ o j : Int, 72 < o → h1 o j = 0 := fun o j ho => zh1 o j (by omega)
  refine J_cong (st2 := [xR 72, xR 70]) rfl rfl ?_
  obtain ⟨h2, eh2⟩ : ∃ x : xH, x = xup h1 70 1 72 := ⟨_, rfl⟩
  refine J_putR (j := 1) xcf2 dX2_init_17 rfl rfl (by decide) kO70 xq391 (by decide) (by decide) (fun _ => ⟨rfl, rfl⟩) (by decide) eh2 ?_
  have zh2 : ∀ o j : Int, 72 < o → h2 o j = 0 := fun o j ho => by rw [eh2, xup_row (by omega)]; exact hz72 o j ho
  refine J_aload_n 0 dX2_init_20 rfl rfl ?_
  refine J_pc (pc2 := 21) rfl ?_
  refine J_bip dX2_init_21 (by decide) ?_
  refine J_newa (rc2 := 3) (rs2 := 38) dX2_init_23 xq163 (by decide +kernel) (by decide +kernel) (by decide +kernel) (fun j => zh2 73 j (by decide)) rfl rfl ?_
  refine J_n (m := 73) rfl ?_
  have hz73 : ∀ o j : Int, 73 < o → h2 o j = 0 := fun o j ho => zh2 o j (by omega)
  refine J_cong (st2 := [xR 73, xR 70]) rfl rfl ?_
  obtain ⟨h3, eh3⟩ : ∃ x : xH, x = xup h2 70 2 73 := ⟨_, rfl⟩
  refine J_putR (j := 2) xcf2 dX2_init_25 rfl rfl (by decide) kO70 xq392 (by decide) (by decide) (fun _ => ⟨rfl, rfl⟩) (by decide) eh3 ?_
  have zh3 : ∀ o j : Int, 73 < o → h3 o j = 0 := fun o j ho => by rw [eh3, xup_row (by omega)]; exact hz73 o j ho
  refine J_aload_n 0 dX2_init_28 rfl rfl ?_
  refine J_bip dX2_init_29 (by decide) ?_
  refine J_newa (rc2 := 2) (rs2 := 25) dX2_init_31 xq163 (by decide +kernel) (by decide +kernel) (by decide +kernel) (fun j => zh3 74 j (by decide)) rfl rfl ?_
  refine J_n (m := 74) rfl ?_
  have hz74 : ∀ o j : Int, 74 < o → h3 o j = 0 := fun o j ho => zh3 o j (by omega)
  refine J_cong (st2 := [xR 74, xR 70]) rfl rfl ?_
  obtain ⟨h4, eh4⟩ : ∃ x : xH, x = xup h3 70 3 74 := ⟨_, rfl⟩
  refine J_putR (j := 3) xcf2 dX2_init_33 rfl rfl (by decide) kO70 xq393 (by decide) (by decide) (fun _ => ⟨rfl, rfl⟩) (by decide) eh4 ?_
  have zh4 : ∀ o j : Int, 74 < o → h4 o j = 0 := fun o j ho => by rw [eh4, xup_row (by omega)]; exact hz74 o j ho
  refine J_aload_n 0 dX2_init_36 rfl rfl ?_
  refine J_bip dX2_init_37 (by decide) ?_
  refine J_newa (rc2 := 1) (rs2 := 12) dX2_init_39 xq163 (by decide +kernel) (by decide +kernel) (by decide +kernel) (fun j => zh4 75 j (by decide)) rfl rfl ?_
  refine J_n (m := 75) rfl ?_
  have hz75 : ∀ o j : Int, 75 < o → h4 o j = 0 := fun o j ho => zh4 o j (by omega)
  refine J_cong (st2 := [xR 75, xR 70]) rfl rfl ?_
  obtain ⟨h5, eh5⟩ : ∃ x : xH, x = xup h4 70 4 75 := ⟨_, rfl⟩
  refine J_putR (j := 4) xcf2 dX2_init_41 rfl rfl (by decide) kO70 xq394 (by decide) (by decide) (fun _ => ⟨rfl, rfl⟩) (by decide) eh5 ?_
  have zh5 : ∀ o j : Int, 75 < o → h5 o j = 0 := fun o j ho => by rw [eh5, xup_row (by omega)]; exact hz75 o j ho
  refine J_aload_n 0 dX2_init_44 rfl rfl ?_
  refine J_pc (pc2 := 45) rfl ?_
  refine J_bip dX2_init_45 (by decide) ?_
  refine J_newa (rc2 := 0) (rs2 := 0) dX2_init_47 xq163 (by decide +kernel) (by decide +kernel) (by decide +kernel) (fun j => zh5 76 j (by decide)) rfl rfl ?_
  refine J_n (m := 76) rfl ?_
  have hz76 : ∀ o j : Int, 76 < o → h5 o j = 0 := fun o j ho => zh5 o j (by omega)
  refine J_cong (st2 := [xR 76, xR 70]) rfl rfl ?_
  obtain ⟨h6, eh6⟩ : ∃ x : xH, x = xup h5 70 5 76 := ⟨_, rfl⟩
  refine J_putR (j := 5) xcf2 dX2_init_49 rfl rfl (by decide) kO70 xq395 (by decide) (by decide) (fun _ => ⟨rfl, rfl⟩) (by decide) eh6 ?_
  have zh6 : ∀ o j : Int, 76 < o → h6 o j = 0 := fun o j ho => by rw [eh6, xup_row (by omega)]; exact hz76 o j ho
  exact J_rt dX2_init_52 rfl ⟨rfl, rfl, by rw [eh6, eh5, eh4, eh3, eh2, eh1]; rfl⟩
def uji_Trays_77 (h : xH) : xH := xup (xup (xup h 77 0 78) 77 1 79) 77 2 80
theorem zji_Trays_77 {h : xH} (hz : ∀ o j : Int, 77 < o → h o j = 0) : ∀ o j : Int, 80 < o → uji_Trays_77 h o j = 0 := fun o j ho => by
  unfold uji_Trays_77
  rw [xup_row (by omega)]
  rw [xup_row (by omega)]
  rw [xup_row (by omega)]
  exact hz o j (by omega)
theorem rji_Trays_77 {h : xH} {o : Int} (ho : o < 77) : uji_Trays_77 h o = h o := by
  unfold uji_Trays_77
  rw [xup_row (by omega), xup_row (by omega), xup_row (by omega)]
theorem ji_Trays_77 {h : xH} (hz : ∀ o j : Int, 77 < o → h o j = 0) : J mX8_init false 3 224 0 77 (xen 0 [xR 77]) [] h (fun r n' h' => r = none ∧ n' = 80 ∧ h' = uji_Trays_77 h) := by
  refine J_cong (ls2 := [(0, xR 77)]) (st2 := []) rfl rfl ?_
  refine J_aload_n 0 dX8_init_0 rfl rfl ?_
  refine J_obj dX8_init_1 ⟨xq420, xq147, xq148⟩ (xbl rfl) (xbl rfl) ?_
  refine J_aload_n 0 dX8_init_4 rfl rfl ?_
  refine J_bip dX8_init_5 (by decide) ?_
  refine J_newa (rc2 := 2) (rs2 := 216) dX8_init_7 xq163 (by decide +kernel) (by decide +kernel) (by decide +kernel) (fun j => hz 78 j (by decide)) rfl rfl ?_
  refine J_n (m := 78) rfl ?_
  have hz78 : ∀ o j : Int, 78 < o → h o j = 0 := fun o j ho => hz o j (by omega)
  refine J_cong (st2 := [xR 78, xR 77]) rfl rfl ?_
  obtain ⟨h1, eh1⟩ : ∃ x : xH, x = xup h 77 0 78 := ⟨_, rfl⟩
  refine J_putR (j := 0) xcf8 dX8_init_9 rfl rfl (by decide) kO77 xq421 (by decide) (by decide) (fun _ => ⟨rfl, rfl⟩) (by decide) eh1 ?_
  have zh1 : ∀ o j : Int, 78 < o → h1 o j = 0 := fun o j ho => by rw [eh1, xup_row (by omega)]; exact hz78 o j ho
  refine J_aload_n 0 dX8_init_12 rfl rfl ?_
  refine J_bip dX8_init_13 (by decide) ?_
  refine J_newa (rc2 := 1) (rs2 := 208) dX8_init_15 xq163 (by decide +kernel) (by decide +kernel) (by decide +kernel) (fun j => zh1 79 j (by decide)) rfl rfl ?_
  refine J_n (m := 79) rfl ?_
  have hz79 : ∀ o j : Int, 79 < o → h1 o j = 0 := fun o j ho => zh1 o j (by omega)
  refine J_cong (st2 := [xR 79, xR 77]) rfl rfl ?_
  obtain ⟨h2, eh2⟩ : ∃ x : xH, x = xup h1 77 1 79 := ⟨_, rfl⟩
  refine J_putR (j := 1) xcf8 dX8_init_17 rfl rfl (by decide) kO77 xq422 (by decide) (by decide) (fun _ => ⟨rfl, rfl⟩) (by decide) eh2 ?_
  have zh2 : ∀ o j : Int, 79 < o → h2 o j = 0 := fun o j ho => by rw [eh2, xup_row (by omega)]; exact hz79 o j ho
  refine J_aload_n 0 dX8_init_20 rfl rfl ?_
  refine J_pc (pc2 := 21) rfl ?_
  refine J_sip dX8_init_21 (by decide) ?_
  refine J_newa (rc2 := 0) (rs2 := 0) dX8_init_24 xq163 (by decide +kernel) (by decide +kernel) (by decide +kernel) (fun j => zh2 80 j (by decide)) rfl rfl ?_
  refine J_n (m := 80) rfl ?_
  have hz80 : ∀ o j : Int, 80 < o → h2 o j = 0 := fun o j ho => zh2 o j (by omega)
  refine J_cong (st2 := [xR 80, xR 77]) rfl rfl ?_
  obtain ⟨h3, eh3⟩ : ∃ x : xH, x = xup h2 77 2 80 := ⟨_, rfl⟩
  refine J_putR (j := 2) xcf8 dX8_init_26 rfl rfl (by decide) kO77 xq423 (by decide) (by decide) (fun _ => ⟨rfl, rfl⟩) (by decide) eh3 ?_
  have zh3 : ∀ o j : Int, 80 < o → h3 o j = 0 := fun o j ho => by rw [eh3, xup_row (by omega)]; exact hz80 o j ho
  exact J_rt dX8_init_29 rfl ⟨rfl, rfl, by rw [eh3, eh2, eh1]; rfl⟩
def uji_WM_1 (h : xH) : xH := xup (uji_Trays_77 (xup (uji_Mend_70 (xup (uji_Found_66 (xup (uji_Found_62 (xup (uji_Walk_48 (xup (xup (xup (uji_Rows_43 (xup (uji_Rows_40 (xup (uji_Way_34 (xup (uji_Way_28 (xup (uji_Rows_25 (xup (uji_Row_23 (xup (uji_Row_21 (xup (uji_Slips_9 (xup (uji_Lex_4 (xup (uji_Tape_2 h) 1 0 2)) 1 1 4)) 1 2 9)) 1 3 21)) 1 4 23)) 1 5 25)) 1 6 28)) 1 7 34)) 1 8 40)) 1 9 43) 1 10 46) 1 11 47)) 1 12 48)) 1 13 62)) 1 14 66)) 1 15 70)) 1 16 77
theorem zji_WM_1 {h : xH} (hz : ∀ o j : Int, 1 < o → h o j = 0) : ∀ o j : Int, 80 < o → uji_WM_1 h o j = 0 := fun o j ho => by
  unfold uji_WM_1
  rw [xup_row (by omega)]
  refine zji_Trays_77 (fun o j ho => ?_) o j (by omega)
  rw [xup_row (by omega)]
  refine zji_Mend_70 (fun o j ho => ?_) o j (by omega)
  rw [xup_row (by omega)]
  refine zji_Found_66 (fun o j ho => ?_) o j (by omega)
  rw [xup_row (by omega)]
  refine zji_Found_62 (fun o j ho => ?_) o j (by omega)
  rw [xup_row (by omega)]
  refine zji_Walk_48 (fun o j ho => ?_) o j (by omega)
  rw [xup_row (by omega)]
  rw [xup_row (by omega)]
  rw [xup_row (by omega)]
  refine zji_Rows_43 (fun o j ho => ?_) o j (by omega)
  rw [xup_row (by omega)]
  refine zji_Rows_40 (fun o j ho => ?_) o j (by omega)
  rw [xup_row (by omega)]
  refine zji_Way_34 (fun o j ho => ?_) o j (by omega)
  rw [xup_row (by omega)]
  refine zji_Way_28 (fun o j ho => ?_) o j (by omega)
  rw [xup_row (by omega)]
  refine zji_Rows_25 (fun o j ho => ?_) o j (by omega)
  rw [xup_row (by omega)]
  refine zji_Row_23 (fun o j ho => ?_) o j (by omega)
  rw [xup_row (by omega)]
  refine zji_Row_21 (fun o j ho => ?_) o j (by omega)
  rw [xup_row (by omega)]
  refine zji_Slips_9 (fun o j ho => ?_) o j (by omega)
  rw [xup_row (by omega)]
  refine zji_Lex_4 (fun o j ho => ?_) o j (by omega)
  rw [xup_row (by omega)]
  refine zji_Tape_2 (fun o j ho => ?_) o j (by omega)
  exact hz o j (by omega)
theorem rji_WM_1 {h : xH} {o : Int} (ho : o < 1) : uji_WM_1 h o = h o := by
  unfold uji_WM_1
  rw [xup_row (by omega), rji_Trays_77 (by omega), xup_row (by omega), rji_Mend_70 (by omega), xup_row (by omega), rji_Found_66 (by omega), xup_row (by omega), rji_Found_62 (by omega), xup_row (by omega), rji_Walk_48 (by omega), xup_row (by omega), xup_row (by omega), xup_row (by omega), rji_Rows_43 (by omega), xup_row (by omega), rji_Rows_40 (by omega), xup_row (by omega), rji_Way_34 (by omega), xup_row (by omega), rji_Way_28 (by omega), xup_row (by omega), rji_Rows_25 (by omega), xup_row (by omega), rji_Row_23 (by omega), xup_row (by omega), rji_Row_21 (by omega), xup_row (by omega), rji_Slips_9 (by omega), xup_row (by omega), rji_Lex_4 (by omega), xup_row (by omega), rji_Tape_2 (by omega)]
theorem ji_WM_1 {h : xH} (hz : ∀ o j : Int, 1 < o → h o j = 0) : J mX11_init false 79 50190 0 1 (xen 0 [xR 1]) [] h (fun r n' h' => r = none ∧ n' = 80 ∧ h' = uji_WM_1 h) := by
  refine J_cong (ls2 := [(0, xR 1)]) (st2 := []) rfl rfl ?_
  refine J_aload_n 0 dX11_init_0 rfl rfl ?_
  refine J_obj dX11_init_1 ⟨xq146, xq147, xq148⟩ (xbl rfl) (xbl rfl) ?_
  refine J_aload_n 0 dX11_init_4 rfl rfl ?_
  refine J_new (rc2 := 78) (rs2 := 50188) xcf7 (by decide +kernel) dX11_init_5 xq149 xq150 xq126 (by decide +kernel) (fun j => hz 2 j (by decide)) rfl rfl ?_
  refine J_n (m := 2) rfl ?_
  have hz2 : ∀ o j : Int, 2 < o → h o j = 0 := fun o j ho => hz o j (by omega)
  refine J_cong (st2 := [xR 2, xR 1]) rfl rfl ?_
  refine J_dup dX11_init_8 rfl ?_
  obtain ⟨h1, eh1⟩ : ∃ x : xH, x = uji_Tape_2 h := ⟨_, rfl⟩
  refine J_cI (Mc := mX7_init) (n2 := 3) (h2 := h1) (rc2 := 77) (rs2 := 49948) [] dX11_init_9 ((fc_Tape_init).fit ⟨xbl rfl, xbl rfl⟩) rfl ⟨Or.inr ⟨_, xq151⟩, rfl, xq152, rfl⟩ rfl (xbl rfl) (xbl rfl) ⟨rfl, rfl⟩ (by rw [eh1]; exact ji_Tape_2 hz2) ?_
  have zh1 : ∀ o j : Int, 3 < o → h1 o j = 0 := fun o j ho => by rw [eh1]; exact zji_Tape_2 hz2 o j ho
  obtain ⟨h2, eh2⟩ : ∃ x : xH, x = xup h1 1 0 2 := ⟨_, rfl⟩
  refine J_putR (j := 0) xcf11 dX11_init_12 rfl rfl (by decide) kO1 xq435 (by decide) (by decide) (fun _ => ⟨rfl, rfl⟩) (by decide) eh2 ?_
  have zh2 : ∀ o j : Int, 3 < o → h2 o j = 0 := fun o j ho => by rw [eh2, xup_row (by omega)]; exact zh1 o j ho
  refine J_aload_n 0 dX11_init_15 rfl rfl ?_
  refine J_new (rc2 := 76) (rs2 := 49945) xcf1 (by decide +kernel) dX11_init_16 xq164 xq165 xq127 (by decide +kernel) (fun j => zh2 4 j (by decide)) rfl rfl ?_
  refine J_n (m := 4) rfl ?_
  have hz4 : ∀ o j : Int, 4 < o → h2 o j = 0 := fun o j ho => zh2 o j (by omega)
  refine J_cong (st2 := [xR 4, xR 1]) rfl rfl ?_
  refine J_dup dX11_init_19 rfl ?_
  obtain ⟨h3, eh3⟩ : ∃ x : xH, x = uji_Lex_4 h2 := ⟨_, rfl⟩
  refine J_cI (Mc := mX1_init) (n2 := 8) (h2 := h3) (rc2 := 72) (rs2 := 47142) [] dX11_init_20 ((fc_Lex_init).fit ⟨xbl rfl, xbl rfl⟩) rfl ⟨Or.inr ⟨_, xq166⟩, rfl, xq167, rfl⟩ rfl (xbl rfl) (xbl rfl) ⟨rfl, rfl⟩ (by rw [eh3]; exact ji_Lex_4 hz4) ?_
  have zh3 : ∀ o j : Int, 8 < o → h3 o j = 0 := fun o j ho => by rw [eh3]; exact zji_Lex_4 hz4 o j ho
  refine J_pc (pc2 := 23) rfl ?_
  obtain ⟨h4, eh4⟩ : ∃ x : xH, x = xup h3 1 1 4 := ⟨_, rfl⟩
  refine J_putR (j := 1) xcf11 dX11_init_23 rfl rfl (by decide) kO1 xq436 (by decide) (by decide) (fun _ => ⟨rfl, rfl⟩) (by decide) eh4 ?_
  have zh4 : ∀ o j : Int, 8 < o → h4 o j = 0 := fun o j ho => by rw [eh4, xup_row (by omega)]; exact zh3 o j ho
  refine J_aload_n 0 dX11_init_26 rfl rfl ?_
  refine J_new (rc2 := 71) (rs2 := 47135) xcf6 (by decide +kernel) dX11_init_27 xq208 xq209 xq130 (by decide +kernel) (fun j => zh4 9 j (by decide)) rfl rfl ?_
  refine J_n (m := 9) rfl ?_
  have hz9 : ∀ o j : Int, 9 < o → h4 o j = 0 := fun o j ho => zh4 o j (by omega)
  refine J_cong (st2 := [xR 9, xR 1]) rfl rfl ?_
  refine J_dup dX11_init_30 rfl ?_
  obtain ⟨h5, eh5⟩ : ∃ x : xH, x = uji_Slips_9 h4 := ⟨_, rfl⟩
  refine J_cI (Mc := mX6_init) (n2 := 20) (h2 := h5) (rc2 := 60) (rs2 := 45851) [] dX11_init_31 ((fc_Slips_init).fit ⟨xbl rfl, xbl rfl⟩) rfl ⟨Or.inr ⟨_, xq210⟩, rfl, xq211, rfl⟩ rfl (xbl rfl) (xbl rfl) ⟨rfl, rfl⟩ (by rw [eh5]; exact ji_Slips_9 hz9) ?_
  have zh5 : ∀ o j : Int, 20 < o → h5 o j = 0 := fun o j ho => by rw [eh5]; exact zji_Slips_9 hz9 o j ho
  obtain ⟨h6, eh6⟩ : ∃ x : xH, x = xup h5 1 2 9 := ⟨_, rfl⟩
  refine J_putR (j := 2) xcf11 dX11_init_34 rfl rfl (by decide) kO1 xq437 (by decide) (by decide) (fun _ => ⟨rfl, rfl⟩) (by decide) eh6 ?_
  have zh6 : ∀ o j : Int, 20 < o → h6 o j = 0 := fun o j ho => by rw [eh6, xup_row (by omega)]; exact zh5 o j ho
  refine J_aload_n 0 dX11_init_37 rfl rfl ?_
  refine J_new (rc2 := 59) (rs2 := 45849) xcf4 (by decide +kernel) dX11_init_38 xq239 xq240 xq131 (by decide +kernel) (fun j => zh6 21 j (by decide)) rfl rfl ?_
  refine J_n (m := 21) rfl ?_
  have hz21 : ∀ o j : Int, 21 < o → h6 o j = 0 := fun o j ho => zh6 o j (by omega)
  refine J_cong (st2 := [xR 21, xR 1]) rfl rfl ?_
  refine J_dup dX11_init_41 rfl ?_
  obtain ⟨h7, eh7⟩ : ∃ x : xH, x = uji_Row_21 h6 := ⟨_, rfl⟩
  refine J_cI (Mc := mX4_init) (n2 := 22) (h2 := h7) (rc2 := 58) (rs2 := 45837) [] dX11_init_42 ((fc_Row_init).fit ⟨xbl rfl, xbl rfl⟩) rfl ⟨Or.inr ⟨_, xq241⟩, rfl, xq242, rfl⟩ rfl (xbl rfl) (xbl rfl) ⟨rfl, rfl⟩ (by rw [eh7]; exact ji_Row_21 hz21) ?_
  have zh7 : ∀ o j : Int, 22 < o → h7 o j = 0 := fun o j ho => by rw [eh7]; exact zji_Row_21 hz21 o j ho
  obtain ⟨h8, eh8⟩ : ∃ x : xH, x = xup h7 1 3 21 := ⟨_, rfl⟩
  refine J_putR (j := 3) xcf11 dX11_init_45 rfl rfl (by decide) kO1 xq438 (by decide) (by decide) (fun _ => ⟨rfl, rfl⟩) (by decide) eh8 ?_
  have zh8 : ∀ o j : Int, 22 < o → h8 o j = 0 := fun o j ho => by rw [eh8, xup_row (by omega)]; exact zh7 o j ho
  refine J_aload_n 0 dX11_init_48 rfl rfl ?_
  refine J_pc (pc2 := 49) rfl ?_
  refine J_new (rc2 := 57) (rs2 := 45835) xcf4 (by decide +kernel) dX11_init_49 xq239 xq240 xq131 (by decide +kernel) (fun j => zh8 23 j (by decide)) rfl rfl ?_
  refine J_n (m := 23) rfl ?_
  have hz23 : ∀ o j : Int, 23 < o → h8 o j = 0 := fun o j ho => zh8 o j (by omega)
  refine J_cong (st2 := [xR 23, xR 1]) rfl rfl ?_
  refine J_dup dX11_init_52 rfl ?_
  obtain ⟨h9, eh9⟩ : ∃ x : xH, x = uji_Row_23 h8 := ⟨_, rfl⟩
  refine J_cI (Mc := mX4_init) (n2 := 24) (h2 := h9) (rc2 := 56) (rs2 := 45823) [] dX11_init_53 ((fc_Row_init).fit ⟨xbl rfl, xbl rfl⟩) rfl ⟨Or.inr ⟨_, xq241⟩, rfl, xq242, rfl⟩ rfl (xbl rfl) (xbl rfl) ⟨rfl, rfl⟩ (by rw [eh9]; exact ji_Row_23 hz23) ?_
  have zh9 : ∀ o j : Int, 24 < o → h9 o j = 0 := fun o j ho => by rw [eh9]; exact zji_Row_23 hz23 o j ho
  obtain ⟨h10, eh10⟩ : ∃ x : xH, x = xup h9 1 4 23 := ⟨_, rfl⟩
  refine J_putR (j := 4) xcf11 dX11_init_56 rfl rfl (by decide) kO1 xq439 (by decide) (by decide) (fun _ => ⟨rfl, rfl⟩) (by decide) eh10 ?_
  have zh10 : ∀ o j : Int, 24 < o → h10 o j = 0 := fun o j ho => by rw [eh10, xup_row (by omega)]; exact zh9 o j ho
  refine J_aload_n 0 dX11_init_59 rfl rfl ?_
  refine J_new (rc2 := 55) (rs2 := 45820) xcf5 (by decide +kernel) dX11_init_60 xq256 xq171 xq128 (by decide +kernel) (fun j => zh10 25 j (by decide)) rfl rfl ?_
  refine J_n (m := 25) rfl ?_
  have hz25 : ∀ o j : Int, 25 < o → h10 o j = 0 := fun o j ho => zh10 o j (by omega)
  refine J_cong (st2 := [xR 25, xR 1]) rfl rfl ?_
  refine J_dup dX11_init_63 rfl ?_
  refine J_bip dX11_init_64 (by decide) ?_
  obtain ⟨h11, eh11⟩ : ∃ x : xH, x = uji_Rows_25 h10 := ⟨_, rfl⟩
  refine J_cI (Mc := mX5_init) (n2 := 27) (h2 := h11) (rc2 := 53) (rs2 := 45664) [xI 12] dX11_init_66 ((fc_Rows_init).fit ⟨xbl rfl, xbl rfl⟩) rfl ⟨Or.inr ⟨_, xq257⟩, rfl, xq173, rfl⟩ rfl (xbl rfl) (xbl rfl) ⟨rfl, rfl⟩ (by rw [eh11]; exact ji_Rows_25 hz25) ?_
  have zh11 : ∀ o j : Int, 27 < o → h11 o j = 0 := fun o j ho => by rw [eh11]; exact zji_Rows_25 hz25 o j ho
  obtain ⟨h12, eh12⟩ : ∃ x : xH, x = xup h11 1 5 25 := ⟨_, rfl⟩
  refine J_putR (j := 5) xcf11 dX11_init_69 rfl rfl (by decide) kO1 xq440 (by decide) (by decide) (fun _ => ⟨rfl, rfl⟩) (by decide) eh12 ?_
  have zh12 : ∀ o j : Int, 27 < o → h12 o j = 0 := fun o j ho => by rw [eh12, xup_row (by omega)]; exact zh11 o j ho
  refine J_aload_n 0 dX11_init_72 rfl rfl ?_
  refine J_new (rc2 := 52) (rs2 := 45657) xcf10 (by decide +kernel) dX11_init_73 xq258 xq259 xq132 (by decide +kernel) (fun j => zh12 28 j (by decide)) rfl rfl ?_
  refine J_n (m := 28) rfl ?_
  have hz28 : ∀ o j : Int, 28 < o → h12 o j = 0 := fun o j ho => zh12 o j (by omega)
  refine J_cong (st2 := [xR 28, xR 1]) rfl rfl ?_
  refine J_pc (pc2 := 76) rfl ?_
  refine J_dup dX11_init_76 rfl ?_
  refine J_aload_n 0 dX11_init_77 rfl rfl ?_
  refine J_getR (j := 2) (v := 9) xcf11 dX11_init_78 (by decide) kO1 (Or.inl xq437) (by decide) (by decide) (fun _ => ⟨by simp (disch := omega) only [eh1, eh2, eh3, eh4, eh5, eh6, eh7, eh8, eh9, eh10, eh11, eh12, rji_Lex_4, rji_Row_21, rji_Row_23, rji_Rows_25, rji_Slips_9, rji_Tape_2, xup_row, xup_ne_j]; exact xup_same, by decide⟩) ?_
  obtain ⟨h13, eh13⟩ : ∃ x : xH, x = uji_Way_28 h12 := ⟨_, rfl⟩
  refine J_cI (Mc := mX10_init) (n2 := 33) (h2 := h13) (rc2 := 47) (rs2 := 45392) [xR 9] dX11_init_81 ((fc_Way_init).fit ⟨xbl rfl, xbl rfl⟩) rfl ⟨Or.inr ⟨_, xq260⟩, rfl, xq261, rfl⟩ rfl (xbl rfl) (xbl rfl) ⟨rfl, rfl⟩ (by rw [eh13]; exact ji_Way_28 hz28) ?_
  have zh13 : ∀ o j : Int, 33 < o → h13 o j = 0 := fun o j ho => by rw [eh13]; exact zji_Way_28 hz28 o j ho
  obtain ⟨h14, eh14⟩ : ∃ x : xH, x = xup h13 1 6 28 := ⟨_, rfl⟩
  refine J_putR (j := 6) xcf11 dX11_init_84 rfl rfl (by decide) kO1 xq441 (by decide) (by decide) (fun _ => ⟨rfl, rfl⟩) (by decide) eh14 ?_
  have zh14 : ∀ o j : Int, 33 < o → h14 o j = 0 := fun o j ho => by rw [eh14, xup_row (by omega)]; exact zh13 o j ho
  refine J_aload_n 0 dX11_init_87 rfl rfl ?_
  refine J_new (rc2 := 46) (rs2 := 45385) xcf10 (by decide +kernel) dX11_init_88 xq258 xq259 xq132 (by decide +kernel) (fun j => zh14 34 j (by decide)) rfl rfl ?_
  refine J_n (m := 34) rfl ?_
  have hz34 : ∀ o j : Int, 34 < o → h14 o j = 0 := fun o j ho => zh14 o j (by omega)
  refine J_cong (st2 := [xR 34, xR 1]) rfl rfl ?_
  refine J_dup dX11_init_91 rfl ?_
  refine J_aload_n 0 dX11_init_92 rfl rfl ?_
  refine J_getR (j := 2) (v := 9) xcf11 dX11_init_93 (by decide) kO1 (Or.inl xq437) (by decide) (by decide) (fun _ => ⟨by simp (disch := omega) only [eh1, eh2, eh3, eh4, eh5, eh6, eh7, eh8, eh9, eh10, eh11, eh12, eh13, eh14, rji_Lex_4, rji_Row_21, rji_Row_23, rji_Rows_25, rji_Slips_9, rji_Tape_2, rji_Way_28, xup_row, xup_ne_j]; exact xup_same, by decide⟩) ?_
  obtain ⟨h15, eh15⟩ : ∃ x : xH, x = uji_Way_34 h14 := ⟨_, rfl⟩
  refine J_cI (Mc := mX10_init) (n2 := 39) (h2 := h15) (rc2 := 41) (rs2 := 45120) [xR 9] dX11_init_96 ((fc_Way_init).fit ⟨xbl rfl, xbl rfl⟩) rfl ⟨Or.inr ⟨_, xq260⟩, rfl, xq261, rfl⟩ rfl (xbl rfl) (xbl rfl) ⟨rfl, rfl⟩ (by rw [eh15]; exact ji_Way_34 hz34) ?_
  have zh15 : ∀ o j : Int, 39 < o → h15 o j = 0 := fun o j ho => by rw [eh15]; exact zji_Way_34 hz34 o j ho
  obtain ⟨h16, eh16⟩ : ∃ x : xH, x = xup h15 1 7 34 := ⟨_, rfl⟩
  refine J_putR (j := 7) xcf11 dX11_init_99 rfl rfl (by decide) kO1 xq442 (by decide) (by decide) (fun _ => ⟨rfl, rfl⟩) (by decide) eh16 ?_
  have zh16 : ∀ o j : Int, 39 < o → h16 o j = 0 := fun o j ho => by rw [eh16, xup_row (by omega)]; exact zh15 o j ho
  refine J_pc (pc2 := 102) rfl ?_
  refine J_aload_n 0 dX11_init_102 rfl rfl ?_
  refine J_new (rc2 := 40) (rs2 := 45117) xcf5 (by decide +kernel) dX11_init_103 xq256 xq171 xq128 (by decide +kernel) (fun j => zh16 40 j (by decide)) rfl rfl ?_
  refine J_n (m := 40) rfl ?_
  have hz40 : ∀ o j : Int, 40 < o → h16 o j = 0 := fun o j ho => zh16 o j (by omega)
  refine J_cong (st2 := [xR 40, xR 1]) rfl rfl ?_
  refine J_dup dX11_init_106 rfl ?_
  refine J_bip dX11_init_107 (by decide) ?_
  obtain ⟨h17, eh17⟩ : ∃ x : xH, x = uji_Rows_40 h16 := ⟨_, rfl⟩
  refine J_cI (Mc := mX5_init) (n2 := 42) (h2 := h17) (rc2 := 38) (rs2 := 44597) [xI 40] dX11_init_109 ((fc_Rows_init).fit ⟨xbl rfl, xbl rfl⟩) rfl ⟨Or.inr ⟨_, xq257⟩, rfl, xq173, rfl⟩ rfl (xbl rfl) (xbl rfl) ⟨rfl, rfl⟩ (by rw [eh17]; exact ji_Rows_40 hz40) ?_
  have zh17 : ∀ o j : Int, 42 < o → h17 o j = 0 := fun o j ho => by rw [eh17]; exact zji_Rows_40 hz40 o j ho
  obtain ⟨h18, eh18⟩ : ∃ x : xH, x = xup h17 1 8 40 := ⟨_, rfl⟩
  refine J_putR (j := 8) xcf11 dX11_init_112 rfl rfl (by decide) kO1 xq443 (by decide) (by decide) (fun _ => ⟨rfl, rfl⟩) (by decide) eh18 ?_
  have zh18 : ∀ o j : Int, 42 < o → h18 o j = 0 := fun o j ho => by rw [eh18, xup_row (by omega)]; exact zh17 o j ho
  refine J_aload_n 0 dX11_init_115 rfl rfl ?_
  refine J_new (rc2 := 37) (rs2 := 44594) xcf5 (by decide +kernel) dX11_init_116 xq256 xq171 xq128 (by decide +kernel) (fun j => zh18 43 j (by decide)) rfl rfl ?_
  refine J_n (m := 43) rfl ?_
  have hz43 : ∀ o j : Int, 43 < o → h18 o j = 0 := fun o j ho => zh18 o j (by omega)
  refine J_cong (st2 := [xR 43, xR 1]) rfl rfl ?_
  refine J_dup dX11_init_119 rfl ?_
  refine J_bip dX11_init_120 (by decide) ?_
  obtain ⟨h19, eh19⟩ : ∃ x : xH, x = uji_Rows_43 h18 := ⟨_, rfl⟩
  refine J_cI (Mc := mX5_init) (n2 := 45) (h2 := h19) (rc2 := 35) (rs2 := 44074) [xI 40] dX11_init_122 ((fc_Rows_init).fit ⟨xbl rfl, xbl rfl⟩) rfl ⟨Or.inr ⟨_, xq257⟩, rfl, xq173, rfl⟩ rfl (xbl rfl) (xbl rfl) ⟨rfl, rfl⟩ (by rw [eh19]; exact ji_Rows_43 hz43) ?_
  have zh19 : ∀ o j : Int, 45 < o → h19 o j = 0 := fun o j ho => by rw [eh19]; exact zji_Rows_43 hz43 o j ho
  obtain ⟨h20, eh20⟩ : ∃ x : xH, x = xup h19 1 9 43 := ⟨_, rfl⟩
  refine J_putR (j := 9) xcf11 dX11_init_125 rfl rfl (by decide) kO1 xq444 (by decide) (by decide) (fun _ => ⟨rfl, rfl⟩) (by decide) eh20 ?_
  have zh20 : ∀ o j : Int, 45 < o → h20 o j = 0 := fun o j ho => by rw [eh20, xup_row (by omega)]; exact zh19 o j ho
  refine J_pc (pc2 := 128) rfl ?_
  refine J_aload_n 0 dX11_init_128 rfl rfl ?_
  refine J_sip dX11_init_129 (by decide) ?_
  refine J_newa (rc2 := 34) (rs2 := 43114) dX11_init_132 xq163 (by decide +kernel) (by decide +kernel) (by decide +kernel) (fun j => zh20 46 j (by decide)) rfl rfl ?_
  refine J_n (m := 46) rfl ?_
  have hz46 : ∀ o j : Int, 46 < o → h20 o j = 0 := fun o j ho => zh20 o j (by omega)
  refine J_cong (st2 := [xR 46, xR 1]) rfl rfl ?_
  obtain ⟨h21, eh21⟩ : ∃ x : xH, x = xup h20 1 10 46 := ⟨_, rfl⟩
  refine J_putR (j := 10) xcf11 dX11_init_134 rfl rfl (by decide) kO1 xq445 (by decide) (by decide) (fun _ => ⟨rfl, rfl⟩) (by decide) eh21 ?_
  have zh21 : ∀ o j : Int, 46 < o → h21 o j = 0 := fun o j ho => by rw [eh21, xup_row (by omega)]; exact hz46 o j ho
  refine J_aload_n 0 dX11_init_137 rfl rfl ?_
  refine J_bip dX11_init_138 (by decide) ?_
  refine J_newa (rc2 := 33) (rs2 := 43107) dX11_init_140 xq163 (by decide +kernel) (by decide +kernel) (by decide +kernel) (fun j => zh21 47 j (by decide)) rfl rfl ?_
  refine J_n (m := 47) rfl ?_
  have hz47 : ∀ o j : Int, 47 < o → h21 o j = 0 := fun o j ho => zh21 o j (by omega)
  refine J_cong (st2 := [xR 47, xR 1]) rfl rfl ?_
  obtain ⟨h22, eh22⟩ : ∃ x : xH, x = xup h21 1 11 47 := ⟨_, rfl⟩
  refine J_putR (j := 11) xcf11 dX11_init_142 rfl rfl (by decide) kO1 xq446 (by decide) (by decide) (fun _ => ⟨rfl, rfl⟩) (by decide) eh22 ?_
  have zh22 : ∀ o j : Int, 47 < o → h22 o j = 0 := fun o j ho => by rw [eh22, xup_row (by omega)]; exact hz47 o j ho
  refine J_aload_n 0 dX11_init_145 rfl rfl ?_
  refine J_new (rc2 := 32) (rs2 := 43098) xcf9 (by decide +kernel) dX11_init_146 xq287 xq288 xq133 (by decide +kernel) (fun j => zh22 48 j (by decide)) rfl rfl ?_
  refine J_n (m := 48) rfl ?_
  have hz48 : ∀ o j : Int, 48 < o → h22 o j = 0 := fun o j ho => zh22 o j (by omega)
  refine J_cong (st2 := [xR 48, xR 1]) rfl rfl ?_
  refine J_dup dX11_init_149 rfl ?_
  refine J_aload_n 0 dX11_init_150 rfl rfl ?_
  refine J_pc (pc2 := 151) rfl ?_
  refine J_getR (j := 1) (v := 4) xcf11 dX11_init_151 (by decide) kO1 (Or.inl xq436) (by decide) (by decide) (fun _ => ⟨by simp (disch := omega) only [eh1, eh2, eh3, eh4, eh5, eh6, eh7, eh8, eh9, eh10, eh11, eh12, eh13, eh14, eh15, eh16, eh17, eh18, eh19, eh20, eh21, eh22, rji_Lex_4, rji_Row_21, rji_Row_23, rji_Rows_25, rji_Rows_40, rji_Rows_43, rji_Slips_9, rji_Tape_2, rji_Way_28, rji_Way_34, xup_row, xup_ne_j]; exact xup_same, by decide⟩) ?_
  refine J_aload_n 0 dX11_init_154 rfl rfl ?_
  refine J_getR (j := 2) (v := 9) xcf11 dX11_init_155 (by decide) kO1 (Or.inl xq437) (by decide) (by decide) (fun _ => ⟨by simp (disch := omega) only [eh1, eh2, eh3, eh4, eh5, eh6, eh7, eh8, eh9, eh10, eh11, eh12, eh13, eh14, eh15, eh16, eh17, eh18, eh19, eh20, eh21, eh22, rji_Lex_4, rji_Row_21, rji_Row_23, rji_Rows_25, rji_Rows_40, rji_Rows_43, rji_Slips_9, rji_Tape_2, rji_Way_28, rji_Way_34, xup_row, xup_ne_j]; exact xup_same, by decide⟩) ?_
  obtain ⟨h23, eh23⟩ : ∃ x : xH, x = uji_Walk_48 h22 := ⟨_, rfl⟩
  refine J_cI (Mc := mX9_init) (n2 := 61) (h2 := h23) (rc2 := 19) (rs2 := 1664) [xR 4, xR 9] dX11_init_158 ((fc_Walk_init).fit ⟨xbl rfl, xbl rfl⟩) rfl ⟨Or.inr ⟨_, xq289⟩, rfl, xq290, rfl⟩ rfl (xbl rfl) (xbl rfl) ⟨rfl, rfl⟩ (by rw [eh23]; exact ji_Walk_48 hz48) ?_
  have zh23 : ∀ o j : Int, 61 < o → h23 o j = 0 := fun o j ho => by rw [eh23]; exact zji_Walk_48 hz48 o j ho
  obtain ⟨h24, eh24⟩ : ∃ x : xH, x = xup h23 1 12 48 := ⟨_, rfl⟩
  refine J_putR (j := 12) xcf11 dX11_init_161 rfl rfl (by decide) kO1 xq447 (by decide) (by decide) (fun _ => ⟨rfl, rfl⟩) (by decide) eh24 ?_
  have zh24 : ∀ o j : Int, 61 < o → h24 o j = 0 := fun o j ho => by rw [eh24, xup_row (by omega)]; exact zh23 o j ho
  refine J_aload_n 0 dX11_init_164 rfl rfl ?_
  refine J_new (rc2 := 18) (rs2 := 1659) xcf0 (by decide +kernel) dX11_init_165 xq361 xq362 xq135 (by decide +kernel) (fun j => zh24 62 j (by decide)) rfl rfl ?_
  refine J_n (m := 62) rfl ?_
  have hz62 : ∀ o j : Int, 62 < o → h24 o j = 0 := fun o j ho => zh24 o j (by omega)
  refine J_cong (st2 := [xR 62, xR 1]) rfl rfl ?_
  refine J_dup dX11_init_168 rfl ?_
  refine J_aload_n 0 dX11_init_169 rfl rfl ?_
  refine J_getR (j := 1) (v := 4) xcf11 dX11_init_170 (by decide) kO1 (Or.inl xq436) (by decide) (by decide) (fun _ => ⟨by simp (disch := omega) only [eh1, eh2, eh3, eh4, eh5, eh6, eh7, eh8, eh9, eh10, eh11, eh12, eh13, eh14, eh15, eh16, eh17, eh18, eh19, eh20, eh21, eh22, eh23, eh24, rji_Lex_4, rji_Row_21, rji_Row_23, rji_Rows_25, rji_Rows_40, rji_Rows_43, rji_Slips_9, rji_Tape_2, rji_Walk_48, rji_Way_28, rji_Way_34, xup_row, xup_ne_j]; exact xup_same, by decide⟩) ?_
  obtain ⟨h25, eh25⟩ : ∃ x : xH, x = uji_Found_62 h24 := ⟨_, rfl⟩
  refine J_cI (Mc := mX0_init) (n2 := 65) (h2 := h25) (rc2 := 15) (rs2 := 1059) [xR 4] dX11_init_173 ((fc_Found_init).fit ⟨xbl rfl, xbl rfl⟩) rfl ⟨Or.inr ⟨_, xq363⟩, rfl, xq364, rfl⟩ rfl (xbl rfl) (xbl rfl) ⟨rfl, rfl⟩ (by rw [eh25]; exact ji_Found_62 hz62) ?_
  have zh25 : ∀ o j : Int, 65 < o → h25 o j = 0 := fun o j ho => by rw [eh25]; exact zji_Found_62 hz62 o j ho
  obtain ⟨h26, eh26⟩ : ∃ x : xH, x = xup h25 1 13 62 := ⟨_, rfl⟩
  refine J_putR (j := 13) xcf11 dX11_init_176 rfl rfl (by decide) kO1 xq448 (by decide) (by decide) (fun _ => ⟨rfl, rfl⟩) (by decide) eh26 ?_
  have zh26 : ∀ o j : Int, 65 < o → h26 o j = 0 := fun o j ho => by rw [eh26, xup_row (by omega)]; exact zh25 o j ho
  refine J_pc (pc2 := 179) rfl ?_
  refine J_aload_n 0 dX11_init_179 rfl rfl ?_
  refine J_new (rc2 := 14) (rs2 := 1054) xcf0 (by decide +kernel) dX11_init_180 xq361 xq362 xq135 (by decide +kernel) (fun j => zh26 66 j (by decide)) rfl rfl ?_
  refine J_n (m := 66) rfl ?_
  have hz66 : ∀ o j : Int, 66 < o → h26 o j = 0 := fun o j ho => zh26 o j (by omega)
  refine J_cong (st2 := [xR 66, xR 1]) rfl rfl ?_
  refine J_dup dX11_init_183 rfl ?_
  refine J_aload_n 0 dX11_init_184 rfl rfl ?_
  refine J_getR (j := 1) (v := 4) xcf11 dX11_init_185 (by decide) kO1 (Or.inl xq436) (by decide) (by decide) (fun _ => ⟨by simp (disch := omega) only [eh1, eh2, eh3, eh4, eh5, eh6, eh7, eh8, eh9, eh10, eh11, eh12, eh13, eh14, eh15, eh16, eh17, eh18, eh19, eh20, eh21, eh22, eh23, eh24, eh25, eh26, rji_Found_62, rji_Lex_4, rji_Row_21, rji_Row_23, rji_Rows_25, rji_Rows_40, rji_Rows_43, rji_Slips_9, rji_Tape_2, rji_Walk_48, rji_Way_28, rji_Way_34, xup_row, xup_ne_j]; exact xup_same, by decide⟩) ?_
  obtain ⟨h27, eh27⟩ : ∃ x : xH, x = uji_Found_66 h26 := ⟨_, rfl⟩
  refine J_cI (Mc := mX0_init) (n2 := 69) (h2 := h27) (rc2 := 11) (rs2 := 454) [xR 4] dX11_init_188 ((fc_Found_init).fit ⟨xbl rfl, xbl rfl⟩) rfl ⟨Or.inr ⟨_, xq363⟩, rfl, xq364, rfl⟩ rfl (xbl rfl) (xbl rfl) ⟨rfl, rfl⟩ (by rw [eh27]; exact ji_Found_66 hz66) ?_
  have zh27 : ∀ o j : Int, 69 < o → h27 o j = 0 := fun o j ho => by rw [eh27]; exact zji_Found_66 hz66 o j ho
  obtain ⟨h28, eh28⟩ : ∃ x : xH, x = xup h27 1 14 66 := ⟨_, rfl⟩
  refine J_putR (j := 14) xcf11 dX11_init_191 rfl rfl (by decide) kO1 xq449 (by decide) (by decide) (fun _ => ⟨rfl, rfl⟩) (by decide) eh28 ?_
  have zh28 : ∀ o j : Int, 69 < o → h28 o j = 0 := fun o j ho => by rw [eh28, xup_row (by omega)]; exact zh27 o j ho
  refine J_aload_n 0 dX11_init_194 rfl rfl ?_
  refine J_new (rc2 := 10) (rs2 := 446) xcf2 (by decide +kernel) dX11_init_195 xq384 xq385 xq136 (by decide +kernel) (fun j => zh28 70 j (by decide)) rfl rfl ?_
  refine J_n (m := 70) rfl ?_
  have hz70 : ∀ o j : Int, 70 < o → h28 o j = 0 := fun o j ho => zh28 o j (by omega)
  refine J_cong (st2 := [xR 70, xR 1]) rfl rfl ?_
  refine J_dup dX11_init_198 rfl ?_
  obtain ⟨h29, eh29⟩ : ∃ x : xH, x = uji_Mend_70 h28 := ⟨_, rfl⟩
  refine J_cI (Mc := mX2_init) (n2 := 76) (h2 := h29) (rc2 := 4) (rs2 := 228) [] dX11_init_199 ((fc_Mend_init).fit ⟨xbl rfl, xbl rfl⟩) rfl ⟨Or.inr ⟨_, xq386⟩, rfl, xq387, rfl⟩ rfl (xbl rfl) (xbl rfl) ⟨rfl, rfl⟩ (by rw [eh29]; exact ji_Mend_70 hz70) ?_
  have zh29 : ∀ o j : Int, 76 < o → h29 o j = 0 := fun o j ho => by rw [eh29]; exact zji_Mend_70 hz70 o j ho
  obtain ⟨h30, eh30⟩ : ∃ x : xH, x = xup h29 1 15 70 := ⟨_, rfl⟩
  refine J_putR (j := 15) xcf11 dX11_init_202 rfl rfl (by decide) kO1 xq450 (by decide) (by decide) (fun _ => ⟨rfl, rfl⟩) (by decide) eh30 ?_
  have zh30 : ∀ o j : Int, 76 < o → h30 o j = 0 := fun o j ho => by rw [eh30, xup_row (by omega)]; exact zh29 o j ho
  refine J_pc (pc2 := 205) rfl ?_
  refine J_aload_n 0 dX11_init_205 rfl rfl ?_
  refine J_new (rc2 := 3) (rs2 := 224) xcf8 (by decide +kernel) dX11_init_206 xq415 xq416 xq137 (by decide +kernel) (fun j => zh30 77 j (by decide)) rfl rfl ?_
  refine J_n (m := 77) rfl ?_
  have hz77 : ∀ o j : Int, 77 < o → h30 o j = 0 := fun o j ho => zh30 o j (by omega)
  refine J_cong (st2 := [xR 77, xR 1]) rfl rfl ?_
  refine J_dup dX11_init_209 rfl ?_
  obtain ⟨h31, eh31⟩ : ∃ x : xH, x = uji_Trays_77 h30 := ⟨_, rfl⟩
  refine J_cI (Mc := mX8_init) (n2 := 80) (h2 := h31) (rc2 := 0) (rs2 := 0) [] dX11_init_210 ((fc_Trays_init).fit ⟨xbl rfl, xbl rfl⟩) rfl ⟨Or.inr ⟨_, xq417⟩, rfl, xq418, rfl⟩ rfl (xbl rfl) (xbl rfl) ⟨rfl, rfl⟩ (by rw [eh31]; exact ji_Trays_77 hz77) ?_
  have zh31 : ∀ o j : Int, 80 < o → h31 o j = 0 := fun o j ho => by rw [eh31]; exact zji_Trays_77 hz77 o j ho
  obtain ⟨h32, eh32⟩ : ∃ x : xH, x = xup h31 1 16 77 := ⟨_, rfl⟩
  refine J_putR (j := 16) xcf11 dX11_init_213 rfl rfl (by decide) kO1 xq451 (by decide) (by decide) (fun _ => ⟨rfl, rfl⟩) (by decide) eh32 ?_
  have zh32 : ∀ o j : Int, 80 < o → h32 o j = 0 := fun o j ho => by rw [eh32, xup_row (by omega)]; exact zh31 o j ho
  exact J_rt dX11_init_216 rfl ⟨rfl, rfl, by rw [eh32, eh31, eh30, eh29, eh28, eh27, eh26, eh25, eh24, eh23, eh22, eh21, eh20, eh19, eh18, eh17, eh16, eh15, eh14, eh13, eh12, eh11, eh10, eh9, eh8, eh7, eh6, eh5, eh4, eh3, eh2, eh1]; rfl⟩
def uji_Md_81 (h : xH) : xH := xup (xup (xup (xup (xup (xup (xup (xup (xup (xup (xup (xup (xup (xup (xup (xup (xup (xup (xup (xup (xup (xup (xup (xup (xup (xup (xup (xup (xup (xup (xup (xup (xup (xup (xup (xup (xup (xup (xup (xup (xup (xup (xup (xup (xup (xup (xup (xup (xup (xup (xup (xup (xup (xup (xup (xup (xup (xup (xup (xup (xup (xup (xup (xup (xup (xup (xup (xup (xup (xup (xup (xup (xup (xup h 81 0 82) 81 3 83) 81 4 84) 81 6 85) 81 7 86) 81 8 87) 81 9 88) 81 10 89) 81 11 90) 81 12 91) 81 13 60) 81 14 60) 81 17 92) 81 18 93) 81 19 94) 81 20 95) 81 21 96) 81 24 97) 81 25 98) 81 26 99) 81 28 100) 81 29 101) 81 30 102) 81 31 103) 81 32 104) 81 33 (-1)) 81 34 105) 81 35 106) 81 36 107) 81 37 108) 81 38 109) 81 41 110) 81 42 111) 81 43 112) 81 44 113) 81 45 114) 81 46 115) 81 48 116) 81 49 117) 81 50 118) 81 51 119) 81 52 120) 81 54 121) 81 55 122) 81 56 123) 81 58 124) 81 59 125) 81 60 126) 81 62 127) 81 63 128) 81 64 129) 81 65 130) 81 66 131) 81 67 132) 81 68 133) 81 69 (-1)) 81 71 134) 81 72 135) 81 73 136) 81 74 137) 81 75 138) 81 76 139) 81 77 140) 81 78 141) 81 79 142) 81 80 143) 81 81 144) 81 85 145) 88 1 100) 88 2 100) 88 3 100) 88 4 100) 88 5 100) 88 6 100
theorem zji_Md_81 {h : xH} (hz : ∀ o j : Int, 81 < o → h o j = 0) : ∀ o j : Int, 145 < o → uji_Md_81 h o j = 0 := fun o j ho => by
  unfold uji_Md_81
  rw [xup_row (by omega)]
  rw [xup_row (by omega)]
  rw [xup_row (by omega)]
  rw [xup_row (by omega)]
  rw [xup_row (by omega)]
  rw [xup_row (by omega)]
  rw [xup_row (by omega)]
  rw [xup_row (by omega)]
  rw [xup_row (by omega)]
  rw [xup_row (by omega)]
  rw [xup_row (by omega)]
  rw [xup_row (by omega)]
  rw [xup_row (by omega)]
  rw [xup_row (by omega)]
  rw [xup_row (by omega)]
  rw [xup_row (by omega)]
  rw [xup_row (by omega)]
  rw [xup_row (by omega)]
  rw [xup_row (by omega)]
  rw [xup_row (by omega)]
  rw [xup_row (by omega)]
  rw [xup_row (by omega)]
  rw [xup_row (by omega)]
  rw [xup_row (by omega)]
  rw [xup_row (by omega)]
  rw [xup_row (by omega)]
  rw [xup_row (by omega)]
  rw [xup_row (by omega)]
  rw [xup_row (by omega)]
  rw [xup_row (by omega)]
  rw [xup_row (by omega)]
  rw [xup_row (by omega)]
  rw [xup_row (by omega)]
  rw [xup_row (by omega)]
  rw [xup_row (by omega)]
  rw [xup_row (by omega)]
  rw [xup_row (by omega)]
  rw [xup_row (by omega)]
  rw [xup_row (by omega)]
  rw [xup_row (by omega)]
  rw [xup_row (by omega)]
  rw [xup_row (by omega)]
  rw [xup_row (by omega)]
  rw [xup_row (by omega)]
  rw [xup_row (by omega)]
  rw [xup_row (by omega)]
  rw [xup_row (by omega)]
  rw [xup_row (by omega)]
  rw [xup_row (by omega)]
  rw [xup_row (by omega)]
  rw [xup_row (by omega)]
  rw [xup_row (by omega)]
  rw [xup_row (by omega)]
  rw [xup_row (by omega)]
  rw [xup_row (by omega)]
  rw [xup_row (by omega)]
  rw [xup_row (by omega)]
  rw [xup_row (by omega)]
  rw [xup_row (by omega)]
  rw [xup_row (by omega)]
  rw [xup_row (by omega)]
  rw [xup_row (by omega)]
  rw [xup_row (by omega)]
  rw [xup_row (by omega)]
  rw [xup_row (by omega)]
  rw [xup_row (by omega)]
  rw [xup_row (by omega)]
  rw [xup_row (by omega)]
  rw [xup_row (by omega)]
  rw [xup_row (by omega)]
  rw [xup_row (by omega)]
  rw [xup_row (by omega)]
  rw [xup_row (by omega)]
  rw [xup_row (by omega)]
  exact hz o j (by omega)
theorem rji_Md_81 {h : xH} {o : Int} (ho : o < 81) : uji_Md_81 h o = h o := by
  unfold uji_Md_81
  rw [xup_row (by omega), xup_row (by omega), xup_row (by omega), xup_row (by omega), xup_row (by omega), xup_row (by omega), xup_row (by omega), xup_row (by omega), xup_row (by omega), xup_row (by omega), xup_row (by omega), xup_row (by omega), xup_row (by omega), xup_row (by omega), xup_row (by omega), xup_row (by omega), xup_row (by omega), xup_row (by omega), xup_row (by omega), xup_row (by omega), xup_row (by omega), xup_row (by omega), xup_row (by omega), xup_row (by omega), xup_row (by omega), xup_row (by omega), xup_row (by omega), xup_row (by omega), xup_row (by omega), xup_row (by omega), xup_row (by omega), xup_row (by omega), xup_row (by omega), xup_row (by omega), xup_row (by omega), xup_row (by omega), xup_row (by omega), xup_row (by omega), xup_row (by omega), xup_row (by omega), xup_row (by omega), xup_row (by omega), xup_row (by omega), xup_row (by omega), xup_row (by omega), xup_row (by omega), xup_row (by omega), xup_row (by omega), xup_row (by omega), xup_row (by omega), xup_row (by omega), xup_row (by omega), xup_row (by omega), xup_row (by omega), xup_row (by omega), xup_row (by omega), xup_row (by omega), xup_row (by omega), xup_row (by omega), xup_row (by omega), xup_row (by omega), xup_row (by omega), xup_row (by omega), xup_row (by omega), xup_row (by omega), xup_row (by omega), xup_row (by omega), xup_row (by omega), xup_row (by omega), xup_row (by omega), xup_row (by omega), xup_row (by omega), xup_row (by omega), xup_row (by omega)]
theorem ji_Md_81 {h : xH} (hz : ∀ o j : Int, 81 < o → h o j = 0) : J mX12_init false 64 51575 0 81 (xen 0 [xR 81]) [] h (fun r n' h' => r = none ∧ n' = 145 ∧ h' = uji_Md_81 h) := by
  refine J_cong (ls2 := [(0, xR 81)]) (st2 := []) rfl rfl ?_
  refine J_aload_n 0 dX12_init_0 rfl rfl ?_
  refine J_obj dX12_init_1 ⟨xq1019, xq147, xq148⟩ (xbl rfl) (xbl rfl) ?_
  refine J_aload_n 0 dX12_init_4 rfl rfl ?_
  refine J_sip dX12_init_5 (by decide) ?_
  refine J_newa (rc2 := 63) (rs2 := 51335) dX12_init_8 xq163 (by decide +kernel) (by decide +kernel) (by decide +kernel) (fun j => hz 82 j (by decide)) rfl rfl ?_
  refine J_n (m := 82) rfl ?_
  have hz82 : ∀ o j : Int, 82 < o → h o j = 0 := fun o j ho => hz o j (by omega)
  refine J_cong (st2 := [xR 82, xR 81]) rfl rfl ?_
  obtain ⟨h1, eh1⟩ : ∃ x : xH, x = xup h 81 0 82 := ⟨_, rfl⟩
  refine J_putR (j := 0) xcf12 dX12_init_10 rfl rfl (by decide) kO81 xq1020 (by decide) (by decide) (fun _ => ⟨rfl, rfl⟩) (by decide) eh1 ?_
  have zh1 : ∀ o j : Int, 82 < o → h1 o j = 0 := fun o j ho => by rw [eh1, xup_row (by omega)]; exact hz82 o j ho
  refine J_aload_n 0 dX12_init_13 rfl rfl ?_
  refine J_bip dX12_init_14 (by decide) ?_
  refine J_newa (rc2 := 62) (rs2 := 51323) dX12_init_16 xq163 (by decide +kernel) (by decide +kernel) (by decide +kernel) (fun j => zh1 83 j (by decide)) rfl rfl ?_
  refine J_n (m := 83) rfl ?_
  have hz83 : ∀ o j : Int, 83 < o → h1 o j = 0 := fun o j ho => zh1 o j (by omega)
  refine J_cong (st2 := [xR 83, xR 81]) rfl rfl ?_
  obtain ⟨h2, eh2⟩ : ∃ x : xH, x = xup h1 81 3 83 := ⟨_, rfl⟩
  refine J_putR (j := 3) xcf12 dX12_init_18 rfl rfl (by decide) kO81 xq1023 (by decide) (by decide) (fun _ => ⟨rfl, rfl⟩) (by decide) eh2 ?_
  have zh2 : ∀ o j : Int, 83 < o → h2 o j = 0 := fun o j ho => by rw [eh2, xup_row (by omega)]; exact hz83 o j ho
  refine J_aload_n 0 dX12_init_21 rfl rfl ?_
  refine J_pc (pc2 := 22) rfl ?_
  refine J_sip dX12_init_22 (by decide) ?_
  refine J_newa (rc2 := 61) (rs2 := 51179) dX12_init_25 xq163 (by decide +kernel) (by decide +kernel) (by decide +kernel) (fun j => zh2 84 j (by decide)) rfl rfl ?_
  refine J_n (m := 84) rfl ?_
  have hz84 : ∀ o j : Int, 84 < o → h2 o j = 0 := fun o j ho => zh2 o j (by omega)
  refine J_cong (st2 := [xR 84, xR 81]) rfl rfl ?_
  obtain ⟨h3, eh3⟩ : ∃ x : xH, x = xup h2 81 4 84 := ⟨_, rfl⟩
  refine J_putR (j := 4) xcf12 dX12_init_27 rfl rfl (by decide) kO81 xq1024 (by decide) (by decide) (fun _ => ⟨rfl, rfl⟩) (by decide) eh3 ?_
  have zh3 : ∀ o j : Int, 84 < o → h3 o j = 0 := fun o j ho => by rw [eh3, xup_row (by omega)]; exact hz84 o j ho
  refine J_aload_n 0 dX12_init_30 rfl rfl ?_
  refine J_sip dX12_init_31 (by decide) ?_
  refine J_newa (rc2 := 60) (rs2 := 50979) dX12_init_34 xq163 (by decide +kernel) (by decide +kernel) (by decide +kernel) (fun j => zh3 85 j (by decide)) rfl rfl ?_
  refine J_n (m := 85) rfl ?_
  have hz85 : ∀ o j : Int, 85 < o → h3 o j = 0 := fun o j ho => zh3 o j (by omega)
  refine J_cong (st2 := [xR 85, xR 81]) rfl rfl ?_
  obtain ⟨h4, eh4⟩ : ∃ x : xH, x = xup h3 81 6 85 := ⟨_, rfl⟩
  refine J_putR (j := 6) xcf12 dX12_init_36 rfl rfl (by decide) kO81 xq1026 (by decide) (by decide) (fun _ => ⟨rfl, rfl⟩) (by decide) eh4 ?_
  have zh4 : ∀ o j : Int, 85 < o → h4 o j = 0 := fun o j ho => by rw [eh4, xup_row (by omega)]; exact hz85 o j ho
  refine J_aload_n 0 dX12_init_39 rfl rfl ?_
  refine J_sip dX12_init_40 (by decide) ?_
  refine J_newa (rc2 := 59) (rs2 := 48579) dX12_init_43 xq163 (by decide +kernel) (by decide +kernel) (by decide +kernel) (fun j => zh4 86 j (by decide)) rfl rfl ?_
  refine J_n (m := 86) rfl ?_
  have hz86 : ∀ o j : Int, 86 < o → h4 o j = 0 := fun o j ho => zh4 o j (by omega)
  refine J_cong (st2 := [xR 86, xR 81]) rfl rfl ?_
  obtain ⟨h5, eh5⟩ : ∃ x : xH, x = xup h4 81 7 86 := ⟨_, rfl⟩
  refine J_putR (j := 7) xcf12 dX12_init_45 rfl rfl (by decide) kO81 xq1027 (by decide) (by decide) (fun _ => ⟨rfl, rfl⟩) (by decide) eh5 ?_
  have zh5 : ∀ o j : Int, 86 < o → h5 o j = 0 := fun o j ho => by rw [eh5, xup_row (by omega)]; exact hz86 o j ho
  refine J_aload_n 0 dX12_init_48 rfl rfl ?_
  refine J_pc (pc2 := 49) rfl ?_
  refine J_sip dX12_init_49 (by decide) ?_
  refine J_newa (rc2 := 58) (rs2 := 48379) dX12_init_52 xq163 (by decide +kernel) (by decide +kernel) (by decide +kernel) (fun j => zh5 87 j (by decide)) rfl rfl ?_
  refine J_n (m := 87) rfl ?_
  have hz87 : ∀ o j : Int, 87 < o → h5 o j = 0 := fun o j ho => zh5 o j (by omega)
  refine J_cong (st2 := [xR 87, xR 81]) rfl rfl ?_
  obtain ⟨h6, eh6⟩ : ∃ x : xH, x = xup h5 81 8 87 := ⟨_, rfl⟩
  refine J_putR (j := 8) xcf12 dX12_init_54 rfl rfl (by decide) kO81 xq1028 (by decide) (by decide) (fun _ => ⟨rfl, rfl⟩) (by decide) eh6 ?_
  have zh6 : ∀ o j : Int, 87 < o → h6 o j = 0 := fun o j ho => by rw [eh6, xup_row (by omega)]; exact hz87 o j ho
  refine J_aload_n 0 dX12_init_57 rfl rfl ?_
  refine J_bip dX12_init_58 (by decide) ?_
  refine J_newa (rc2 := 57) (rs2 := 48372) dX12_init_60 xq163 (by decide +kernel) (by decide +kernel) (by decide +kernel) (fun j => zh6 88 j (by decide)) rfl rfl ?_
  refine J_n (m := 88) rfl ?_
  have hz88 : ∀ o j : Int, 88 < o → h6 o j = 0 := fun o j ho => zh6 o j (by omega)
  refine J_cong (st2 := [xR 88, xR 81]) rfl rfl ?_
  obtain ⟨h7, eh7⟩ : ∃ x : xH, x = xup h6 81 9 88 := ⟨_, rfl⟩
  refine J_putR (j := 9) xcf12 dX12_init_62 rfl rfl (by decide) kO81 xq1029 (by decide) (by decide) (fun _ => ⟨rfl, rfl⟩) (by decide) eh7 ?_
  have zh7 : ∀ o j : Int, 88 < o → h7 o j = 0 := fun o j ho => by rw [eh7, xup_row (by omega)]; exact hz88 o j ho
  refine J_aload_n 0 dX12_init_65 rfl rfl ?_
  refine J_sip dX12_init_66 (by decide) ?_
  refine J_newa (rc2 := 56) (rs2 := 47696) dX12_init_69 xq163 (by decide +kernel) (by decide +kernel) (by decide +kernel) (fun j => zh7 89 j (by decide)) rfl rfl ?_
  refine J_n (m := 89) rfl ?_
  have hz89 : ∀ o j : Int, 89 < o → h7 o j = 0 := fun o j ho => zh7 o j (by omega)
  refine J_cong (st2 := [xR 89, xR 81]) rfl rfl ?_
  obtain ⟨h8, eh8⟩ : ∃ x : xH, x = xup h7 81 10 89 := ⟨_, rfl⟩
  refine J_putR (j := 10) xcf12 dX12_init_71 rfl rfl (by decide) kO81 xq1030 (by decide) (by decide) (fun _ => ⟨rfl, rfl⟩) (by decide) eh8 ?_
  have zh8 : ∀ o j : Int, 89 < o → h8 o j = 0 := fun o j ho => by rw [eh8, xup_row (by omega)]; exact hz89 o j ho
  refine J_aload_n 0 dX12_init_74 rfl rfl ?_
  refine J_pc (pc2 := 75) rfl ?_
  refine J_bip dX12_init_75 (by decide) ?_
  refine J_newa (rc2 := 55) (rs2 := 47670) dX12_init_77 xq163 (by decide +kernel) (by decide +kernel) (by decide +kernel) (fun j => zh8 90 j (by decide)) rfl rfl ?_
  refine J_n (m := 90) rfl ?_
  have hz90 : ∀ o j : Int, 90 < o → h8 o j = 0 := fun o j ho => zh8 o j (by omega)
  refine J_cong (st2 := [xR 90, xR 81]) rfl rfl ?_
  obtain ⟨h9, eh9⟩ : ∃ x : xH, x = xup h8 81 11 90 := ⟨_, rfl⟩
  refine J_putR (j := 11) xcf12 dX12_init_79 rfl rfl (by decide) kO81 xq1031 (by decide) (by decide) (fun _ => ⟨rfl, rfl⟩) (by decide) eh9 ?_
  have zh9 : ∀ o j : Int, 90 < o → h9 o j = 0 := fun o j ho => by rw [eh9, xup_row (by omega)]; exact hz90 o j ho
  refine J_aload_n 0 dX12_init_82 rfl rfl ?_
  refine J_bip dX12_init_83 (by decide) ?_
  refine J_newa (rc2 := 54) (rs2 := 47644) dX12_init_85 xq163 (by decide +kernel) (by decide +kernel) (by decide +kernel) (fun j => zh9 91 j (by decide)) rfl rfl ?_
  refine J_n (m := 91) rfl ?_
  have hz91 : ∀ o j : Int, 91 < o → h9 o j = 0 := fun o j ho => zh9 o j (by omega)
  refine J_cong (st2 := [xR 91, xR 81]) rfl rfl ?_
  obtain ⟨h10, eh10⟩ : ∃ x : xH, x = xup h9 81 12 91 := ⟨_, rfl⟩
  refine J_putR (j := 12) xcf12 dX12_init_87 rfl rfl (by decide) kO81 xq1032 (by decide) (by decide) (fun _ => ⟨rfl, rfl⟩) (by decide) eh10 ?_
  have zh10 : ∀ o j : Int, 91 < o → h10 o j = 0 := fun o j ho => by rw [eh10, xup_row (by omega)]; exact hz91 o j ho
  refine J_aload_n 0 dX12_init_90 rfl rfl ?_
  refine J_bip dX12_init_91 (by decide) ?_
  obtain ⟨h11, eh11⟩ : ∃ x : xH, x = xup h10 81 13 60 := ⟨_, rfl⟩
  refine J_putI (j := 13) xcf12 dX12_init_93 (by decide) kO81 (Or.inl xq1033) (by decide) (by decide) eh11 ?_
  have zh11 : ∀ o j : Int, 91 < o → h11 o j = 0 := fun o j ho => by rw [eh11, xup_row (by omega)]; exact zh10 o j ho
  refine J_aload_n 0 dX12_init_96 rfl rfl ?_
  refine J_bip dX12_init_97 (by decide) ?_
  refine J_pc (pc2 := 99) rfl ?_
  obtain ⟨h12, eh12⟩ : ∃ x : xH, x = xup h11 81 14 60 := ⟨_, rfl⟩
  refine J_putI (j := 14) xcf12 dX12_init_99 (by decide) kO81 (Or.inl xq1034) (by decide) (by decide) eh12 ?_
  have zh12 : ∀ o j : Int, 91 < o → h12 o j = 0 := fun o j ho => by rw [eh12, xup_row (by omega)]; exact zh11 o j ho
  refine J_aload_n 0 dX12_init_102 rfl rfl ?_
  refine J_bip dX12_init_103 (by decide) ?_
  refine J_newa (rc2 := 53) (rs2 := 47624) dX12_init_105 xq163 (by decide +kernel) (by decide +kernel) (by decide +kernel) (fun j => zh12 92 j (by decide)) rfl rfl ?_
  refine J_n (m := 92) rfl ?_
  have hz92 : ∀ o j : Int, 92 < o → h12 o j = 0 := fun o j ho => zh12 o j (by omega)
  refine J_cong (st2 := [xR 92, xR 81]) rfl rfl ?_
  obtain ⟨h13, eh13⟩ : ∃ x : xH, x = xup h12 81 17 92 := ⟨_, rfl⟩
  refine J_putR (j := 17) xcf12 dX12_init_107 rfl rfl (by decide) kO81 xq1037 (by decide) (by decide) (fun _ => ⟨rfl, rfl⟩) (by decide) eh13 ?_
  have zh13 : ∀ o j : Int, 92 < o → h13 o j = 0 := fun o j ho => by rw [eh13, xup_row (by omega)]; exact hz92 o j ho
  refine J_aload_n 0 dX12_init_110 rfl rfl ?_
  refine J_bip dX12_init_111 (by decide) ?_
  refine J_newa (rc2 := 52) (rs2 := 47564) dX12_init_113 xq163 (by decide +kernel) (by decide +kernel) (by decide +kernel) (fun j => zh13 93 j (by decide)) rfl rfl ?_
  refine J_n (m := 93) rfl ?_
  have hz93 : ∀ o j : Int, 93 < o → h13 o j = 0 := fun o j ho => zh13 o j (by omega)
  refine J_cong (st2 := [xR 93, xR 81]) rfl rfl ?_
  obtain ⟨h14, eh14⟩ : ∃ x : xH, x = xup h13 81 18 93 := ⟨_, rfl⟩
  refine J_putR (j := 18) xcf12 dX12_init_115 rfl rfl (by decide) kO81 xq1038 (by decide) (by decide) (fun _ => ⟨rfl, rfl⟩) (by decide) eh14 ?_
  have zh14 : ∀ o j : Int, 93 < o → h14 o j = 0 := fun o j ho => by rw [eh14, xup_row (by omega)]; exact hz93 o j ho
  refine J_aload_n 0 dX12_init_118 rfl rfl ?_
  refine J_bip dX12_init_119 (by decide) ?_
  refine J_newa (rc2 := 51) (rs2 := 47544) dX12_init_121 xq163 (by decide +kernel) (by decide +kernel) (by decide +kernel) (fun j => zh14 94 j (by decide)) rfl rfl ?_
  refine J_n (m := 94) rfl ?_
  have hz94 : ∀ o j : Int, 94 < o → h14 o j = 0 := fun o j ho => zh14 o j (by omega)
  refine J_cong (st2 := [xR 94, xR 81]) rfl rfl ?_
  refine J_pc (pc2 := 123) rfl ?_
  obtain ⟨h15, eh15⟩ : ∃ x : xH, x = xup h14 81 19 94 := ⟨_, rfl⟩
  refine J_putR (j := 19) xcf12 dX12_init_123 rfl rfl (by decide) kO81 xq1039 (by decide) (by decide) (fun _ => ⟨rfl, rfl⟩) (by decide) eh15 ?_
  have zh15 : ∀ o j : Int, 94 < o → h15 o j = 0 := fun o j ho => by rw [eh15, xup_row (by omega)]; exact hz94 o j ho
  refine J_aload_n 0 dX12_init_126 rfl rfl ?_
  refine J_bip dX12_init_127 (by decide) ?_
  refine J_newa (rc2 := 50) (rs2 := 47484) dX12_init_129 xq163 (by decide +kernel) (by decide +kernel) (by decide +kernel) (fun j => zh15 95 j (by decide)) rfl rfl ?_
  refine J_n (m := 95) rfl ?_
  have hz95 : ∀ o j : Int, 95 < o → h15 o j = 0 := fun o j ho => zh15 o j (by omega)
  refine J_cong (st2 := [xR 95, xR 81]) rfl rfl ?_
  obtain ⟨h16, eh16⟩ : ∃ x : xH, x = xup h15 81 20 95 := ⟨_, rfl⟩
  refine J_putR (j := 20) xcf12 dX12_init_131 rfl rfl (by decide) kO81 xq1040 (by decide) (by decide) (fun _ => ⟨rfl, rfl⟩) (by decide) eh16 ?_
  have zh16 : ∀ o j : Int, 95 < o → h16 o j = 0 := fun o j ho => by rw [eh16, xup_row (by omega)]; exact hz95 o j ho
  refine J_aload_n 0 dX12_init_134 rfl rfl ?_
  refine J_bip dX12_init_135 (by decide) ?_
  refine J_newa (rc2 := 49) (rs2 := 47464) dX12_init_137 xq163 (by decide +kernel) (by decide +kernel) (by decide +kernel) (fun j => zh16 96 j (by decide)) rfl rfl ?_
  refine J_n (m := 96) rfl ?_
  have hz96 : ∀ o j : Int, 96 < o → h16 o j = 0 := fun o j ho => zh16 o j (by omega)
  refine J_cong (st2 := [xR 96, xR 81]) rfl rfl ?_
  obtain ⟨h17, eh17⟩ : ∃ x : xH, x = xup h16 81 21 96 := ⟨_, rfl⟩
  refine J_putR (j := 21) xcf12 dX12_init_139 rfl rfl (by decide) kO81 xq1041 (by decide) (by decide) (fun _ => ⟨rfl, rfl⟩) (by decide) eh17 ?_
  have zh17 : ∀ o j : Int, 96 < o → h17 o j = 0 := fun o j ho => by rw [eh17, xup_row (by omega)]; exact hz96 o j ho
  refine J_aload_n 0 dX12_init_142 rfl rfl ?_
  refine J_bip dX12_init_143 (by decide) ?_
  refine J_newa (rc2 := 48) (rs2 := 47452) dX12_init_145 xq163 (by decide +kernel) (by decide +kernel) (by decide +kernel) (fun j => zh17 97 j (by decide)) rfl rfl ?_
  refine J_n (m := 97) rfl ?_
  have hz97 : ∀ o j : Int, 97 < o → h17 o j = 0 := fun o j ho => zh17 o j (by omega)
  refine J_cong (st2 := [xR 97, xR 81]) rfl rfl ?_
  refine J_pc (pc2 := 147) rfl ?_
  obtain ⟨h18, eh18⟩ : ∃ x : xH, x = xup h17 81 24 97 := ⟨_, rfl⟩
  refine J_putR (j := 24) xcf12 dX12_init_147 rfl rfl (by decide) kO81 xq1044 (by decide) (by decide) (fun _ => ⟨rfl, rfl⟩) (by decide) eh18 ?_
  have zh18 : ∀ o j : Int, 97 < o → h18 o j = 0 := fun o j ho => by rw [eh18, xup_row (by omega)]; exact hz97 o j ho
  refine J_aload_n 0 dX12_init_150 rfl rfl ?_
  refine J_bip dX12_init_151 (by decide) ?_
  refine J_newa (rc2 := 47) (rs2 := 47440) dX12_init_153 xq163 (by decide +kernel) (by decide +kernel) (by decide +kernel) (fun j => zh18 98 j (by decide)) rfl rfl ?_
  refine J_n (m := 98) rfl ?_
  have hz98 : ∀ o j : Int, 98 < o → h18 o j = 0 := fun o j ho => zh18 o j (by omega)
  refine J_cong (st2 := [xR 98, xR 81]) rfl rfl ?_
  obtain ⟨h19, eh19⟩ : ∃ x : xH, x = xup h18 81 25 98 := ⟨_, rfl⟩
  refine J_putR (j := 25) xcf12 dX12_init_155 rfl rfl (by decide) kO81 xq1045 (by decide) (by decide) (fun _ => ⟨rfl, rfl⟩) (by decide) eh19 ?_
  have zh19 : ∀ o j : Int, 98 < o → h19 o j = 0 := fun o j ho => by rw [eh19, xup_row (by omega)]; exact hz98 o j ho
  refine J_aload_n 0 dX12_init_158 rfl rfl ?_
  refine J_sip dX12_init_159 (by decide) ?_
  refine J_newa (rc2 := 46) (rs2 := 47271) dX12_init_162 xq163 (by decide +kernel) (by decide +kernel) (by decide +kernel) (fun j => zh19 99 j (by decide)) rfl rfl ?_
  refine J_n (m := 99) rfl ?_
  have hz99 : ∀ o j : Int, 99 < o → h19 o j = 0 := fun o j ho => zh19 o j (by omega)
  refine J_cong (st2 := [xR 99, xR 81]) rfl rfl ?_
  obtain ⟨h20, eh20⟩ : ∃ x : xH, x = xup h19 81 26 99 := ⟨_, rfl⟩
  refine J_putR (j := 26) xcf12 dX12_init_164 rfl rfl (by decide) kO81 xq1046 (by decide) (by decide) (fun _ => ⟨rfl, rfl⟩) (by decide) eh20 ?_
  have zh20 : ∀ o j : Int, 99 < o → h20 o j = 0 := fun o j ho => by rw [eh20, xup_row (by omega)]; exact hz99 o j ho
  refine J_aload_n 0 dX12_init_167 rfl rfl ?_
  refine J_bip dX12_init_168 (by decide) ?_
  refine J_newa (rc2 := 45) (rs2 := 47247) dX12_init_170 xq163 (by decide +kernel) (by decide +kernel) (by decide +kernel) (fun j => zh20 100 j (by decide)) rfl rfl ?_
  refine J_n (m := 100) rfl ?_
  have hz100 : ∀ o j : Int, 100 < o → h20 o j = 0 := fun o j ho => zh20 o j (by omega)
  refine J_cong (st2 := [xR 100, xR 81]) rfl rfl ?_
  refine J_pc (pc2 := 172) rfl ?_
  obtain ⟨h21, eh21⟩ : ∃ x : xH, x = xup h20 81 28 100 := ⟨_, rfl⟩
  refine J_putR (j := 28) xcf12 dX12_init_172 rfl rfl (by decide) kO81 xq1048 (by decide) (by decide) (fun _ => ⟨rfl, rfl⟩) (by decide) eh21 ?_
  have zh21 : ∀ o j : Int, 100 < o → h21 o j = 0 := fun o j ho => by rw [eh21, xup_row (by omega)]; exact hz100 o j ho
  refine J_aload_n 0 dX12_init_175 rfl rfl ?_
  refine J_bip dX12_init_176 (by decide) ?_
  refine J_newa (rc2 := 44) (rs2 := 47223) dX12_init_178 xq163 (by decide +kernel) (by decide +kernel) (by decide +kernel) (fun j => zh21 101 j (by decide)) rfl rfl ?_
  refine J_n (m := 101) rfl ?_
  have hz101 : ∀ o j : Int, 101 < o → h21 o j = 0 := fun o j ho => zh21 o j (by omega)
  refine J_cong (st2 := [xR 101, xR 81]) rfl rfl ?_
  obtain ⟨h22, eh22⟩ : ∃ x : xH, x = xup h21 81 29 101 := ⟨_, rfl⟩
  refine J_putR (j := 29) xcf12 dX12_init_180 rfl rfl (by decide) kO81 xq1049 (by decide) (by decide) (fun _ => ⟨rfl, rfl⟩) (by decide) eh22 ?_
  have zh22 : ∀ o j : Int, 101 < o → h22 o j = 0 := fun o j ho => by rw [eh22, xup_row (by omega)]; exact hz101 o j ho
  refine J_aload_n 0 dX12_init_183 rfl rfl ?_
  refine J_bip dX12_init_184 (by decide) ?_
  refine J_newa (rc2 := 43) (rs2 := 47199) dX12_init_186 xq163 (by decide +kernel) (by decide +kernel) (by decide +kernel) (fun j => zh22 102 j (by decide)) rfl rfl ?_
  refine J_n (m := 102) rfl ?_
  have hz102 : ∀ o j : Int, 102 < o → h22 o j = 0 := fun o j ho => zh22 o j (by omega)
  refine J_cong (st2 := [xR 102, xR 81]) rfl rfl ?_
  obtain ⟨h23, eh23⟩ : ∃ x : xH, x = xup h22 81 30 102 := ⟨_, rfl⟩
  refine J_putR (j := 30) xcf12 dX12_init_188 rfl rfl (by decide) kO81 xq1050 (by decide) (by decide) (fun _ => ⟨rfl, rfl⟩) (by decide) eh23 ?_
  have zh23 : ∀ o j : Int, 102 < o → h23 o j = 0 := fun o j ho => by rw [eh23, xup_row (by omega)]; exact hz102 o j ho
  refine J_aload_n 0 dX12_init_191 rfl rfl ?_
  refine J_bip dX12_init_192 (by decide) ?_
  refine J_newa (rc2 := 42) (rs2 := 47175) dX12_init_194 xq163 (by decide +kernel) (by decide +kernel) (by decide +kernel) (fun j => zh23 103 j (by decide)) rfl rfl ?_
  refine J_n (m := 103) rfl ?_
  have hz103 : ∀ o j : Int, 103 < o → h23 o j = 0 := fun o j ho => zh23 o j (by omega)
  refine J_cong (st2 := [xR 103, xR 81]) rfl rfl ?_
  refine J_pc (pc2 := 196) rfl ?_
  obtain ⟨h24, eh24⟩ : ∃ x : xH, x = xup h23 81 31 103 := ⟨_, rfl⟩
  refine J_putR (j := 31) xcf12 dX12_init_196 rfl rfl (by decide) kO81 xq1051 (by decide) (by decide) (fun _ => ⟨rfl, rfl⟩) (by decide) eh24 ?_
  have zh24 : ∀ o j : Int, 103 < o → h24 o j = 0 := fun o j ho => by rw [eh24, xup_row (by omega)]; exact hz103 o j ho
  refine J_aload_n 0 dX12_init_199 rfl rfl ?_
  refine J_bip dX12_init_200 (by decide) ?_
  refine J_newa (rc2 := 41) (rs2 := 47151) dX12_init_202 xq163 (by decide +kernel) (by decide +kernel) (by decide +kernel) (fun j => zh24 104 j (by decide)) rfl rfl ?_
  refine J_n (m := 104) rfl ?_
  have hz104 : ∀ o j : Int, 104 < o → h24 o j = 0 := fun o j ho => zh24 o j (by omega)
  refine J_cong (st2 := [xR 104, xR 81]) rfl rfl ?_
  obtain ⟨h25, eh25⟩ : ∃ x : xH, x = xup h24 81 32 104 := ⟨_, rfl⟩
  refine J_putR (j := 32) xcf12 dX12_init_204 rfl rfl (by decide) kO81 xq1052 (by decide) (by decide) (fun _ => ⟨rfl, rfl⟩) (by decide) eh25 ?_
  have zh25 : ∀ o j : Int, 104 < o → h25 o j = 0 := fun o j ho => by rw [eh25, xup_row (by omega)]; exact hz104 o j ho
  refine J_aload_n 0 dX12_init_207 rfl rfl ?_
  refine J_iconst dX12_init_208 (by decide) ?_
  obtain ⟨h26, eh26⟩ : ∃ x : xH, x = xup h25 81 33 (-1) := ⟨_, rfl⟩
  refine J_putI (j := 33) xcf12 dX12_init_209 (by decide) kO81 (Or.inl xq1053) (by decide) (by decide) eh26 ?_
  have zh26 : ∀ o j : Int, 104 < o → h26 o j = 0 := fun o j ho => by rw [eh26, xup_row (by omega)]; exact zh25 o j ho
  refine J_aload_n 0 dX12_init_212 rfl rfl ?_
  refine J_bip dX12_init_213 (by decide) ?_
  refine J_newa (rc2 := 40) (rs2 := 47127) dX12_init_215 xq163 (by decide +kernel) (by decide +kernel) (by decide +kernel) (fun j => zh26 105 j (by decide)) rfl rfl ?_
  refine J_n (m := 105) rfl ?_
  have hz105 : ∀ o j : Int, 105 < o → h26 o j = 0 := fun o j ho => zh26 o j (by omega)
  refine J_cong (st2 := [xR 105, xR 81]) rfl rfl ?_
  obtain ⟨h27, eh27⟩ : ∃ x : xH, x = xup h26 81 34 105 := ⟨_, rfl⟩
  refine J_putR (j := 34) xcf12 dX12_init_217 rfl rfl (by decide) kO81 xq1054 (by decide) (by decide) (fun _ => ⟨rfl, rfl⟩) (by decide) eh27 ?_
  have zh27 : ∀ o j : Int, 105 < o → h27 o j = 0 := fun o j ho => by rw [eh27, xup_row (by omega)]; exact hz105 o j ho
  refine J_pc (pc2 := 220) rfl ?_
  refine J_aload_n 0 dX12_init_220 rfl rfl ?_
  refine J_bip dX12_init_221 (by decide) ?_
  refine J_newa (rc2 := 39) (rs2 := 47103) dX12_init_223 xq163 (by decide +kernel) (by decide +kernel) (by decide +kernel) (fun j => zh27 106 j (by decide)) rfl rfl ?_
  refine J_n (m := 106) rfl ?_
  have hz106 : ∀ o j : Int, 106 < o → h27 o j = 0 := fun o j ho => zh27 o j (by omega)
  refine J_cong (st2 := [xR 106, xR 81]) rfl rfl ?_
  obtain ⟨h28, eh28⟩ : ∃ x : xH, x = xup h27 81 35 106 := ⟨_, rfl⟩
  refine J_putR (j := 35) xcf12 dX12_init_225 rfl rfl (by decide) kO81 xq1055 (by decide) (by decide) (fun _ => ⟨rfl, rfl⟩) (by decide) eh28 ?_
  have zh28 : ∀ o j : Int, 106 < o → h28 o j = 0 := fun o j ho => by rw [eh28, xup_row (by omega)]; exact hz106 o j ho
  refine J_aload_n 0 dX12_init_228 rfl rfl ?_
  refine J_bip dX12_init_229 (by decide) ?_
  refine J_newa (rc2 := 38) (rs2 := 47079) dX12_init_231 xq163 (by decide +kernel) (by decide +kernel) (by decide +kernel) (fun j => zh28 107 j (by decide)) rfl rfl ?_
  refine J_n (m := 107) rfl ?_
  have hz107 : ∀ o j : Int, 107 < o → h28 o j = 0 := fun o j ho => zh28 o j (by omega)
  refine J_cong (st2 := [xR 107, xR 81]) rfl rfl ?_
  obtain ⟨h29, eh29⟩ : ∃ x : xH, x = xup h28 81 36 107 := ⟨_, rfl⟩
  refine J_putR (j := 36) xcf12 dX12_init_233 rfl rfl (by decide) kO81 xq1056 (by decide) (by decide) (fun _ => ⟨rfl, rfl⟩) (by decide) eh29 ?_
  have zh29 : ∀ o j : Int, 107 < o → h29 o j = 0 := fun o j ho => by rw [eh29, xup_row (by omega)]; exact hz107 o j ho
  refine J_aload_n 0 dX12_init_236 rfl rfl ?_
  refine J_bip dX12_init_237 (by decide) ?_
  refine J_newa (rc2 := 37) (rs2 := 47055) dX12_init_239 xq163 (by decide +kernel) (by decide +kernel) (by decide +kernel) (fun j => zh29 108 j (by decide)) rfl rfl ?_
  refine J_n (m := 108) rfl ?_
  have hz108 : ∀ o j : Int, 108 < o → h29 o j = 0 := fun o j ho => zh29 o j (by omega)
  refine J_cong (st2 := [xR 108, xR 81]) rfl rfl ?_
  obtain ⟨h30, eh30⟩ : ∃ x : xH, x = xup h29 81 37 108 := ⟨_, rfl⟩
  refine J_putR (j := 37) xcf12 dX12_init_241 rfl rfl (by decide) kO81 xq1057 (by decide) (by decide) (fun _ => ⟨rfl, rfl⟩) (by decide) eh30 ?_
  have zh30 : ∀ o j : Int, 108 < o → h30 o j = 0 := fun o j ho => by rw [eh30, xup_row (by omega)]; exact hz108 o j ho
  refine J_pc (pc2 := 244) rfl ?_
  refine J_aload_n 0 dX12_init_244 rfl rfl ?_
  refine J_bip dX12_init_245 (by decide) ?_
  refine J_newa (rc2 := 36) (rs2 := 47031) dX12_init_247 xq163 (by decide +kernel) (by decide +kernel) (by decide +kernel) (fun j => zh30 109 j (by decide)) rfl rfl ?_
  refine J_n (m := 109) rfl ?_
  have hz109 : ∀ o j : Int, 109 < o → h30 o j = 0 := fun o j ho => zh30 o j (by omega)
  refine J_cong (st2 := [xR 109, xR 81]) rfl rfl ?_
  obtain ⟨h31, eh31⟩ : ∃ x : xH, x = xup h30 81 38 109 := ⟨_, rfl⟩
  refine J_putR (j := 38) xcf12 dX12_init_249 rfl rfl (by decide) kO81 xq1058 (by decide) (by decide) (fun _ => ⟨rfl, rfl⟩) (by decide) eh31 ?_
  have zh31 : ∀ o j : Int, 109 < o → h31 o j = 0 := fun o j ho => by rw [eh31, xup_row (by omega)]; exact hz109 o j ho
  refine J_aload_n 0 dX12_init_252 rfl rfl ?_
  refine J_sip dX12_init_253 (by decide) ?_
  refine J_newa (rc2 := 35) (rs2 := 44630) dX12_init_256 xq163 (by decide +kernel) (by decide +kernel) (by decide +kernel) (fun j => zh31 110 j (by decide)) rfl rfl ?_
  refine J_n (m := 110) rfl ?_
  have hz110 : ∀ o j : Int, 110 < o → h31 o j = 0 := fun o j ho => zh31 o j (by omega)
  refine J_cong (st2 := [xR 110, xR 81]) rfl rfl ?_
  obtain ⟨h32, eh32⟩ : ∃ x : xH, x = xup h31 81 41 110 := ⟨_, rfl⟩
  refine J_putR (j := 41) xcf12 dX12_init_258 rfl rfl (by decide) kO81 xq1061 (by decide) (by decide) (fun _ => ⟨rfl, rfl⟩) (by decide) eh32 ?_
  have zh32 : ∀ o j : Int, 110 < o → h32 o j = 0 := fun o j ho => by rw [eh32, xup_row (by omega)]; exact hz110 o j ho
  refine J_aload_n 0 dX12_init_261 rfl rfl ?_
  refine J_sip dX12_init_262 (by decide) ?_
  refine J_newa (rc2 := 34) (rs2 := 42229) dX12_init_265 xq163 (by decide +kernel) (by decide +kernel) (by decide +kernel) (fun j => zh32 111 j (by decide)) rfl rfl ?_
  refine J_n (m := 111) rfl ?_
  have hz111 : ∀ o j : Int, 111 < o → h32 o j = 0 := fun o j ho => zh32 o j (by omega)
  refine J_cong (st2 := [xR 111, xR 81]) rfl rfl ?_
  obtain ⟨h33, eh33⟩ : ∃ x : xH, x = xup h32 81 42 111 := ⟨_, rfl⟩
  refine J_putR (j := 42) xcf12 dX12_init_267 rfl rfl (by decide) kO81 xq1062 (by decide) (by decide) (fun _ => ⟨rfl, rfl⟩) (by decide) eh33 ?_
  have zh33 : ∀ o j : Int, 111 < o → h33 o j = 0 := fun o j ho => by rw [eh33, xup_row (by omega)]; exact hz111 o j ho
  refine J_pc (pc2 := 270) rfl ?_
  refine J_aload_n 0 dX12_init_270 rfl rfl ?_
  refine J_sip dX12_init_271 (by decide) ?_
  refine J_newa (rc2 := 33) (rs2 := 39828) dX12_init_274 xq163 (by decide +kernel) (by decide +kernel) (by decide +kernel) (fun j => zh33 112 j (by decide)) rfl rfl ?_
  refine J_n (m := 112) rfl ?_
  have hz112 : ∀ o j : Int, 112 < o → h33 o j = 0 := fun o j ho => zh33 o j (by omega)
  refine J_cong (st2 := [xR 112, xR 81]) rfl rfl ?_
  obtain ⟨h34, eh34⟩ : ∃ x : xH, x = xup h33 81 43 112 := ⟨_, rfl⟩
  refine J_putR (j := 43) xcf12 dX12_init_276 rfl rfl (by decide) kO81 xq1063 (by decide) (by decide) (fun _ => ⟨rfl, rfl⟩) (by decide) eh34 ?_
  have zh34 : ∀ o j : Int, 112 < o → h34 o j = 0 := fun o j ho => by rw [eh34, xup_row (by omega)]; exact hz112 o j ho
  refine J_aload_n 0 dX12_init_279 rfl rfl ?_
  refine J_sip dX12_init_280 (by decide) ?_
  refine J_newa (rc2 := 32) (rs2 := 37427) dX12_init_283 xq163 (by decide +kernel) (by decide +kernel) (by decide +kernel) (fun j => zh34 113 j (by decide)) rfl rfl ?_
  refine J_n (m := 113) rfl ?_
  have hz113 : ∀ o j : Int, 113 < o → h34 o j = 0 := fun o j ho => zh34 o j (by omega)
  refine J_cong (st2 := [xR 113, xR 81]) rfl rfl ?_
  obtain ⟨h35, eh35⟩ : ∃ x : xH, x = xup h34 81 44 113 := ⟨_, rfl⟩
  refine J_putR (j := 44) xcf12 dX12_init_285 rfl rfl (by decide) kO81 xq1064 (by decide) (by decide) (fun _ => ⟨rfl, rfl⟩) (by decide) eh35 ?_
  have zh35 : ∀ o j : Int, 113 < o → h35 o j = 0 := fun o j ho => by rw [eh35, xup_row (by omega)]; exact hz113 o j ho
  refine J_aload_n 0 dX12_init_288 rfl rfl ?_
  refine J_sip dX12_init_289 (by decide) ?_
  refine J_newa (rc2 := 31) (rs2 := 35026) dX12_init_292 xq163 (by decide +kernel) (by decide +kernel) (by decide +kernel) (fun j => zh35 114 j (by decide)) rfl rfl ?_
  refine J_n (m := 114) rfl ?_
  have hz114 : ∀ o j : Int, 114 < o → h35 o j = 0 := fun o j ho => zh35 o j (by omega)
  refine J_cong (st2 := [xR 114, xR 81]) rfl rfl ?_
  obtain ⟨h36, eh36⟩ : ∃ x : xH, x = xup h35 81 45 114 := ⟨_, rfl⟩
  refine J_putR (j := 45) xcf12 dX12_init_294 rfl rfl (by decide) kO81 xq1065 (by decide) (by decide) (fun _ => ⟨rfl, rfl⟩) (by decide) eh36 ?_
  have zh36 : ∀ o j : Int, 114 < o → h36 o j = 0 := fun o j ho => by rw [eh36, xup_row (by omega)]; exact hz114 o j ho
  refine J_pc (pc2 := 297) rfl ?_
  refine J_aload_n 0 dX12_init_297 rfl rfl ?_
  refine J_sip dX12_init_298 (by decide) ?_
  refine J_newa (rc2 := 30) (rs2 := 3813) dX12_init_301 xq163 (by decide +kernel) (by decide +kernel) (by decide +kernel) (fun j => zh36 115 j (by decide)) rfl rfl ?_
  refine J_n (m := 115) rfl ?_
  have hz115 : ∀ o j : Int, 115 < o → h36 o j = 0 := fun o j ho => zh36 o j (by omega)
  refine J_cong (st2 := [xR 115, xR 81]) rfl rfl ?_
  obtain ⟨h37, eh37⟩ : ∃ x : xH, x = xup h36 81 46 115 := ⟨_, rfl⟩
  refine J_putR (j := 46) xcf12 dX12_init_303 rfl rfl (by decide) kO81 xq1066 (by decide) (by decide) (fun _ => ⟨rfl, rfl⟩) (by decide) eh37 ?_
  have zh37 : ∀ o j : Int, 115 < o → h37 o j = 0 := fun o j ho => by rw [eh37, xup_row (by omega)]; exact hz115 o j ho
  refine J_aload_n 0 dX12_init_306 rfl rfl ?_
  refine J_sip dX12_init_307 (by decide) ?_
  refine J_newa (rc2 := 29) (rs2 := 3644) dX12_init_310 xq163 (by decide +kernel) (by decide +kernel) (by decide +kernel) (fun j => zh37 116 j (by decide)) rfl rfl ?_
  refine J_n (m := 116) rfl ?_
  have hz116 : ∀ o j : Int, 116 < o → h37 o j = 0 := fun o j ho => zh37 o j (by omega)
  refine J_cong (st2 := [xR 116, xR 81]) rfl rfl ?_
  obtain ⟨h38, eh38⟩ : ∃ x : xH, x = xup h37 81 48 116 := ⟨_, rfl⟩
  refine J_putR (j := 48) xcf12 dX12_init_312 rfl rfl (by decide) kO81 xq1068 (by decide) (by decide) (fun _ => ⟨rfl, rfl⟩) (by decide) eh38 ?_
  have zh38 : ∀ o j : Int, 116 < o → h38 o j = 0 := fun o j ho => by rw [eh38, xup_row (by omega)]; exact hz116 o j ho
  refine J_aload_n 0 dX12_init_315 rfl rfl ?_
  refine J_bip dX12_init_316 (by decide) ?_
  refine J_newa (rc2 := 28) (rs2 := 3631) dX12_init_318 xq163 (by decide +kernel) (by decide +kernel) (by decide +kernel) (fun j => zh38 117 j (by decide)) rfl rfl ?_
  refine J_n (m := 117) rfl ?_
  have hz117 : ∀ o j : Int, 117 < o → h38 o j = 0 := fun o j ho => zh38 o j (by omega)
  refine J_cong (st2 := [xR 117, xR 81]) rfl rfl ?_
  obtain ⟨h39, eh39⟩ : ∃ x : xH, x = xup h38 81 49 117 := ⟨_, rfl⟩
  refine J_putR (j := 49) xcf12 dX12_init_320 rfl rfl (by decide) kO81 xq1069 (by decide) (by decide) (fun _ => ⟨rfl, rfl⟩) (by decide) eh39 ?_
  have zh39 : ∀ o j : Int, 117 < o → h39 o j = 0 := fun o j ho => by rw [eh39, xup_row (by omega)]; exact hz117 o j ho
  refine J_pc (pc2 := 323) rfl ?_
  refine J_aload_n 0 dX12_init_323 rfl rfl ?_
  refine J_bip dX12_init_324 (by decide) ?_
  refine J_newa (rc2 := 27) (rs2 := 3618) dX12_init_326 xq163 (by decide +kernel) (by decide +kernel) (by decide +kernel) (fun j => zh39 118 j (by decide)) rfl rfl ?_
  refine J_n (m := 118) rfl ?_
  have hz118 : ∀ o j : Int, 118 < o → h39 o j = 0 := fun o j ho => zh39 o j (by omega)
  refine J_cong (st2 := [xR 118, xR 81]) rfl rfl ?_
  obtain ⟨h40, eh40⟩ : ∃ x : xH, x = xup h39 81 50 118 := ⟨_, rfl⟩
  refine J_putR (j := 50) xcf12 dX12_init_328 rfl rfl (by decide) kO81 xq1070 (by decide) (by decide) (fun _ => ⟨rfl, rfl⟩) (by decide) eh40 ?_
  have zh40 : ∀ o j : Int, 118 < o → h40 o j = 0 := fun o j ho => by rw [eh40, xup_row (by omega)]; exact hz118 o j ho
  refine J_aload_n 0 dX12_init_331 rfl rfl ?_
  refine J_bip dX12_init_332 (by decide) ?_
  refine J_newa (rc2 := 26) (rs2 := 3605) dX12_init_334 xq163 (by decide +kernel) (by decide +kernel) (by decide +kernel) (fun j => zh40 119 j (by decide)) rfl rfl ?_
  refine J_n (m := 119) rfl ?_
  have hz119 : ∀ o j : Int, 119 < o → h40 o j = 0 := fun o j ho => zh40 o j (by omega)
  refine J_cong (st2 := [xR 119, xR 81]) rfl rfl ?_
  obtain ⟨h41, eh41⟩ : ∃ x : xH, x = xup h40 81 51 119 := ⟨_, rfl⟩
  refine J_putR (j := 51) xcf12 dX12_init_336 rfl rfl (by decide) kO81 xq1071 (by decide) (by decide) (fun _ => ⟨rfl, rfl⟩) (by decide) eh41 ?_
  have zh41 : ∀ o j : Int, 119 < o → h41 o j = 0 := fun o j ho => by rw [eh41, xup_row (by omega)]; exact hz119 o j ho
  refine J_aload_n 0 dX12_init_339 rfl rfl ?_
  refine J_bip dX12_init_340 (by decide) ?_
  refine J_newa (rc2 := 25) (rs2 := 3592) dX12_init_342 xq163 (by decide +kernel) (by decide +kernel) (by decide +kernel) (fun j => zh41 120 j (by decide)) rfl rfl ?_
  refine J_n (m := 120) rfl ?_
  have hz120 : ∀ o j : Int, 120 < o → h41 o j = 0 := fun o j ho => zh41 o j (by omega)
  refine J_cong (st2 := [xR 120, xR 81]) rfl rfl ?_
  obtain ⟨h42, eh42⟩ : ∃ x : xH, x = xup h41 81 52 120 := ⟨_, rfl⟩
  refine J_putR (j := 52) xcf12 dX12_init_344 rfl rfl (by decide) kO81 xq1072 (by decide) (by decide) (fun _ => ⟨rfl, rfl⟩) (by decide) eh42 ?_
  have zh42 : ∀ o j : Int, 120 < o → h42 o j = 0 := fun o j ho => by rw [eh42, xup_row (by omega)]; exact hz120 o j ho
  refine J_pc (pc2 := 347) rfl ?_
  refine J_aload_n 0 dX12_init_347 rfl rfl ?_
  refine J_sip dX12_init_348 (by decide) ?_
  refine J_newa (rc2 := 24) (rs2 := 3392) dX12_init_351 xq163 (by decide +kernel) (by decide +kernel) (by decide +kernel) (fun j => zh42 121 j (by decide)) rfl rfl ?_
  refine J_n (m := 121) rfl ?_
  have hz121 : ∀ o j : Int, 121 < o → h42 o j = 0 := fun o j ho => zh42 o j (by omega)
  refine J_cong (st2 := [xR 121, xR 81]) rfl rfl ?_
  obtain ⟨h43, eh43⟩ : ∃ x : xH, x = xup h42 81 54 121 := ⟨_, rfl⟩
  refine J_putR (j := 54) xcf12 dX12_init_353 rfl rfl (by decide) kO81 xq1074 (by decide) (by decide) (fun _ => ⟨rfl, rfl⟩) (by decide) eh43 ?_
  have zh43 : ∀ o j : Int, 121 < o → h43 o j = 0 := fun o j ho => by rw [eh43, xup_row (by omega)]; exact hz121 o j ho
  refine J_aload_n 0 dX12_init_356 rfl rfl ?_
  refine J_sip dX12_init_357 (by decide) ?_
  refine J_newa (rc2 := 23) (rs2 := 3192) dX12_init_360 xq163 (by decide +kernel) (by decide +kernel) (by decide +kernel) (fun j => zh43 122 j (by decide)) rfl rfl ?_
  refine J_n (m := 122) rfl ?_
  have hz122 : ∀ o j : Int, 122 < o → h43 o j = 0 := fun o j ho => zh43 o j (by omega)
  refine J_cong (st2 := [xR 122, xR 81]) rfl rfl ?_
  obtain ⟨h44, eh44⟩ : ∃ x : xH, x = xup h43 81 55 122 := ⟨_, rfl⟩
  refine J_putR (j := 55) xcf12 dX12_init_362 rfl rfl (by decide) kO81 xq1075 (by decide) (by decide) (fun _ => ⟨rfl, rfl⟩) (by decide) eh44 ?_
  have zh44 : ∀ o j : Int, 122 < o → h44 o j = 0 := fun o j ho => by rw [eh44, xup_row (by omega)]; exact hz122 o j ho
  refine J_aload_n 0 dX12_init_365 rfl rfl ?_
  refine J_sip dX12_init_366 (by decide) ?_
  refine J_newa (rc2 := 22) (rs2 := 2992) dX12_init_369 xq163 (by decide +kernel) (by decide +kernel) (by decide +kernel) (fun j => zh44 123 j (by decide)) rfl rfl ?_
  refine J_n (m := 123) rfl ?_
  have hz123 : ∀ o j : Int, 123 < o → h44 o j = 0 := fun o j ho => zh44 o j (by omega)
  refine J_cong (st2 := [xR 123, xR 81]) rfl rfl ?_
  obtain ⟨h45, eh45⟩ : ∃ x : xH, x = xup h44 81 56 123 := ⟨_, rfl⟩
  refine J_putR (j := 56) xcf12 dX12_init_371 rfl rfl (by decide) kO81 xq1076 (by decide) (by decide) (fun _ => ⟨rfl, rfl⟩) (by decide) eh45 ?_
  have zh45 : ∀ o j : Int, 123 < o → h45 o j = 0 := fun o j ho => by rw [eh45, xup_row (by omega)]; exact hz123 o j ho
  refine J_pc (pc2 := 374) rfl ?_
  refine J_aload_n 0 dX12_init_374 rfl rfl ?_
  refine J_sip dX12_init_375 (by decide) ?_
  refine J_newa (rc2 := 21) (rs2 := 2792) dX12_init_378 xq163 (by decide +kernel) (by decide +kernel) (by decide +kernel) (fun j => zh45 124 j (by decide)) rfl rfl ?_
  refine J_n (m := 124) rfl ?_
  have hz124 : ∀ o j : Int, 124 < o → h45 o j = 0 := fun o j ho => zh45 o j (by omega)
  refine J_cong (st2 := [xR 124, xR 81]) rfl rfl ?_
  obtain ⟨h46, eh46⟩ : ∃ x : xH, x = xup h45 81 58 124 := ⟨_, rfl⟩
  refine J_putR (j := 58) xcf12 dX12_init_380 rfl rfl (by decide) kO81 xq1078 (by decide) (by decide) (fun _ => ⟨rfl, rfl⟩) (by decide) eh46 ?_
  have zh46 : ∀ o j : Int, 124 < o → h46 o j = 0 := fun o j ho => by rw [eh46, xup_row (by omega)]; exact hz124 o j ho
  refine J_aload_n 0 dX12_init_383 rfl rfl ?_
  refine J_sip dX12_init_384 (by decide) ?_
  refine J_newa (rc2 := 20) (rs2 := 2592) dX12_init_387 xq163 (by decide +kernel) (by decide +kernel) (by decide +kernel) (fun j => zh46 125 j (by decide)) rfl rfl ?_
  refine J_n (m := 125) rfl ?_
  have hz125 : ∀ o j : Int, 125 < o → h46 o j = 0 := fun o j ho => zh46 o j (by omega)
  refine J_cong (st2 := [xR 125, xR 81]) rfl rfl ?_
  obtain ⟨h47, eh47⟩ : ∃ x : xH, x = xup h46 81 59 125 := ⟨_, rfl⟩
  refine J_putR (j := 59) xcf12 dX12_init_389 rfl rfl (by decide) kO81 xq1079 (by decide) (by decide) (fun _ => ⟨rfl, rfl⟩) (by decide) eh47 ?_
  have zh47 : ∀ o j : Int, 125 < o → h47 o j = 0 := fun o j ho => by rw [eh47, xup_row (by omega)]; exact hz125 o j ho
  refine J_aload_n 0 dX12_init_392 rfl rfl ?_
  refine J_sip dX12_init_393 (by decide) ?_
  refine J_newa (rc2 := 19) (rs2 := 2392) dX12_init_396 xq163 (by decide +kernel) (by decide +kernel) (by decide +kernel) (fun j => zh47 126 j (by decide)) rfl rfl ?_
  refine J_n (m := 126) rfl ?_
  have hz126 : ∀ o j : Int, 126 < o → h47 o j = 0 := fun o j ho => zh47 o j (by omega)
  refine J_cong (st2 := [xR 126, xR 81]) rfl rfl ?_
  obtain ⟨h48, eh48⟩ : ∃ x : xH, x = xup h47 81 60 126 := ⟨_, rfl⟩
  refine J_putR (j := 60) xcf12 dX12_init_398 rfl rfl (by decide) kO81 xq1080 (by decide) (by decide) (fun _ => ⟨rfl, rfl⟩) (by decide) eh48 ?_
  have zh48 : ∀ o j : Int, 126 < o → h48 o j = 0 := fun o j ho => by rw [eh48, xup_row (by omega)]; exact hz126 o j ho
  refine J_pc (pc2 := 401) rfl ?_
  refine J_aload_n 0 dX12_init_401 rfl rfl ?_
  refine J_bip dX12_init_402 (by decide) ?_
  refine J_newa (rc2 := 18) (rs2 := 2352) dX12_init_404 xq163 (by decide +kernel) (by decide +kernel) (by decide +kernel) (fun j => zh48 127 j (by decide)) rfl rfl ?_
  refine J_n (m := 127) rfl ?_
  have hz127 : ∀ o j : Int, 127 < o → h48 o j = 0 := fun o j ho => zh48 o j (by omega)
  refine J_cong (st2 := [xR 127, xR 81]) rfl rfl ?_
  obtain ⟨h49, eh49⟩ : ∃ x : xH, x = xup h48 81 62 127 := ⟨_, rfl⟩
  refine J_putR (j := 62) xcf12 dX12_init_406 rfl rfl (by decide) kO81 xq1082 (by decide) (by decide) (fun _ => ⟨rfl, rfl⟩) (by decide) eh49 ?_
  have zh49 : ∀ o j : Int, 127 < o → h49 o j = 0 := fun o j ho => by rw [eh49, xup_row (by omega)]; exact hz127 o j ho
  refine J_aload_n 0 dX12_init_409 rfl rfl ?_
  refine J_sip dX12_init_410 (by decide) ?_
  refine J_newa (rc2 := 17) (rs2 := 1872) dX12_init_413 xq163 (by decide +kernel) (by decide +kernel) (by decide +kernel) (fun j => zh49 128 j (by decide)) rfl rfl ?_
  refine J_n (m := 128) rfl ?_
  have hz128 : ∀ o j : Int, 128 < o → h49 o j = 0 := fun o j ho => zh49 o j (by omega)
  refine J_cong (st2 := [xR 128, xR 81]) rfl rfl ?_
  obtain ⟨h50, eh50⟩ : ∃ x : xH, x = xup h49 81 63 128 := ⟨_, rfl⟩
  refine J_putR (j := 63) xcf12 dX12_init_415 rfl rfl (by decide) kO81 xq1083 (by decide) (by decide) (fun _ => ⟨rfl, rfl⟩) (by decide) eh50 ?_
  have zh50 : ∀ o j : Int, 128 < o → h50 o j = 0 := fun o j ho => by rw [eh50, xup_row (by omega)]; exact hz128 o j ho
  refine J_aload_n 0 dX12_init_418 rfl rfl ?_
  refine J_bip dX12_init_419 (by decide) ?_
  refine J_newa (rc2 := 16) (rs2 := 1832) dX12_init_421 xq163 (by decide +kernel) (by decide +kernel) (by decide +kernel) (fun j => zh50 129 j (by decide)) rfl rfl ?_
  refine J_n (m := 129) rfl ?_
  have hz129 : ∀ o j : Int, 129 < o → h50 o j = 0 := fun o j ho => zh50 o j (by omega)
  refine J_cong (st2 := [xR 129, xR 81]) rfl rfl ?_
  obtain ⟨h51, eh51⟩ : ∃ x : xH, x = xup h50 81 64 129 := ⟨_, rfl⟩
  refine J_putR (j := 64) xcf12 dX12_init_423 rfl rfl (by decide) kO81 xq1084 (by decide) (by decide) (fun _ => ⟨rfl, rfl⟩) (by decide) eh51 ?_
  have zh51 : ∀ o j : Int, 129 < o → h51 o j = 0 := fun o j ho => by rw [eh51, xup_row (by omega)]; exact hz129 o j ho
  refine J_pc (pc2 := 426) rfl ?_
  refine J_aload_n 0 dX12_init_426 rfl rfl ?_
  refine J_sip dX12_init_427 (by decide) ?_
  refine J_newa (rc2 := 15) (rs2 := 1352) dX12_init_430 xq163 (by decide +kernel) (by decide +kernel) (by decide +kernel) (fun j => zh51 130 j (by decide)) rfl rfl ?_
  refine J_n (m := 130) rfl ?_
  have hz130 : ∀ o j : Int, 130 < o → h51 o j = 0 := fun o j ho => zh51 o j (by omega)
  refine J_cong (st2 := [xR 130, xR 81]) rfl rfl ?_
  obtain ⟨h52, eh52⟩ : ∃ x : xH, x = xup h51 81 65 130 := ⟨_, rfl⟩
  refine J_putR (j := 65) xcf12 dX12_init_432 rfl rfl (by decide) kO81 xq1085 (by decide) (by decide) (fun _ => ⟨rfl, rfl⟩) (by decide) eh52 ?_
  have zh52 : ∀ o j : Int, 130 < o → h52 o j = 0 := fun o j ho => by rw [eh52, xup_row (by omega)]; exact hz130 o j ho
  refine J_aload_n 0 dX12_init_435 rfl rfl ?_
  refine J_bip dX12_init_436 (by decide) ?_
  refine J_newa (rc2 := 14) (rs2 := 1312) dX12_init_438 xq163 (by decide +kernel) (by decide +kernel) (by decide +kernel) (fun j => zh52 131 j (by decide)) rfl rfl ?_
  refine J_n (m := 131) rfl ?_
  have hz131 : ∀ o j : Int, 131 < o → h52 o j = 0 := fun o j ho => zh52 o j (by omega)
  refine J_cong (st2 := [xR 131, xR 81]) rfl rfl ?_
  obtain ⟨h53, eh53⟩ : ∃ x : xH, x = xup h52 81 66 131 := ⟨_, rfl⟩
  refine J_putR (j := 66) xcf12 dX12_init_440 rfl rfl (by decide) kO81 xq1086 (by decide) (by decide) (fun _ => ⟨rfl, rfl⟩) (by decide) eh53 ?_
  have zh53 : ∀ o j : Int, 131 < o → h53 o j = 0 := fun o j ho => by rw [eh53, xup_row (by omega)]; exact hz131 o j ho
  refine J_aload_n 0 dX12_init_443 rfl rfl ?_
  refine J_sip dX12_init_444 (by decide) ?_
  refine J_newa (rc2 := 13) (rs2 := 352) dX12_init_447 xq163 (by decide +kernel) (by decide +kernel) (by decide +kernel) (fun j => zh53 132 j (by decide)) rfl rfl ?_
  refine J_n (m := 132) rfl ?_
  have hz132 : ∀ o j : Int, 132 < o → h53 o j = 0 := fun o j ho => zh53 o j (by omega)
  refine J_cong (st2 := [xR 132, xR 81]) rfl rfl ?_
  obtain ⟨h54, eh54⟩ : ∃ x : xH, x = xup h53 81 67 132 := ⟨_, rfl⟩
  refine J_putR (j := 67) xcf12 dX12_init_449 rfl rfl (by decide) kO81 xq1087 (by decide) (by decide) (fun _ => ⟨rfl, rfl⟩) (by decide) eh54 ?_
  have zh54 : ∀ o j : Int, 132 < o → h54 o j = 0 := fun o j ho => by rw [eh54, xup_row (by omega)]; exact hz132 o j ho
  refine J_pc (pc2 := 452) rfl ?_
  refine J_aload_n 0 dX12_init_452 rfl rfl ?_
  refine J_bip dX12_init_453 (by decide) ?_
  refine J_newa (rc2 := 12) (rs2 := 345) dX12_init_455 xq163 (by decide +kernel) (by decide +kernel) (by decide +kernel) (fun j => zh54 133 j (by decide)) rfl rfl ?_
  refine J_n (m := 133) rfl ?_
  have hz133 : ∀ o j : Int, 133 < o → h54 o j = 0 := fun o j ho => zh54 o j (by omega)
  refine J_cong (st2 := [xR 133, xR 81]) rfl rfl ?_
  obtain ⟨h55, eh55⟩ : ∃ x : xH, x = xup h54 81 68 133 := ⟨_, rfl⟩
  refine J_putR (j := 68) xcf12 dX12_init_457 rfl rfl (by decide) kO81 xq1088 (by decide) (by decide) (fun _ => ⟨rfl, rfl⟩) (by decide) eh55 ?_
  have zh55 : ∀ o j : Int, 133 < o → h55 o j = 0 := fun o j ho => by rw [eh55, xup_row (by omega)]; exact hz133 o j ho
  refine J_aload_n 0 dX12_init_460 rfl rfl ?_
  refine J_iconst dX12_init_461 (by decide) ?_
  obtain ⟨h56, eh56⟩ : ∃ x : xH, x = xup h55 81 69 (-1) := ⟨_, rfl⟩
  refine J_putI (j := 69) xcf12 dX12_init_462 (by decide) kO81 (Or.inl xq1089) (by decide) (by decide) eh56 ?_
  have zh56 : ∀ o j : Int, 133 < o → h56 o j = 0 := fun o j ho => by rw [eh56, xup_row (by omega)]; exact zh55 o j ho
  refine J_aload_n 0 dX12_init_465 rfl rfl ?_
  refine J_bip dX12_init_466 (by decide) ?_
  refine J_newa (rc2 := 11) (rs2 := 333) dX12_init_468 xq163 (by decide +kernel) (by decide +kernel) (by decide +kernel) (fun j => zh56 134 j (by decide)) rfl rfl ?_
  refine J_n (m := 134) rfl ?_
  have hz134 : ∀ o j : Int, 134 < o → h56 o j = 0 := fun o j ho => zh56 o j (by omega)
  refine J_cong (st2 := [xR 134, xR 81]) rfl rfl ?_
  obtain ⟨h57, eh57⟩ : ∃ x : xH, x = xup h56 81 71 134 := ⟨_, rfl⟩
  refine J_putR (j := 71) xcf12 dX12_init_470 rfl rfl (by decide) kO81 xq1091 (by decide) (by decide) (fun _ => ⟨rfl, rfl⟩) (by decide) eh57 ?_
  have zh57 : ∀ o j : Int, 134 < o → h57 o j = 0 := fun o j ho => by rw [eh57, xup_row (by omega)]; exact hz134 o j ho
  refine J_aload_n 0 dX12_init_473 rfl rfl ?_
  refine J_pc (pc2 := 474) rfl ?_
  refine J_bip dX12_init_474 (by decide) ?_
  refine J_newa (rc2 := 10) (rs2 := 321) dX12_init_476 xq163 (by decide +kernel) (by decide +kernel) (by decide +kernel) (fun j => zh57 135 j (by decide)) rfl rfl ?_
  refine J_n (m := 135) rfl ?_
  have hz135 : ∀ o j : Int, 135 < o → h57 o j = 0 := fun o j ho => zh57 o j (by omega)
  refine J_cong (st2 := [xR 135, xR 81]) rfl rfl ?_
  obtain ⟨h58, eh58⟩ : ∃ x : xH, x = xup h57 81 72 135 := ⟨_, rfl⟩
  refine J_putR (j := 72) xcf12 dX12_init_478 rfl rfl (by decide) kO81 xq1092 (by decide) (by decide) (fun _ => ⟨rfl, rfl⟩) (by decide) eh58 ?_
  have zh58 : ∀ o j : Int, 135 < o → h58 o j = 0 := fun o j ho => by rw [eh58, xup_row (by omega)]; exact hz135 o j ho
  refine J_aload_n 0 dX12_init_481 rfl rfl ?_
  refine J_bip dX12_init_482 (by decide) ?_
  refine J_newa (rc2 := 9) (rs2 := 309) dX12_init_484 xq163 (by decide +kernel) (by decide +kernel) (by decide +kernel) (fun j => zh58 136 j (by decide)) rfl rfl ?_
  refine J_n (m := 136) rfl ?_
  have hz136 : ∀ o j : Int, 136 < o → h58 o j = 0 := fun o j ho => zh58 o j (by omega)
  refine J_cong (st2 := [xR 136, xR 81]) rfl rfl ?_
  obtain ⟨h59, eh59⟩ : ∃ x : xH, x = xup h58 81 73 136 := ⟨_, rfl⟩
  refine J_putR (j := 73) xcf12 dX12_init_486 rfl rfl (by decide) kO81 xq1093 (by decide) (by decide) (fun _ => ⟨rfl, rfl⟩) (by decide) eh59 ?_
  have zh59 : ∀ o j : Int, 136 < o → h59 o j = 0 := fun o j ho => by rw [eh59, xup_row (by omega)]; exact hz136 o j ho
  refine J_aload_n 0 dX12_init_489 rfl rfl ?_
  refine J_bip dX12_init_490 (by decide) ?_
  refine J_newa (rc2 := 8) (rs2 := 297) dX12_init_492 xq163 (by decide +kernel) (by decide +kernel) (by decide +kernel) (fun j => zh59 137 j (by decide)) rfl rfl ?_
  refine J_n (m := 137) rfl ?_
  have hz137 : ∀ o j : Int, 137 < o → h59 o j = 0 := fun o j ho => zh59 o j (by omega)
  refine J_cong (st2 := [xR 137, xR 81]) rfl rfl ?_
  obtain ⟨h60, eh60⟩ : ∃ x : xH, x = xup h59 81 74 137 := ⟨_, rfl⟩
  refine J_putR (j := 74) xcf12 dX12_init_494 rfl rfl (by decide) kO81 xq1094 (by decide) (by decide) (fun _ => ⟨rfl, rfl⟩) (by decide) eh60 ?_
  have zh60 : ∀ o j : Int, 137 < o → h60 o j = 0 := fun o j ho => by rw [eh60, xup_row (by omega)]; exact hz137 o j ho
  refine J_aload_n 0 dX12_init_497 rfl rfl ?_
  refine J_pc (pc2 := 498) rfl ?_
  refine J_bip dX12_init_498 (by decide) ?_
  refine J_newa (rc2 := 7) (rs2 := 285) dX12_init_500 xq163 (by decide +kernel) (by decide +kernel) (by decide +kernel) (fun j => zh60 138 j (by decide)) rfl rfl ?_
  refine J_n (m := 138) rfl ?_
  have hz138 : ∀ o j : Int, 138 < o → h60 o j = 0 := fun o j ho => zh60 o j (by omega)
  refine J_cong (st2 := [xR 138, xR 81]) rfl rfl ?_
  obtain ⟨h61, eh61⟩ : ∃ x : xH, x = xup h60 81 75 138 := ⟨_, rfl⟩
  refine J_putR (j := 75) xcf12 dX12_init_502 rfl rfl (by decide) kO81 xq1095 (by decide) (by decide) (fun _ => ⟨rfl, rfl⟩) (by decide) eh61 ?_
  have zh61 : ∀ o j : Int, 138 < o → h61 o j = 0 := fun o j ho => by rw [eh61, xup_row (by omega)]; exact hz138 o j ho
  refine J_aload_n 0 dX12_init_505 rfl rfl ?_
  refine J_bip dX12_init_506 (by decide) ?_
  refine J_newa (rc2 := 6) (rs2 := 272) dX12_init_508 xq163 (by decide +kernel) (by decide +kernel) (by decide +kernel) (fun j => zh61 139 j (by decide)) rfl rfl ?_
  refine J_n (m := 139) rfl ?_
  have hz139 : ∀ o j : Int, 139 < o → h61 o j = 0 := fun o j ho => zh61 o j (by omega)
  refine J_cong (st2 := [xR 139, xR 81]) rfl rfl ?_
  obtain ⟨h62, eh62⟩ : ∃ x : xH, x = xup h61 81 76 139 := ⟨_, rfl⟩
  refine J_putR (j := 76) xcf12 dX12_init_510 rfl rfl (by decide) kO81 xq1096 (by decide) (by decide) (fun _ => ⟨rfl, rfl⟩) (by decide) eh62 ?_
  have zh62 : ∀ o j : Int, 139 < o → h62 o j = 0 := fun o j ho => by rw [eh62, xup_row (by omega)]; exact hz139 o j ho
  refine J_aload_n 0 dX12_init_513 rfl rfl ?_
  refine J_bip dX12_init_514 (by decide) ?_
  refine J_newa (rc2 := 5) (rs2 := 260) dX12_init_516 xq163 (by decide +kernel) (by decide +kernel) (by decide +kernel) (fun j => zh62 140 j (by decide)) rfl rfl ?_
  refine J_n (m := 140) rfl ?_
  have hz140 : ∀ o j : Int, 140 < o → h62 o j = 0 := fun o j ho => zh62 o j (by omega)
  refine J_cong (st2 := [xR 140, xR 81]) rfl rfl ?_
  obtain ⟨h63, eh63⟩ : ∃ x : xH, x = xup h62 81 77 140 := ⟨_, rfl⟩
  refine J_putR (j := 77) xcf12 dX12_init_518 rfl rfl (by decide) kO81 xq1097 (by decide) (by decide) (fun _ => ⟨rfl, rfl⟩) (by decide) eh63 ?_
  have zh63 : ∀ o j : Int, 140 < o → h63 o j = 0 := fun o j ho => by rw [eh63, xup_row (by omega)]; exact hz140 o j ho
  refine J_aload_n 0 dX12_init_521 rfl rfl ?_
  refine J_pc (pc2 := 522) rfl ?_
  refine J_bip dX12_init_522 (by decide) ?_
  refine J_newa (rc2 := 4) (rs2 := 248) dX12_init_524 xq163 (by decide +kernel) (by decide +kernel) (by decide +kernel) (fun j => zh63 141 j (by decide)) rfl rfl ?_
  refine J_n (m := 141) rfl ?_
  have hz141 : ∀ o j : Int, 141 < o → h63 o j = 0 := fun o j ho => zh63 o j (by omega)
  refine J_cong (st2 := [xR 141, xR 81]) rfl rfl ?_
  obtain ⟨h64, eh64⟩ : ∃ x : xH, x = xup h63 81 78 141 := ⟨_, rfl⟩
  refine J_putR (j := 78) xcf12 dX12_init_526 rfl rfl (by decide) kO81 xq1098 (by decide) (by decide) (fun _ => ⟨rfl, rfl⟩) (by decide) eh64 ?_
  have zh64 : ∀ o j : Int, 141 < o → h64 o j = 0 := fun o j ho => by rw [eh64, xup_row (by omega)]; exact hz141 o j ho
  refine J_aload_n 0 dX12_init_529 rfl rfl ?_
  refine J_bip dX12_init_530 (by decide) ?_
  refine J_newa (rc2 := 3) (rs2 := 240) dX12_init_532 xq163 (by decide +kernel) (by decide +kernel) (by decide +kernel) (fun j => zh64 142 j (by decide)) rfl rfl ?_
  refine J_n (m := 142) rfl ?_
  have hz142 : ∀ o j : Int, 142 < o → h64 o j = 0 := fun o j ho => zh64 o j (by omega)
  refine J_cong (st2 := [xR 142, xR 81]) rfl rfl ?_
  obtain ⟨h65, eh65⟩ : ∃ x : xH, x = xup h64 81 79 142 := ⟨_, rfl⟩
  refine J_putR (j := 79) xcf12 dX12_init_534 rfl rfl (by decide) kO81 xq1099 (by decide) (by decide) (fun _ => ⟨rfl, rfl⟩) (by decide) eh65 ?_
  have zh65 : ∀ o j : Int, 142 < o → h65 o j = 0 := fun o j ho => by rw [eh65, xup_row (by omega)]; exact hz142 o j ho
  refine J_aload_n 0 dX12_init_537 rfl rfl ?_
  refine J_bip dX12_init_538 (by decide) ?_
  refine J_newa (rc2 := 2) (rs2 := 232) dX12_init_540 xq163 (by decide +kernel) (by decide +kernel) (by decide +kernel) (fun j => zh65 143 j (by decide)) rfl rfl ?_
  refine J_n (m := 143) rfl ?_
  have hz143 : ∀ o j : Int, 143 < o → h65 o j = 0 := fun o j ho => zh65 o j (by omega)
  refine J_cong (st2 := [xR 143, xR 81]) rfl rfl ?_
  obtain ⟨h66, eh66⟩ : ∃ x : xH, x = xup h65 81 80 143 := ⟨_, rfl⟩
  refine J_putR (j := 80) xcf12 dX12_init_542 rfl rfl (by decide) kO81 xq1100 (by decide) (by decide) (fun _ => ⟨rfl, rfl⟩) (by decide) eh66 ?_
  have zh66 : ∀ o j : Int, 143 < o → h66 o j = 0 := fun o j ho => by rw [eh66, xup_row (by omega)]; exact hz143 o j ho
  refine J_aload_n 0 dX12_init_545 rfl rfl ?_
  refine J_pc (pc2 := 546) rfl ?_
  refine J_sip dX12_init_546 (by decide) ?_
  refine J_newa (rc2 := 1) (rs2 := 24) dX12_init_549 xq163 (by decide +kernel) (by decide +kernel) (by decide +kernel) (fun j => zh66 144 j (by decide)) rfl rfl ?_
  refine J_n (m := 144) rfl ?_
  have hz144 : ∀ o j : Int, 144 < o → h66 o j = 0 := fun o j ho => zh66 o j (by omega)
  refine J_cong (st2 := [xR 144, xR 81]) rfl rfl ?_
  obtain ⟨h67, eh67⟩ : ∃ x : xH, x = xup h66 81 81 144 := ⟨_, rfl⟩
  refine J_putR (j := 81) xcf12 dX12_init_551 rfl rfl (by decide) kO81 xq1101 (by decide) (by decide) (fun _ => ⟨rfl, rfl⟩) (by decide) eh67 ?_
  have zh67 : ∀ o j : Int, 144 < o → h67 o j = 0 := fun o j ho => by rw [eh67, xup_row (by omega)]; exact hz144 o j ho
  refine J_aload_n 0 dX12_init_554 rfl rfl ?_
  refine J_bip dX12_init_555 (by decide) ?_
  refine J_newa (rc2 := 0) (rs2 := 0) dX12_init_557 xq163 (by decide +kernel) (by decide +kernel) (by decide +kernel) (fun j => zh67 145 j (by decide)) rfl rfl ?_
  refine J_n (m := 145) rfl ?_
  have hz145 : ∀ o j : Int, 145 < o → h67 o j = 0 := fun o j ho => zh67 o j (by omega)
  refine J_cong (st2 := [xR 145, xR 81]) rfl rfl ?_
  obtain ⟨h68, eh68⟩ : ∃ x : xH, x = xup h67 81 85 145 := ⟨_, rfl⟩
  refine J_putR (j := 85) xcf12 dX12_init_559 rfl rfl (by decide) kO81 xq1105 (by decide) (by decide) (fun _ => ⟨rfl, rfl⟩) (by decide) eh68 ?_
  have zh68 : ∀ o j : Int, 145 < o → h68 o j = 0 := fun o j ho => by rw [eh68, xup_row (by omega)]; exact hz145 o j ho
  refine J_iconst dX12_init_562 (by decide) ?_
  refine J_istore_n (y := 1) (ls' := [(1, xI 1), (0, xR 81)]) dX12_init_563 rfl (by decide) (by decide) rfl ?_
  refine J_iload_n 0 dX12_init_564 rfl rfl ?_
  refine J_bip dX12_init_565 (by decide) ?_
  refine J_ic_gt (tgt := 584) dX12_init_567 (by decide) (fun hc => absurd hc (by decide)) (fun _ => ?_)
  refine J_pc (pc2 := 570) rfl ?_
  refine J_aload_n 1 dX12_init_570 rfl rfl ?_
  refine J_getR (j := 9) (v := 88) xcf12 dX12_init_571 (by decide) kO81 (Or.inl xq1029) (by decide) (by decide) (fun _ => ⟨by simp (disch := omega) only [eh1, eh2, eh3, eh4, eh5, eh6, eh7, eh8, eh9, eh10, eh11, eh12, eh13, eh14, eh15, eh16, eh17, eh18, eh19, eh20, eh21, eh22, eh23, eh24, eh25, eh26, eh27, eh28, eh29, eh30, eh31, eh32, eh33, eh34, eh35, eh36, eh37, eh38, eh39, eh40, eh41, eh42, eh43, eh44, eh45, eh46, eh47, eh48, eh49, eh50, eh51, eh52, eh53, eh54, eh55, eh56, eh57, eh58, eh59, eh60, eh61, eh62, eh63, eh64, eh65, eh66, eh67, eh68, xup_row, xup_ne_j]; exact xup_same, by decide⟩) ?_
  refine J_iload_n 0 dX12_init_574 rfl rfl ?_
  refine J_bip dX12_init_575 (by decide) ?_
  obtain ⟨h69, eh69⟩ : ∃ x : xH, x = xup h68 88 1 100 := ⟨_, rfl⟩
  refine J_iast dX12_init_577 (by decide) kO88 (by decide) nA88 eh69 ?_
  have zh69 : ∀ o j : Int, 145 < o → h69 o j = 0 := fun o j ho => by rw [eh69, xup_row (by omega)]; exact zh68 o j ho
  refine J_iinc (y := 2) (ls' := [(1, xI 2), (0, xR 81)]) 0 dX12_init_578 rfl (by decide) (by decide +kernel) rfl ?_
  refine J_goto (tgt := 564) dX12_init_581 (by decide) ?_
  refine J_iload_n 0 dX12_init_564 rfl rfl ?_
  refine J_bip dX12_init_565 (by decide) ?_
  refine J_ic_gt (tgt := 584) dX12_init_567 (by decide) (fun hc => absurd hc (by decide)) (fun _ => ?_)
  refine J_aload_n 1 dX12_init_570 rfl rfl ?_
  refine J_getR (j := 9) (v := 88) xcf12 dX12_init_571 (by decide) kO81 (Or.inl xq1029) (by decide) (by decide) (fun _ => ⟨by simp (disch := omega) only [eh1, eh2, eh3, eh4, eh5, eh6, eh7, eh8, eh9, eh10, eh11, eh12, eh13, eh14, eh15, eh16, eh17, eh18, eh19, eh20, eh21, eh22, eh23, eh24, eh25, eh26, eh27, eh28, eh29, eh30, eh31, eh32, eh33, eh34, eh35, eh36, eh37, eh38, eh39, eh40, eh41, eh42, eh43, eh44, eh45, eh46, eh47, eh48, eh49, eh50, eh51, eh52, eh53, eh54, eh55, eh56, eh57, eh58, eh59, eh60, eh61, eh62, eh63, eh64, eh65, eh66, eh67, eh68, eh69, xup_row, xup_ne_j]; exact xup_same, by decide⟩) ?_
  refine J_pc (pc2 := 574) rfl ?_
  refine J_iload_n 0 dX12_init_574 rfl rfl ?_
  refine J_bip dX12_init_575 (by decide) ?_
  obtain ⟨h70, eh70⟩ : ∃ x : xH, x = xup h69 88 2 100 := ⟨_, rfl⟩
  refine J_iast dX12_init_577 (by decide) kO88 (by decide) nA88 eh70 ?_
  have zh70 : ∀ o j : Int, 145 < o → h70 o j = 0 := fun o j ho => by rw [eh70, xup_row (by omega)]; exact zh69 o j ho
  refine J_iinc (y := 3) (ls' := [(1, xI 3), (0, xR 81)]) 0 dX12_init_578 rfl (by decide) (by decide +kernel) rfl ?_
  refine J_goto (tgt := 564) dX12_init_581 (by decide) ?_
  refine J_iload_n 0 dX12_init_564 rfl rfl ?_
  refine J_bip dX12_init_565 (by decide) ?_
  refine J_ic_gt (tgt := 584) dX12_init_567 (by decide) (fun hc => absurd hc (by decide)) (fun _ => ?_)
  refine J_aload_n 1 dX12_init_570 rfl rfl ?_
  refine J_getR (j := 9) (v := 88) xcf12 dX12_init_571 (by decide) kO81 (Or.inl xq1029) (by decide) (by decide) (fun _ => ⟨by simp (disch := omega) only [eh1, eh2, eh3, eh4, eh5, eh6, eh7, eh8, eh9, eh10, eh11, eh12, eh13, eh14, eh15, eh16, eh17, eh18, eh19, eh20, eh21, eh22, eh23, eh24, eh25, eh26, eh27, eh28, eh29, eh30, eh31, eh32, eh33, eh34, eh35, eh36, eh37, eh38, eh39, eh40, eh41, eh42, eh43, eh44, eh45, eh46, eh47, eh48, eh49, eh50, eh51, eh52, eh53, eh54, eh55, eh56, eh57, eh58, eh59, eh60, eh61, eh62, eh63, eh64, eh65, eh66, eh67, eh68, eh69, eh70, xup_row, xup_ne_j]; exact xup_same, by decide⟩) ?_
  refine J_iload_n 0 dX12_init_574 rfl rfl ?_
  refine J_bip dX12_init_575 (by decide) ?_
  refine J_pc (pc2 := 577) rfl ?_
  obtain ⟨h71, eh71⟩ : ∃ x : xH, x = xup h70 88 3 100 := ⟨_, rfl⟩
  refine J_iast dX12_init_577 (by decide) kO88 (by decide) nA88 eh71 ?_
  have zh71 : ∀ o j : Int, 145 < o → h71 o j = 0 := fun o j ho => by rw [eh71, xup_row (by omega)]; exact zh70 o j ho
  refine J_iinc (y := 4) (ls' := [(1, xI 4), (0, xR 81)]) 0 dX12_init_578 rfl (by decide) (by decide +kernel) rfl ?_
  refine J_goto (tgt := 564) dX12_init_581 (by decide) ?_
  refine J_iload_n 0 dX12_init_564 rfl rfl ?_
  refine J_bip dX12_init_565 (by decide) ?_
  refine J_ic_gt (tgt := 584) dX12_init_567 (by decide) (fun hc => absurd hc (by decide)) (fun _ => ?_)
  refine J_aload_n 1 dX12_init_570 rfl rfl ?_
  refine J_getR (j := 9) (v := 88) xcf12 dX12_init_571 (by decide) kO81 (Or.inl xq1029) (by decide) (by decide) (fun _ => ⟨by simp (disch := omega) only [eh1, eh2, eh3, eh4, eh5, eh6, eh7, eh8, eh9, eh10, eh11, eh12, eh13, eh14, eh15, eh16, eh17, eh18, eh19, eh20, eh21, eh22, eh23, eh24, eh25, eh26, eh27, eh28, eh29, eh30, eh31, eh32, eh33, eh34, eh35, eh36, eh37, eh38, eh39, eh40, eh41, eh42, eh43, eh44, eh45, eh46, eh47, eh48, eh49, eh50, eh51, eh52, eh53, eh54, eh55, eh56, eh57, eh58, eh59, eh60, eh61, eh62, eh63, eh64, eh65, eh66, eh67, eh68, eh69, eh70, eh71, xup_row, xup_ne_j]; exact xup_same, by decide⟩) ?_
  refine J_iload_n 0 dX12_init_574 rfl rfl ?_
  refine J_bip dX12_init_575 (by decide) ?_
  obtain ⟨h72, eh72⟩ : ∃ x : xH, x = xup h71 88 4 100 := ⟨_, rfl⟩
  refine J_iast dX12_init_577 (by decide) kO88 (by decide) nA88 eh72 ?_
  have zh72 : ∀ o j : Int, 145 < o → h72 o j = 0 := fun o j ho => by rw [eh72, xup_row (by omega)]; exact zh71 o j ho
  refine J_iinc (y := 5) (ls' := [(1, xI 5), (0, xR 81)]) 0 dX12_init_578 rfl (by decide) (by decide +kernel) rfl ?_
  refine J_pc (pc2 := 581) rfl ?_
  refine J_goto (tgt := 564) dX12_init_581 (by decide) ?_
  refine J_iload_n 0 dX12_init_564 rfl rfl ?_
  refine J_bip dX12_init_565 (by decide) ?_
  refine J_ic_gt (tgt := 584) dX12_init_567 (by decide) (fun hc => absurd hc (by decide)) (fun _ => ?_)
  refine J_aload_n 1 dX12_init_570 rfl rfl ?_
  refine J_getR (j := 9) (v := 88) xcf12 dX12_init_571 (by decide) kO81 (Or.inl xq1029) (by decide) (by decide) (fun _ => ⟨by simp (disch := omega) only [eh1, eh2, eh3, eh4, eh5, eh6, eh7, eh8, eh9, eh10, eh11, eh12, eh13, eh14, eh15, eh16, eh17, eh18, eh19, eh20, eh21, eh22, eh23, eh24, eh25, eh26, eh27, eh28, eh29, eh30, eh31, eh32, eh33, eh34, eh35, eh36, eh37, eh38, eh39, eh40, eh41, eh42, eh43, eh44, eh45, eh46, eh47, eh48, eh49, eh50, eh51, eh52, eh53, eh54, eh55, eh56, eh57, eh58, eh59, eh60, eh61, eh62, eh63, eh64, eh65, eh66, eh67, eh68, eh69, eh70, eh71, eh72, xup_row, xup_ne_j]; exact xup_same, by decide⟩) ?_
  refine J_iload_n 0 dX12_init_574 rfl rfl ?_
  refine J_bip dX12_init_575 (by decide) ?_
  obtain ⟨h73, eh73⟩ : ∃ x : xH, x = xup h72 88 5 100 := ⟨_, rfl⟩
  refine J_iast dX12_init_577 (by decide) kO88 (by decide) nA88 eh73 ?_
  have zh73 : ∀ o j : Int, 145 < o → h73 o j = 0 := fun o j ho => by rw [eh73, xup_row (by omega)]; exact zh72 o j ho
  refine J_iinc (y := 6) (ls' := [(1, xI 6), (0, xR 81)]) 0 dX12_init_578 rfl (by decide) (by decide +kernel) rfl ?_
  refine J_goto (tgt := 564) dX12_init_581 (by decide) ?_
  refine J_iload_n 0 dX12_init_564 rfl rfl ?_
  refine J_pc (pc2 := 565) rfl ?_
  refine J_bip dX12_init_565 (by decide) ?_
  refine J_ic_gt (tgt := 584) dX12_init_567 (by decide) (fun hc => absurd hc (by decide)) (fun _ => ?_)
  refine J_aload_n 1 dX12_init_570 rfl rfl ?_
  refine J_getR (j := 9) (v := 88) xcf12 dX12_init_571 (by decide) kO81 (Or.inl xq1029) (by decide) (by decide) (fun _ => ⟨by simp (disch := omega) only [eh1, eh2, eh3, eh4, eh5, eh6, eh7, eh8, eh9, eh10, eh11, eh12, eh13, eh14, eh15, eh16, eh17, eh18, eh19, eh20, eh21, eh22, eh23, eh24, eh25, eh26, eh27, eh28, eh29, eh30, eh31, eh32, eh33, eh34, eh35, eh36, eh37, eh38, eh39, eh40, eh41, eh42, eh43, eh44, eh45, eh46, eh47, eh48, eh49, eh50, eh51, eh52, eh53, eh54, eh55, eh56, eh57, eh58, eh59, eh60, eh61, eh62, eh63, eh64, eh65, eh66, eh67, eh68, eh69, eh70, eh71, eh72, eh73, xup_row, xup_ne_j]; exact xup_same, by decide⟩) ?_
  refine J_iload_n 0 dX12_init_574 rfl rfl ?_
  refine J_bip dX12_init_575 (by decide) ?_
  obtain ⟨h74, eh74⟩ : ∃ x : xH, x = xup h73 88 6 100 := ⟨_, rfl⟩
  refine J_iast dX12_init_577 (by decide) kO88 (by decide) nA88 eh74 ?_
  have zh74 : ∀ o j : Int, 145 < o → h74 o j = 0 := fun o j ho => by rw [eh74, xup_row (by omega)]; exact zh73 o j ho
  refine J_iinc (y := 7) (ls' := [(1, xI 7), (0, xR 81)]) 0 dX12_init_578 rfl (by decide) (by decide +kernel) rfl ?_
  refine J_goto (tgt := 564) dX12_init_581 (by decide) ?_
  refine J_iload_n 0 dX12_init_564 rfl rfl ?_
  refine J_bip dX12_init_565 (by decide) ?_
  refine J_ic_gt (tgt := 584) dX12_init_567 (by decide) (fun _ => ?_) (fun hc => absurd (by decide) hc)
  refine J_pc (pc2 := 584) rfl ?_
  exact J_rt dX12_init_584 rfl ⟨rfl, rfl, by rw [eh74, eh73, eh72, eh71, eh70, eh69, eh68, eh67, eh66, eh65, eh64, eh63, eh62, eh61, eh60, eh59, eh58, eh57, eh56, eh55, eh54, eh53, eh52, eh51, eh50, eh49, eh48, eh47, eh46, eh45, eh44, eh43, eh42, eh41, eh40, eh39, eh38, eh37, eh36, eh35, eh34, eh33, eh32, eh31, eh30, eh29, eh28, eh27, eh26, eh25, eh24, eh23, eh22, eh21, eh20, eh19, eh18, eh17, eh16, eh15, eh14, eh13, eh12, eh11, eh10, eh9, eh8, eh7, eh6, eh5, eh4, eh3, eh2, eh1]; rfl⟩
