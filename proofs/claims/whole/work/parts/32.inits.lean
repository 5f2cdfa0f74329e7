def Z0 (M : Mm) (n : Nat) : Prop := ∀ c, n ≤ c → M.1 c = (fun _ => 0) ∧ M.2 c = (fun _ => 0)
theorem Z0.up {M : Mm} {n n' : Nat} (h : Z0 M n) (hn : n ≤ n') : Z0 M n' := fun c hc => h c (Nat.le_trans hn hc)
theorem Z0.s {M : Mm} {n c k : Nat} {v : Int32} (h : Z0 M n) (hc : c < n) : Z0 (sI M c k v) n := fun a ha => ⟨by rw [sI_ne (by omega)]; exact (h a ha).1, (h a ha).2⟩
theorem wA_boolean : Cond.arrayClass .boolean ∈ lw_tbl := List.mem_of_getElem? (i := 325) (by decide +kernel)
theorem wA_int : Cond.arrayClass .int ∈ lw_tbl := List.mem_of_getElem? (i := 118) (by decide +kernel)
theorem wA_long : Cond.arrayClass .long ∈ lw_tbl := List.mem_of_getElem? (i := 208) (by decide +kernel)
theorem wD_X0_init : Cond.code yX0_init cX0_init 1 none ∈ lw_tbl := List.mem_of_getElem? (i := 80) (by decide +kernel)
theorem wD_X1_init : Cond.code yX1_init cX1_init 1 none ∈ lw_tbl := List.mem_of_getElem? (i := 241) (by decide +kernel)
theorem wD_X2_init : Cond.code yX2_init cX2_init 1 none ∈ lw_tbl := List.mem_of_getElem? (i := 176) (by decide +kernel)
theorem wD_X3_init : Cond.code yX3_init cX3_init 1 none ∈ lw_tbl := List.mem_of_getElem? (i := 139) (by decide +kernel)
theorem wD_X4_init : Cond.code yX4_init cX4_init 1 none ∈ lw_tbl := List.mem_of_getElem? (i := 123) (by decide +kernel)
theorem wD_X5_init : Cond.code yX5_init cX5_init 1 none ∈ lw_tbl := List.mem_of_getElem? (i := 257) (by decide +kernel)
theorem wD_X6_init : Cond.code yX6_init cX6_init 1 none ∈ lw_tbl := List.mem_of_getElem? (i := 213) (by decide +kernel)
theorem wD_X7_init : Cond.code yX7_init cX7_init 1 none ∈ lw_tbl := List.mem_of_getElem? (i := 276) (by decide +kernel)
theorem wE_X0_init : Cond.instanceMethod yX0_init ∈ lw_tbl := List.mem_of_getElem? (i := 79) (by decide +kernel)
theorem wE_X1_init : Cond.instanceMethod yX1_init ∈ lw_tbl := List.mem_of_getElem? (i := 240) (by decide +kernel)
theorem wE_X2_init : Cond.instanceMethod yX2_init ∈ lw_tbl := List.mem_of_getElem? (i := 175) (by decide +kernel)
theorem wE_X3_init : Cond.instanceMethod yX3_init ∈ lw_tbl := List.mem_of_getElem? (i := 138) (by decide +kernel)
theorem wE_X4_init : Cond.instanceMethod yX4_init ∈ lw_tbl := List.mem_of_getElem? (i := 122) (by decide +kernel)
theorem wE_X5_init : Cond.instanceMethod yX5_init ∈ lw_tbl := List.mem_of_getElem? (i := 256) (by decide +kernel)
theorem wE_X6_init : Cond.instanceMethod yX6_init ∈ lw_tbl := List.mem_of_getElem? (i := 212) (by decide +kernel)
theorem wE_X7_init : Cond.instanceMethod yX7_init ∈ lw_tbl := List.mem_of_getElem? (i := 275) (by decide +kernel)
theorem wG_X0_15 : Cond.fieldLink RX0 15 "ParoleLedger$Books" "ranks" "[I" ∈ lw_tbl := List.mem_of_getElem? (i := 91) (by decide +kernel)
theorem wG_X0_19 : Cond.fieldLink RX0 19 "ParoleLedger$Books" "states" "[I" ∈ lw_tbl := List.mem_of_getElem? (i := 94) (by decide +kernel)
theorem wG_X0_22 : Cond.fieldLink RX0 22 "ParoleLedger$Books" "rates" "[I" ∈ lw_tbl := List.mem_of_getElem? (i := 96) (by decide +kernel)
theorem wG_X0_25 : Cond.fieldLink RX0 25 "ParoleLedger$Books" "sightCrowds" "[I" ∈ lw_tbl := List.mem_of_getElem? (i := 99) (by decide +kernel)
theorem wG_X0_9 : Cond.fieldLink RX0 9 "ParoleLedger$Books" "trust" "I" ∈ lw_tbl := List.mem_of_getElem? (i := 84) (by decide +kernel)
theorem wG_X1_9 : Cond.fieldLink RX1 9 "ParoleLedger$Breaks" "ways" "[J" ∈ lw_tbl := List.mem_of_getElem? (i := 243) (by decide +kernel)
theorem wG_X2_15 : Cond.fieldLink RX2 15 "ParoleLedger$Exchanges" "theirsWorth" "[I" ∈ lw_tbl := List.mem_of_getElem? (i := 185) (by decide +kernel)
theorem wG_X2_18 : Cond.fieldLink RX2 18 "ParoleLedger$Exchanges" "evenWith" "[J" ∈ lw_tbl := List.mem_of_getElem? (i := 186) (by decide +kernel)
theorem wG_X2_22 : Cond.fieldLink RX2 22 "ParoleLedger$Exchanges" "room" "[J" ∈ lw_tbl := List.mem_of_getElem? (i := 187) (by decide +kernel)
theorem wG_X2_25 : Cond.fieldLink RX2 25 "ParoleLedger$Exchanges" "nextRoom" "[J" ∈ lw_tbl := List.mem_of_getElem? (i := 188) (by decide +kernel)
theorem wG_X2_9 : Cond.fieldLink RX2 9 "ParoleLedger$Exchanges" "oursWorth" "[I" ∈ lw_tbl := List.mem_of_getElem? (i := 184) (by decide +kernel)
theorem wG_X3_12 : Cond.fieldLink RX3 12 "ParoleLedger$Months" "books" "LParoleLedger$Books;" ∈ lw_tbl := List.mem_of_getElem? (i := 143) (by decide +kernel)
theorem wG_X4_9 : Cond.fieldLink RX4 9 "ParoleLedger$Pad" "signs" "[I" ∈ lw_tbl := List.mem_of_getElem? (i := 125) (by decide +kernel)
theorem wG_X6_11 : Cond.fieldLink RX6 11 "ParoleLedger$Worlds" "who" "[I" ∈ lw_tbl := List.mem_of_getElem? (i := 221) (by decide +kernel)
theorem wG_X6_15 : Cond.fieldLink RX6 15 "ParoleLedger$Worlds" "had" "[I" ∈ lw_tbl := List.mem_of_getElem? (i := 222) (by decide +kernel)
theorem wG_X6_18 : Cond.fieldLink RX6 18 "ParoleLedger$Worlds" "leads" "[I" ∈ lw_tbl := List.mem_of_getElem? (i := 223) (by decide +kernel)
theorem wG_X7_12 : Cond.fieldLink RX7 12 "ParoleLedger$Year" "books" "LParoleLedger$Books;" ∈ lw_tbl := List.mem_of_getElem? (i := 280) (by decide +kernel)
theorem wG_X8_12 : Cond.fieldLink RX8 12 "ParoleLedger" "now" "LParoleLedger$Books;" ∈ lw_tbl := List.mem_of_getElem? (i := 294) (by decide +kernel)
theorem wG_X8_19 : Cond.fieldLink RX8 19 "ParoleLedger" "pad" "LParoleLedger$Pad;" ∈ lw_tbl := List.mem_of_getElem? (i := 295) (by decide +kernel)
theorem wG_X8_26 : Cond.fieldLink RX8 26 "ParoleLedger" "months" "LParoleLedger$Months;" ∈ lw_tbl := List.mem_of_getElem? (i := 296) (by decide +kernel)
theorem wG_X8_33 : Cond.fieldLink RX8 33 "ParoleLedger" "exchanges" "LParoleLedger$Exchanges;" ∈ lw_tbl := List.mem_of_getElem? (i := 297) (by decide +kernel)
theorem wG_X8_40 : Cond.fieldLink RX8 40 "ParoleLedger" "worlds" "LParoleLedger$Worlds;" ∈ lw_tbl := List.mem_of_getElem? (i := 298) (by decide +kernel)
theorem wG_X8_47 : Cond.fieldLink RX8 47 "ParoleLedger" "breaks" "LParoleLedger$Breaks;" ∈ lw_tbl := List.mem_of_getElem? (i := 299) (by decide +kernel)
theorem wG_X8_54 : Cond.fieldLink RX8 54 "ParoleLedger" "resting" "LParoleLedger$Rests;" ∈ lw_tbl := List.mem_of_getElem? (i := 300) (by decide +kernel)
theorem wG_X8_61 : Cond.fieldLink RX8 61 "ParoleLedger" "course" "LParoleLedger$Year;" ∈ lw_tbl := List.mem_of_getElem? (i := 301) (by decide +kernel)
theorem wG_X8_65 : Cond.fieldLink RX8 65 "ParoleLedger" "images" "[LParoleLedger$Books;" ∈ lw_tbl := List.mem_of_getElem? (i := 302) (by decide +kernel)
theorem wG_X8_69 : Cond.fieldLink RX8 69 "ParoleLedger" "kept" "[Z" ∈ lw_tbl := List.mem_of_getElem? (i := 303) (by decide +kernel)
theorem wG_X9_13 : Cond.fieldLink RX9 13 "ParoleLedgerModel" "is" "[I" ∈ lw_tbl := List.mem_of_getElem? (i := 738) (by decide +kernel)
theorem wG_X9_16 : Cond.fieldLink RX9 16 "ParoleLedgerModel" "rates" "[I" ∈ lw_tbl := List.mem_of_getElem? (i := 739) (by decide +kernel)
theorem wG_X9_19 : Cond.fieldLink RX9 19 "ParoleLedgerModel" "sightOurs" "[I" ∈ lw_tbl := List.mem_of_getElem? (i := 740) (by decide +kernel)
theorem wG_X9_22 : Cond.fieldLink RX9 22 "ParoleLedgerModel" "sightTheirs" "[I" ∈ lw_tbl := List.mem_of_getElem? (i := 741) (by decide +kernel)
theorem wG_X9_25 : Cond.fieldLink RX9 25 "ParoleLedgerModel" "sightEven" "[I" ∈ lw_tbl := List.mem_of_getElem? (i := 742) (by decide +kernel)
theorem wG_X9_28 : Cond.fieldLink RX9 28 "ParoleLedgerModel" "pad" "[I" ∈ lw_tbl := List.mem_of_getElem? (i := 744) (by decide +kernel)
theorem wG_X9_31 : Cond.fieldLink RX9 31 "ParoleLedgerModel" "act" "[I" ∈ lw_tbl := List.mem_of_getElem? (i := 746) (by decide +kernel)
theorem wG_X9_34 : Cond.fieldLink RX9 34 "ParoleLedgerModel" "lot" "[I" ∈ lw_tbl := List.mem_of_getElem? (i := 747) (by decide +kernel)
theorem wG_X9_37 : Cond.fieldLink RX9 37 "ParoleLedgerModel" "twice" "[I" ∈ lw_tbl := List.mem_of_getElem? (i := 748) (by decide +kernel)
theorem wG_X9_40 : Cond.fieldLink RX9 40 "ParoleLedgerModel" "had" "[I" ∈ lw_tbl := List.mem_of_getElem? (i := 752) (by decide +kernel)
theorem wG_X9_43 : Cond.fieldLink RX9 43 "ParoleLedgerModel" "leaves" "[I" ∈ lw_tbl := List.mem_of_getElem? (i := 753) (by decide +kernel)
theorem wG_X9_46 : Cond.fieldLink RX9 46 "ParoleLedgerModel" "evens" "[I" ∈ lw_tbl := List.mem_of_getElem? (i := 760) (by decide +kernel)
theorem wG_X9_49 : Cond.fieldLink RX9 49 "ParoleLedgerModel" "worldAt" "[I" ∈ lw_tbl := List.mem_of_getElem? (i := 761) (by decide +kernel)
theorem wG_X9_52 : Cond.fieldLink RX9 52 "ParoleLedgerModel" "parts" "[J" ∈ lw_tbl := List.mem_of_getElem? (i := 763) (by decide +kernel)
theorem wG_X9_56 : Cond.fieldLink RX9 56 "ParoleLedgerModel" "kept" "[I" ∈ lw_tbl := List.mem_of_getElem? (i := 764) (by decide +kernel)
theorem wG_X9_59 : Cond.fieldLink RX9 59 "ParoleLedgerModel" "isKept" "[Z" ∈ lw_tbl := List.mem_of_getElem? (i := 765) (by decide +kernel)
theorem wG_X9_63 : Cond.fieldLink RX9 63 "ParoleLedgerModel" "trusted" "I" ∈ lw_tbl := List.mem_of_getElem? (i := 736) (by decide +kernel)
theorem wG_X9_7 : Cond.fieldLink RX9 7 "ParoleLedgerModel" "ranks" "[I" ∈ lw_tbl := List.mem_of_getElem? (i := 737) (by decide +kernel)
theorem wI_X3_11 : Cond.methodLink RX3 11 yX0_init ∈ lw_tbl := List.mem_of_getElem? (i := 142) (by decide +kernel)
theorem wI_X7_11 : Cond.methodLink RX7 11 yX0_init ∈ lw_tbl := List.mem_of_getElem? (i := 279) (by decide +kernel)
theorem wI_X8_11 : Cond.methodLink RX8 11 yX0_init ∈ lw_tbl := List.mem_of_getElem? (i := 78) (by decide +kernel)
theorem wI_X8_18 : Cond.methodLink RX8 18 yX4_init ∈ lw_tbl := List.mem_of_getElem? (i := 121) (by decide +kernel)
theorem wI_X8_25 : Cond.methodLink RX8 25 yX3_init ∈ lw_tbl := List.mem_of_getElem? (i := 137) (by decide +kernel)
theorem wI_X8_32 : Cond.methodLink RX8 32 yX2_init ∈ lw_tbl := List.mem_of_getElem? (i := 174) (by decide +kernel)
theorem wI_X8_39 : Cond.methodLink RX8 39 yX6_init ∈ lw_tbl := List.mem_of_getElem? (i := 211) (by decide +kernel)
theorem wI_X8_46 : Cond.methodLink RX8 46 yX1_init ∈ lw_tbl := List.mem_of_getElem? (i := 239) (by decide +kernel)
theorem wI_X8_53 : Cond.methodLink RX8 53 yX5_init ∈ lw_tbl := List.mem_of_getElem? (i := 255) (by decide +kernel)
theorem wI_X8_60 : Cond.methodLink RX8 60 yX7_init ∈ lw_tbl := List.mem_of_getElem? (i := 274) (by decide +kernel)
theorem wK_X3_9 : Cond.classLink RX3 9 RX0 ∈ lw_tbl := List.mem_of_getElem? (i := 141) (by decide +kernel)
theorem wK_X7_9 : Cond.classLink RX7 9 RX0 ∈ lw_tbl := List.mem_of_getElem? (i := 278) (by decide +kernel)
theorem wK_X8_16 : Cond.classLink RX8 16 RX4 ∈ lw_tbl := List.mem_of_getElem? (i := 119) (by decide +kernel)
theorem wK_X8_23 : Cond.classLink RX8 23 RX3 ∈ lw_tbl := List.mem_of_getElem? (i := 135) (by decide +kernel)
theorem wK_X8_30 : Cond.classLink RX8 30 RX2 ∈ lw_tbl := List.mem_of_getElem? (i := 172) (by decide +kernel)
theorem wK_X8_37 : Cond.classLink RX8 37 RX6 ∈ lw_tbl := List.mem_of_getElem? (i := 209) (by decide +kernel)
theorem wK_X8_44 : Cond.classLink RX8 44 RX1 ∈ lw_tbl := List.mem_of_getElem? (i := 237) (by decide +kernel)
theorem wK_X8_51 : Cond.classLink RX8 51 RX5 ∈ lw_tbl := List.mem_of_getElem? (i := 253) (by decide +kernel)
theorem wK_X8_58 : Cond.classLink RX8 58 RX7 ∈ lw_tbl := List.mem_of_getElem? (i := 272) (by decide +kernel)
theorem wK_X8_9 : Cond.classLink RX8 9 RX0 ∈ lw_tbl := List.mem_of_getElem? (i := 76) (by decide +kernel)
theorem wN_X0 : Cond.instantiable RX0 8 ∈ lw_tbl := List.mem_of_getElem? (i := 77) (by decide +kernel)
theorem wN_X1 : Cond.instantiable RX1 3 ∈ lw_tbl := List.mem_of_getElem? (i := 238) (by decide +kernel)
theorem wN_X2 : Cond.instantiable RX2 9 ∈ lw_tbl := List.mem_of_getElem? (i := 173) (by decide +kernel)
theorem wN_X3 : Cond.instantiable RX3 8 ∈ lw_tbl := List.mem_of_getElem? (i := 136) (by decide +kernel)
theorem wN_X4 : Cond.instantiable RX4 2 ∈ lw_tbl := List.mem_of_getElem? (i := 120) (by decide +kernel)
theorem wN_X5 : Cond.instantiable RX5 3 ∈ lw_tbl := List.mem_of_getElem? (i := 254) (by decide +kernel)
theorem wN_X6 : Cond.instantiable RX6 6 ∈ lw_tbl := List.mem_of_getElem? (i := 210) (by decide +kernel)
theorem wN_X7 : Cond.instantiable RX7 3 ∈ lw_tbl := List.mem_of_getElem? (i := 273) (by decide +kernel)
theorem wO_X0_3 : Cond.methodLink RX0 3 objectInit ∈ lw_tbl := List.mem_of_getElem? (i := 81) (by decide +kernel)
theorem wO_X1_3 : Cond.methodLink RX1 3 objectInit ∈ lw_tbl := List.mem_of_getElem? (i := 242) (by decide +kernel)
theorem wO_X2_3 : Cond.methodLink RX2 3 objectInit ∈ lw_tbl := List.mem_of_getElem? (i := 177) (by decide +kernel)
theorem wO_X3_3 : Cond.methodLink RX3 3 objectInit ∈ lw_tbl := List.mem_of_getElem? (i := 140) (by decide +kernel)
theorem wO_X4_3 : Cond.methodLink RX4 3 objectInit ∈ lw_tbl := List.mem_of_getElem? (i := 124) (by decide +kernel)
theorem wO_X5_3 : Cond.methodLink RX5 3 objectInit ∈ lw_tbl := List.mem_of_getElem? (i := 258) (by decide +kernel)
theorem wO_X6_3 : Cond.methodLink RX6 3 objectInit ∈ lw_tbl := List.mem_of_getElem? (i := 214) (by decide +kernel)
theorem wO_X7_3 : Cond.methodLink RX7 3 objectInit ∈ lw_tbl := List.mem_of_getElem? (i := 277) (by decide +kernel)
theorem wO_X8_3 : Cond.methodLink RX8 3 objectInit ∈ lw_tbl := List.mem_of_getElem? (i := 73) (by decide +kernel)
theorem wO_X9_1 : Cond.methodLink RX9 1 objectInit ∈ lw_tbl := List.mem_of_getElem? (i := 734) (by decide +kernel)
theorem wObjC : Cond.code objectInit ⟨#[0xb1]⟩ 1 none ∈ lw_tbl := List.mem_of_getElem? (i := 75) (by decide +kernel)
theorem wObjI : Cond.instanceMethod objectInit ∈ lw_tbl := List.mem_of_getElem? (i := 74) (by decide +kernel)
theorem wT_X0 : Cond.initialized RX0 ∈ lw_tbl := List.mem_of_getElem? (i := 55) (by decide +kernel)
theorem wT_X1 : Cond.initialized RX1 ∈ lw_tbl := List.mem_of_getElem? (i := 60) (by decide +kernel)
theorem wT_X2 : Cond.initialized RX2 ∈ lw_tbl := List.mem_of_getElem? (i := 58) (by decide +kernel)
theorem wT_X3 : Cond.initialized RX3 ∈ lw_tbl := List.mem_of_getElem? (i := 57) (by decide +kernel)
theorem wT_X4 : Cond.initialized RX4 ∈ lw_tbl := List.mem_of_getElem? (i := 56) (by decide +kernel)
theorem wT_X5 : Cond.initialized RX5 ∈ lw_tbl := List.mem_of_getElem? (i := 61) (by decide +kernel)
theorem wT_X6 : Cond.initialized RX6 ∈ lw_tbl := List.mem_of_getElem? (i := 59) (by decide +kernel)
theorem wT_X7 : Cond.initialized RX7 ∈ lw_tbl := List.mem_of_getElem? (i := 62) (by decide +kernel)
theorem df_X0 : ∀ j, j < 8 → defaultValue (tyX0 j) = vp_V (([none, none, none, none, some (some none), some (some none), some (some none), some (some none)] : List Fk).map bl) j := by decide +kernel
theorem df_X1 : ∀ j, j < 3 → defaultValue (tyX1 j) = vp_V (([some (some none), none, some none] : List Fk).map bl) j := by decide +kernel
theorem df_X2 : ∀ j, j < 9 → defaultValue (tyX2 j) = vp_V (([none, none, none, none, some (some none), some (some none), some (some none), some (some none), some (some none)] : List Fk).map bl) j := by decide +kernel
theorem df_X3 : ∀ j, j < 8 → defaultValue (tyX3 j) = vp_V (([some (some none), none, none, none, none, none, none, none] : List Fk).map bl) j := by decide +kernel
theorem df_X4 : ∀ j, j < 2 → defaultValue (tyX4 j) = vp_V (([some (some none), none] : List Fk).map bl) j := by decide +kernel
theorem df_X5 : ∀ j, j < 3 → defaultValue (tyX5 j) = vp_V (([none, none, none] : List Fk).map bl) j := by decide +kernel
theorem df_X6 : ∀ j, j < 6 → defaultValue (tyX6 j) = vp_V (([none, none, none, some (some none), some (some none), some (some none)] : List Fk).map bl) j := by decide +kernel
theorem df_X7 : ∀ j, j < 3 → defaultValue (tyX7 j) = vp_V (([some (some none), none, none] : List Fk).map bl) j := by decide +kernel
theorem df_X8 : ∀ j, j < 10 → defaultValue (tyX8 j) = vp_V (([some (some none), some (some none), some (some none), some (some none), some (some none), some (some none), some (some none), some (some none), some (some none), some (some none)] : List Fk).map bl) j := by decide +kernel
theorem df_X9 : ∀ j, j < 33 → defaultValue (tyX9 j) = vp_V (([none, none, some (some none), some (some none), some (some none), some (some none), some (some none), some (some none), none, some (some none), none, some (some none), some (some none), some (some none), none, none, none, some (some none), some (some none), none, none, none, none, none, none, some (some none), some (some none), none, some (some none), some (some none), some (some none), none, none] : List Fk).map bl) j := by decide +kernel
theorem dX0_init_0 : decode cX0_init 0 = .ok (.aload_n 0, 1) := by decide +kernel
theorem dX0_init_1 : decode cX0_init 1 = .ok (.invokespecial 3, 3) := by decide +kernel
theorem dX0_init_4 : decode cX0_init 4 = .ok (.aload_n 0, 1) := by decide +kernel
theorem dX0_init_5 : decode cX0_init 5 = .ok (.iconst 5, 1) := by decide +kernel
theorem dX0_init_6 : decode cX0_init 6 = .ok (.putfield 9, 3) := by decide +kernel
theorem dX0_init_9 : decode cX0_init 9 = .ok (.aload_n 0, 1) := by decide +kernel
theorem dX0_init_10 : decode cX0_init 10 = .ok (.bipush 12, 2) := by decide +kernel
theorem dX0_init_12 : decode cX0_init 12 = .ok (.newarray .int, 2) := by decide +kernel
theorem dX0_init_14 : decode cX0_init 14 = .ok (.putfield 15, 3) := by decide +kernel
theorem dX0_init_17 : decode cX0_init 17 = .ok (.aload_n 0, 1) := by decide +kernel
theorem dX0_init_18 : decode cX0_init 18 = .ok (.bipush 12, 2) := by decide +kernel
theorem dX0_init_20 : decode cX0_init 20 = .ok (.newarray .int, 2) := by decide +kernel
theorem dX0_init_22 : decode cX0_init 22 = .ok (.putfield 19, 3) := by decide +kernel
theorem dX0_init_25 : decode cX0_init 25 = .ok (.aload_n 0, 1) := by decide +kernel
theorem dX0_init_26 : decode cX0_init 26 = .ok (.bipush 6, 2) := by decide +kernel
theorem dX0_init_28 : decode cX0_init 28 = .ok (.newarray .int, 2) := by decide +kernel
theorem dX0_init_30 : decode cX0_init 30 = .ok (.dup, 1) := by decide +kernel
theorem dX0_init_31 : decode cX0_init 31 = .ok (.iconst 0, 1) := by decide +kernel
theorem dX0_init_32 : decode cX0_init 32 = .ok (.iconst 1, 1) := by decide +kernel
theorem dX0_init_33 : decode cX0_init 33 = .ok (.iastore, 1) := by decide +kernel
theorem dX0_init_34 : decode cX0_init 34 = .ok (.dup, 1) := by decide +kernel
theorem dX0_init_35 : decode cX0_init 35 = .ok (.iconst 1, 1) := by decide +kernel
theorem dX0_init_36 : decode cX0_init 36 = .ok (.iconst 2, 1) := by decide +kernel
theorem dX0_init_37 : decode cX0_init 37 = .ok (.iastore, 1) := by decide +kernel
theorem dX0_init_38 : decode cX0_init 38 = .ok (.dup, 1) := by decide +kernel
theorem dX0_init_39 : decode cX0_init 39 = .ok (.iconst 2, 1) := by decide +kernel
theorem dX0_init_40 : decode cX0_init 40 = .ok (.iconst 4, 1) := by decide +kernel
theorem dX0_init_41 : decode cX0_init 41 = .ok (.iastore, 1) := by decide +kernel
theorem dX0_init_42 : decode cX0_init 42 = .ok (.dup, 1) := by decide +kernel
theorem dX0_init_43 : decode cX0_init 43 = .ok (.iconst 3, 1) := by decide +kernel
theorem dX0_init_44 : decode cX0_init 44 = .ok (.bipush 8, 2) := by decide +kernel
theorem dX0_init_46 : decode cX0_init 46 = .ok (.iastore, 1) := by decide +kernel
theorem dX0_init_47 : decode cX0_init 47 = .ok (.dup, 1) := by decide +kernel
theorem dX0_init_48 : decode cX0_init 48 = .ok (.iconst 4, 1) := by decide +kernel
theorem dX0_init_49 : decode cX0_init 49 = .ok (.bipush 20, 2) := by decide +kernel
theorem dX0_init_51 : decode cX0_init 51 = .ok (.iastore, 1) := by decide +kernel
theorem dX0_init_52 : decode cX0_init 52 = .ok (.dup, 1) := by decide +kernel
theorem dX0_init_53 : decode cX0_init 53 = .ok (.iconst 5, 1) := by decide +kernel
theorem dX0_init_54 : decode cX0_init 54 = .ok (.bipush 60, 2) := by decide +kernel
theorem dX0_init_56 : decode cX0_init 56 = .ok (.iastore, 1) := by decide +kernel
theorem dX0_init_57 : decode cX0_init 57 = .ok (.putfield 22, 3) := by decide +kernel
theorem dX0_init_60 : decode cX0_init 60 = .ok (.aload_n 0, 1) := by decide +kernel
theorem dX0_init_61 : decode cX0_init 61 = .ok (.bipush 8, 2) := by decide +kernel
theorem dX0_init_63 : decode cX0_init 63 = .ok (.newarray .int, 2) := by decide +kernel
theorem dX0_init_65 : decode cX0_init 65 = .ok (.putfield 25, 3) := by decide +kernel
theorem dX0_init_68 : decode cX0_init 68 = .ok (.return_, 1) := by decide +kernel
theorem dX1_init_0 : decode cX1_init 0 = .ok (.aload_n 0, 1) := by decide +kernel
theorem dX1_init_1 : decode cX1_init 1 = .ok (.invokespecial 3, 3) := by decide +kernel
theorem dX1_init_4 : decode cX1_init 4 = .ok (.aload_n 0, 1) := by decide +kernel
theorem dX1_init_5 : decode cX1_init 5 = .ok (.bipush 13, 2) := by decide +kernel
theorem dX1_init_7 : decode cX1_init 7 = .ok (.newarray .long, 2) := by decide +kernel
theorem dX1_init_9 : decode cX1_init 9 = .ok (.putfield 9, 3) := by decide +kernel
theorem dX1_init_12 : decode cX1_init 12 = .ok (.return_, 1) := by decide +kernel
theorem dX2_init_0 : decode cX2_init 0 = .ok (.aload_n 0, 1) := by decide +kernel
theorem dX2_init_1 : decode cX2_init 1 = .ok (.invokespecial 3, 3) := by decide +kernel
theorem dX2_init_4 : decode cX2_init 4 = .ok (.aload_n 0, 1) := by decide +kernel
theorem dX2_init_5 : decode cX2_init 5 = .ok (.bipush 64, 2) := by decide +kernel
theorem dX2_init_7 : decode cX2_init 7 = .ok (.newarray .int, 2) := by decide +kernel
theorem dX2_init_9 : decode cX2_init 9 = .ok (.putfield 9, 3) := by decide +kernel
theorem dX2_init_12 : decode cX2_init 12 = .ok (.aload_n 0, 1) := by decide +kernel
theorem dX2_init_13 : decode cX2_init 13 = .ok (.bipush 64, 2) := by decide +kernel
theorem dX2_init_15 : decode cX2_init 15 = .ok (.newarray .int, 2) := by decide +kernel
theorem dX2_init_17 : decode cX2_init 17 = .ok (.putfield 15, 3) := by decide +kernel
theorem dX2_init_20 : decode cX2_init 20 = .ok (.aload_n 0, 1) := by decide +kernel
theorem dX2_init_21 : decode cX2_init 21 = .ok (.bipush 64, 2) := by decide +kernel
theorem dX2_init_23 : decode cX2_init 23 = .ok (.newarray .long, 2) := by decide +kernel
theorem dX2_init_25 : decode cX2_init 25 = .ok (.putfield 18, 3) := by decide +kernel
theorem dX2_init_28 : decode cX2_init 28 = .ok (.aload_n 0, 1) := by decide +kernel
theorem dX2_init_29 : decode cX2_init 29 = .ok (.bipush 64, 2) := by decide +kernel
theorem dX2_init_31 : decode cX2_init 31 = .ok (.newarray .long, 2) := by decide +kernel
theorem dX2_init_33 : decode cX2_init 33 = .ok (.putfield 22, 3) := by decide +kernel
theorem dX2_init_36 : decode cX2_init 36 = .ok (.aload_n 0, 1) := by decide +kernel
theorem dX2_init_37 : decode cX2_init 37 = .ok (.bipush 64, 2) := by decide +kernel
theorem dX2_init_39 : decode cX2_init 39 = .ok (.newarray .long, 2) := by decide +kernel
theorem dX2_init_41 : decode cX2_init 41 = .ok (.putfield 25, 3) := by decide +kernel
theorem dX2_init_44 : decode cX2_init 44 = .ok (.return_, 1) := by decide +kernel
theorem dX3_init_0 : decode cX3_init 0 = .ok (.aload_n 0, 1) := by decide +kernel
theorem dX3_init_1 : decode cX3_init 1 = .ok (.invokespecial 3, 3) := by decide +kernel
theorem dX3_init_4 : decode cX3_init 4 = .ok (.aload_n 0, 1) := by decide +kernel
theorem dX3_init_5 : decode cX3_init 5 = .ok (.new 9, 3) := by decide +kernel
theorem dX3_init_8 : decode cX3_init 8 = .ok (.dup, 1) := by decide +kernel
theorem dX3_init_9 : decode cX3_init 9 = .ok (.invokespecial 11, 3) := by decide +kernel
theorem dX3_init_12 : decode cX3_init 12 = .ok (.putfield 12, 3) := by decide +kernel
theorem dX3_init_15 : decode cX3_init 15 = .ok (.return_, 1) := by decide +kernel
theorem dX4_init_0 : decode cX4_init 0 = .ok (.aload_n 0, 1) := by decide +kernel
theorem dX4_init_1 : decode cX4_init 1 = .ok (.invokespecial 3, 3) := by decide +kernel
theorem dX4_init_4 : decode cX4_init 4 = .ok (.aload_n 0, 1) := by decide +kernel
theorem dX4_init_5 : decode cX4_init 5 = .ok (.bipush 60, 2) := by decide +kernel
theorem dX4_init_7 : decode cX4_init 7 = .ok (.newarray .int, 2) := by decide +kernel
theorem dX4_init_9 : decode cX4_init 9 = .ok (.putfield 9, 3) := by decide +kernel
theorem dX4_init_12 : decode cX4_init 12 = .ok (.return_, 1) := by decide +kernel
theorem dX5_init_0 : decode cX5_init 0 = .ok (.aload_n 0, 1) := by decide +kernel
theorem dX5_init_1 : decode cX5_init 1 = .ok (.invokespecial 3, 3) := by decide +kernel
theorem dX5_init_4 : decode cX5_init 4 = .ok (.return_, 1) := by decide +kernel
theorem dX6_init_0 : decode cX6_init 0 = .ok (.aload_n 0, 1) := by decide +kernel
theorem dX6_init_1 : decode cX6_init 1 = .ok (.invokespecial 3, 3) := by decide +kernel
theorem dX6_init_4 : decode cX6_init 4 = .ok (.aload_n 0, 1) := by decide +kernel
theorem dX6_init_5 : decode cX6_init 5 = .ok (.bipush 61, 2) := by decide +kernel
theorem dX6_init_7 : decode cX6_init 7 = .ok (.newarray .int, 2) := by decide +kernel
theorem dX6_init_9 : decode cX6_init 9 = .ok (.putfield 11, 3) := by decide +kernel
theorem dX6_init_12 : decode cX6_init 12 = .ok (.aload_n 0, 1) := by decide +kernel
theorem dX6_init_13 : decode cX6_init 13 = .ok (.bipush 61, 2) := by decide +kernel
theorem dX6_init_15 : decode cX6_init 15 = .ok (.newarray .int, 2) := by decide +kernel
theorem dX6_init_17 : decode cX6_init 17 = .ok (.putfield 15, 3) := by decide +kernel
theorem dX6_init_20 : decode cX6_init 20 = .ok (.aload_n 0, 1) := by decide +kernel
theorem dX6_init_21 : decode cX6_init 21 = .ok (.bipush 8, 2) := by decide +kernel
theorem dX6_init_23 : decode cX6_init 23 = .ok (.newarray .int, 2) := by decide +kernel
theorem dX6_init_25 : decode cX6_init 25 = .ok (.putfield 18, 3) := by decide +kernel
theorem dX6_init_28 : decode cX6_init 28 = .ok (.return_, 1) := by decide +kernel
theorem dX7_init_0 : decode cX7_init 0 = .ok (.aload_n 0, 1) := by decide +kernel
theorem dX7_init_1 : decode cX7_init 1 = .ok (.invokespecial 3, 3) := by decide +kernel
theorem dX7_init_4 : decode cX7_init 4 = .ok (.aload_n 0, 1) := by decide +kernel
theorem dX7_init_5 : decode cX7_init 5 = .ok (.new 9, 3) := by decide +kernel
theorem dX7_init_8 : decode cX7_init 8 = .ok (.dup, 1) := by decide +kernel
theorem dX7_init_9 : decode cX7_init 9 = .ok (.invokespecial 11, 3) := by decide +kernel
theorem dX7_init_12 : decode cX7_init 12 = .ok (.putfield 12, 3) := by decide +kernel
theorem dX7_init_15 : decode cX7_init 15 = .ok (.return_, 1) := by decide +kernel
theorem dX8_init_0 : decode cX8_init 0 = .ok (.aload_n 0, 1) := by decide +kernel
theorem dX8_init_1 : decode cX8_init 1 = .ok (.invokespecial 3, 3) := by decide +kernel
theorem dX8_init_4 : decode cX8_init 4 = .ok (.aload_n 0, 1) := by decide +kernel
theorem dX8_init_5 : decode cX8_init 5 = .ok (.new 9, 3) := by decide +kernel
theorem dX8_init_8 : decode cX8_init 8 = .ok (.dup, 1) := by decide +kernel
theorem dX8_init_9 : decode cX8_init 9 = .ok (.invokespecial 11, 3) := by decide +kernel
theorem dX8_init_12 : decode cX8_init 12 = .ok (.putfield 12, 3) := by decide +kernel
theorem dX8_init_15 : decode cX8_init 15 = .ok (.aload_n 0, 1) := by decide +kernel
theorem dX8_init_16 : decode cX8_init 16 = .ok (.new 16, 3) := by decide +kernel
theorem dX8_init_19 : decode cX8_init 19 = .ok (.dup, 1) := by decide +kernel
theorem dX8_init_20 : decode cX8_init 20 = .ok (.invokespecial 18, 3) := by decide +kernel
theorem dX8_init_23 : decode cX8_init 23 = .ok (.putfield 19, 3) := by decide +kernel
theorem dX8_init_26 : decode cX8_init 26 = .ok (.aload_n 0, 1) := by decide +kernel
theorem dX8_init_27 : decode cX8_init 27 = .ok (.new 23, 3) := by decide +kernel
theorem dX8_init_30 : decode cX8_init 30 = .ok (.dup, 1) := by decide +kernel
theorem dX8_init_31 : decode cX8_init 31 = .ok (.invokespecial 25, 3) := by decide +kernel
theorem dX8_init_34 : decode cX8_init 34 = .ok (.putfield 26, 3) := by decide +kernel
theorem dX8_init_37 : decode cX8_init 37 = .ok (.aload_n 0, 1) := by decide +kernel
theorem dX8_init_38 : decode cX8_init 38 = .ok (.new 30, 3) := by decide +kernel
theorem dX8_init_41 : decode cX8_init 41 = .ok (.dup, 1) := by decide +kernel
theorem dX8_init_42 : decode cX8_init 42 = .ok (.invokespecial 32, 3) := by decide +kernel
theorem dX8_init_45 : decode cX8_init 45 = .ok (.putfield 33, 3) := by decide +kernel
theorem dX8_init_48 : decode cX8_init 48 = .ok (.aload_n 0, 1) := by decide +kernel
theorem dX8_init_49 : decode cX8_init 49 = .ok (.new 37, 3) := by decide +kernel
theorem dX8_init_52 : decode cX8_init 52 = .ok (.dup, 1) := by decide +kernel
theorem dX8_init_53 : decode cX8_init 53 = .ok (.invokespecial 39, 3) := by decide +kernel
theorem dX8_init_56 : decode cX8_init 56 = .ok (.putfield 40, 3) := by decide +kernel
theorem dX8_init_59 : decode cX8_init 59 = .ok (.aload_n 0, 1) := by decide +kernel
theorem dX8_init_60 : decode cX8_init 60 = .ok (.new 44, 3) := by decide +kernel
theorem dX8_init_63 : decode cX8_init 63 = .ok (.dup, 1) := by decide +kernel
theorem dX8_init_64 : decode cX8_init 64 = .ok (.invokespecial 46, 3) := by decide +kernel
theorem dX8_init_67 : decode cX8_init 67 = .ok (.putfield 47, 3) := by decide +kernel
theorem dX8_init_70 : decode cX8_init 70 = .ok (.aload_n 0, 1) := by decide +kernel
theorem dX8_init_71 : decode cX8_init 71 = .ok (.new 51, 3) := by decide +kernel
theorem dX8_init_74 : decode cX8_init 74 = .ok (.dup, 1) := by decide +kernel
theorem dX8_init_75 : decode cX8_init 75 = .ok (.invokespecial 53, 3) := by decide +kernel
theorem dX8_init_78 : decode cX8_init 78 = .ok (.putfield 54, 3) := by decide +kernel
theorem dX8_init_81 : decode cX8_init 81 = .ok (.aload_n 0, 1) := by decide +kernel
theorem dX8_init_82 : decode cX8_init 82 = .ok (.new 58, 3) := by decide +kernel
theorem dX8_init_85 : decode cX8_init 85 = .ok (.dup, 1) := by decide +kernel
theorem dX8_init_86 : decode cX8_init 86 = .ok (.invokespecial 60, 3) := by decide +kernel
theorem dX8_init_89 : decode cX8_init 89 = .ok (.putfield 61, 3) := by decide +kernel
theorem dX8_init_92 : decode cX8_init 92 = .ok (.aload_n 0, 1) := by decide +kernel
theorem dX8_init_93 : decode cX8_init 93 = .ok (.iconst 2, 1) := by decide +kernel
theorem dX8_init_94 : decode cX8_init 94 = .ok (.anewarray 9, 3) := by decide +kernel
theorem dX8_init_97 : decode cX8_init 97 = .ok (.dup, 1) := by decide +kernel
theorem dX8_init_98 : decode cX8_init 98 = .ok (.iconst 0, 1) := by decide +kernel
theorem dX8_init_99 : decode cX8_init 99 = .ok (.new 9, 3) := by decide +kernel
theorem dX8_init_102 : decode cX8_init 102 = .ok (.dup, 1) := by decide +kernel
theorem dX8_init_103 : decode cX8_init 103 = .ok (.invokespecial 11, 3) := by decide +kernel
theorem dX8_init_106 : decode cX8_init 106 = .ok (.aastore, 1) := by decide +kernel
theorem dX8_init_107 : decode cX8_init 107 = .ok (.dup, 1) := by decide +kernel
theorem dX8_init_108 : decode cX8_init 108 = .ok (.iconst 1, 1) := by decide +kernel
theorem dX8_init_109 : decode cX8_init 109 = .ok (.new 9, 3) := by decide +kernel
theorem dX8_init_112 : decode cX8_init 112 = .ok (.dup, 1) := by decide +kernel
theorem dX8_init_113 : decode cX8_init 113 = .ok (.invokespecial 11, 3) := by decide +kernel
theorem dX8_init_116 : decode cX8_init 116 = .ok (.aastore, 1) := by decide +kernel
theorem dX8_init_117 : decode cX8_init 117 = .ok (.putfield 65, 3) := by decide +kernel
theorem dX8_init_120 : decode cX8_init 120 = .ok (.aload_n 0, 1) := by decide +kernel
theorem dX8_init_121 : decode cX8_init 121 = .ok (.iconst 2, 1) := by decide +kernel
theorem dX8_init_122 : decode cX8_init 122 = .ok (.newarray .boolean, 2) := by decide +kernel
theorem dX8_init_124 : decode cX8_init 124 = .ok (.putfield 69, 3) := by decide +kernel
theorem dX8_init_127 : decode cX8_init 127 = .ok (.return_, 1) := by decide +kernel
theorem dX9_init_0 : decode cX9_init 0 = .ok (.aload_n 0, 1) := by decide +kernel
theorem dX9_init_1 : decode cX9_init 1 = .ok (.invokespecial 1, 3) := by decide +kernel
theorem dX9_init_4 : decode cX9_init 4 = .ok (.aload_n 0, 1) := by decide +kernel
theorem dX9_init_5 : decode cX9_init 5 = .ok (.bipush 12, 2) := by decide +kernel
theorem dX9_init_7 : decode cX9_init 7 = .ok (.newarray .int, 2) := by decide +kernel
theorem dX9_init_9 : decode cX9_init 9 = .ok (.putfield 7, 3) := by decide +kernel
theorem dX9_init_12 : decode cX9_init 12 = .ok (.aload_n 0, 1) := by decide +kernel
theorem dX9_init_13 : decode cX9_init 13 = .ok (.bipush 12, 2) := by decide +kernel
theorem dX9_init_15 : decode cX9_init 15 = .ok (.newarray .int, 2) := by decide +kernel
theorem dX9_init_17 : decode cX9_init 17 = .ok (.putfield 13, 3) := by decide +kernel
theorem dX9_init_20 : decode cX9_init 20 = .ok (.aload_n 0, 1) := by decide +kernel
theorem dX9_init_21 : decode cX9_init 21 = .ok (.bipush 6, 2) := by decide +kernel
theorem dX9_init_23 : decode cX9_init 23 = .ok (.newarray .int, 2) := by decide +kernel
theorem dX9_init_25 : decode cX9_init 25 = .ok (.putfield 16, 3) := by decide +kernel
theorem dX9_init_28 : decode cX9_init 28 = .ok (.aload_n 0, 1) := by decide +kernel
theorem dX9_init_29 : decode cX9_init 29 = .ok (.bipush 8, 2) := by decide +kernel
theorem dX9_init_31 : decode cX9_init 31 = .ok (.newarray .int, 2) := by decide +kernel
theorem dX9_init_33 : decode cX9_init 33 = .ok (.putfield 19, 3) := by decide +kernel
theorem dX9_init_36 : decode cX9_init 36 = .ok (.aload_n 0, 1) := by decide +kernel
theorem dX9_init_37 : decode cX9_init 37 = .ok (.bipush 8, 2) := by decide +kernel
theorem dX9_init_39 : decode cX9_init 39 = .ok (.newarray .int, 2) := by decide +kernel
theorem dX9_init_41 : decode cX9_init 41 = .ok (.putfield 22, 3) := by decide +kernel
theorem dX9_init_44 : decode cX9_init 44 = .ok (.aload_n 0, 1) := by decide +kernel
theorem dX9_init_45 : decode cX9_init 45 = .ok (.bipush 8, 2) := by decide +kernel
theorem dX9_init_47 : decode cX9_init 47 = .ok (.newarray .int, 2) := by decide +kernel
theorem dX9_init_49 : decode cX9_init 49 = .ok (.putfield 25, 3) := by decide +kernel
theorem dX9_init_52 : decode cX9_init 52 = .ok (.aload_n 0, 1) := by decide +kernel
theorem dX9_init_53 : decode cX9_init 53 = .ok (.bipush 60, 2) := by decide +kernel
theorem dX9_init_55 : decode cX9_init 55 = .ok (.newarray .int, 2) := by decide +kernel
theorem dX9_init_57 : decode cX9_init 57 = .ok (.putfield 28, 3) := by decide +kernel
theorem dX9_init_60 : decode cX9_init 60 = .ok (.aload_n 0, 1) := by decide +kernel
theorem dX9_init_61 : decode cX9_init 61 = .ok (.bipush 60, 2) := by decide +kernel
theorem dX9_init_63 : decode cX9_init 63 = .ok (.newarray .int, 2) := by decide +kernel
theorem dX9_init_65 : decode cX9_init 65 = .ok (.putfield 31, 3) := by decide +kernel
theorem dX9_init_68 : decode cX9_init 68 = .ok (.aload_n 0, 1) := by decide +kernel
theorem dX9_init_69 : decode cX9_init 69 = .ok (.bipush 60, 2) := by decide +kernel
theorem dX9_init_71 : decode cX9_init 71 = .ok (.newarray .int, 2) := by decide +kernel
theorem dX9_init_73 : decode cX9_init 73 = .ok (.putfield 34, 3) := by decide +kernel
theorem dX9_init_76 : decode cX9_init 76 = .ok (.aload_n 0, 1) := by decide +kernel
theorem dX9_init_77 : decode cX9_init 77 = .ok (.bipush 60, 2) := by decide +kernel
theorem dX9_init_79 : decode cX9_init 79 = .ok (.newarray .int, 2) := by decide +kernel
theorem dX9_init_81 : decode cX9_init 81 = .ok (.putfield 37, 3) := by decide +kernel
theorem dX9_init_84 : decode cX9_init 84 = .ok (.aload_n 0, 1) := by decide +kernel
theorem dX9_init_85 : decode cX9_init 85 = .ok (.bipush 25, 2) := by decide +kernel
theorem dX9_init_87 : decode cX9_init 87 = .ok (.newarray .int, 2) := by decide +kernel
theorem dX9_init_89 : decode cX9_init 89 = .ok (.putfield 40, 3) := by decide +kernel
theorem dX9_init_92 : decode cX9_init 92 = .ok (.aload_n 0, 1) := by decide +kernel
theorem dX9_init_93 : decode cX9_init 93 = .ok (.bipush 25, 2) := by decide +kernel
theorem dX9_init_95 : decode cX9_init 95 = .ok (.newarray .int, 2) := by decide +kernel
theorem dX9_init_97 : decode cX9_init 97 = .ok (.putfield 43, 3) := by decide +kernel
theorem dX9_init_100 : decode cX9_init 100 = .ok (.aload_n 0, 1) := by decide +kernel
theorem dX9_init_101 : decode cX9_init 101 = .ok (.sipush 4096, 3) := by decide +kernel
theorem dX9_init_104 : decode cX9_init 104 = .ok (.newarray .int, 2) := by decide +kernel
theorem dX9_init_106 : decode cX9_init 106 = .ok (.putfield 46, 3) := by decide +kernel
theorem dX9_init_109 : decode cX9_init 109 = .ok (.aload_n 0, 1) := by decide +kernel
theorem dX9_init_110 : decode cX9_init 110 = .ok (.bipush 73, 2) := by decide +kernel
theorem dX9_init_112 : decode cX9_init 112 = .ok (.newarray .int, 2) := by decide +kernel
theorem dX9_init_114 : decode cX9_init 114 = .ok (.putfield 49, 3) := by decide +kernel
theorem dX9_init_117 : decode cX9_init 117 = .ok (.aload_n 0, 1) := by decide +kernel
theorem dX9_init_118 : decode cX9_init 118 = .ok (.bipush 13, 2) := by decide +kernel
theorem dX9_init_120 : decode cX9_init 120 = .ok (.newarray .long, 2) := by decide +kernel
theorem dX9_init_122 : decode cX9_init 122 = .ok (.putfield 52, 3) := by decide +kernel
theorem dX9_init_125 : decode cX9_init 125 = .ok (.aload_n 0, 1) := by decide +kernel
theorem dX9_init_126 : decode cX9_init 126 = .ok (.sipush 140, 3) := by decide +kernel
theorem dX9_init_129 : decode cX9_init 129 = .ok (.newarray .int, 2) := by decide +kernel
theorem dX9_init_131 : decode cX9_init 131 = .ok (.putfield 56, 3) := by decide +kernel
theorem dX9_init_134 : decode cX9_init 134 = .ok (.aload_n 0, 1) := by decide +kernel
theorem dX9_init_135 : decode cX9_init 135 = .ok (.iconst 2, 1) := by decide +kernel
theorem dX9_init_136 : decode cX9_init 136 = .ok (.newarray .boolean, 2) := by decide +kernel
theorem dX9_init_138 : decode cX9_init 138 = .ok (.putfield 59, 3) := by decide +kernel
theorem dX9_init_141 : decode cX9_init 141 = .ok (.aload_n 0, 1) := by decide +kernel
theorem dX9_init_142 : decode cX9_init 142 = .ok (.iconst 5, 1) := by decide +kernel
theorem dX9_init_143 : decode cX9_init 143 = .ok (.putfield 63, 3) := by decide +kernel
theorem dX9_init_146 : decode cX9_init 146 = .ok (.aload_n 0, 1) := by decide +kernel
theorem dX9_init_147 : decode cX9_init 147 = .ok (.getfield 16, 3) := by decide +kernel
theorem dX9_init_150 : decode cX9_init 150 = .ok (.iconst 0, 1) := by decide +kernel
theorem dX9_init_151 : decode cX9_init 151 = .ok (.iconst 1, 1) := by decide +kernel
theorem dX9_init_152 : decode cX9_init 152 = .ok (.iastore, 1) := by decide +kernel
theorem dX9_init_153 : decode cX9_init 153 = .ok (.aload_n 0, 1) := by decide +kernel
theorem dX9_init_154 : decode cX9_init 154 = .ok (.getfield 16, 3) := by decide +kernel
theorem dX9_init_157 : decode cX9_init 157 = .ok (.iconst 1, 1) := by decide +kernel
theorem dX9_init_158 : decode cX9_init 158 = .ok (.iconst 2, 1) := by decide +kernel
theorem dX9_init_159 : decode cX9_init 159 = .ok (.iastore, 1) := by decide +kernel
theorem dX9_init_160 : decode cX9_init 160 = .ok (.aload_n 0, 1) := by decide +kernel
theorem dX9_init_161 : decode cX9_init 161 = .ok (.getfield 16, 3) := by decide +kernel
theorem dX9_init_164 : decode cX9_init 164 = .ok (.iconst 2, 1) := by decide +kernel
theorem dX9_init_165 : decode cX9_init 165 = .ok (.iconst 4, 1) := by decide +kernel
theorem dX9_init_166 : decode cX9_init 166 = .ok (.iastore, 1) := by decide +kernel
theorem dX9_init_167 : decode cX9_init 167 = .ok (.aload_n 0, 1) := by decide +kernel
theorem dX9_init_168 : decode cX9_init 168 = .ok (.getfield 16, 3) := by decide +kernel
theorem dX9_init_171 : decode cX9_init 171 = .ok (.iconst 3, 1) := by decide +kernel
theorem dX9_init_172 : decode cX9_init 172 = .ok (.bipush 8, 2) := by decide +kernel
theorem dX9_init_174 : decode cX9_init 174 = .ok (.iastore, 1) := by decide +kernel
theorem dX9_init_175 : decode cX9_init 175 = .ok (.aload_n 0, 1) := by decide +kernel
theorem dX9_init_176 : decode cX9_init 176 = .ok (.getfield 16, 3) := by decide +kernel
theorem dX9_init_179 : decode cX9_init 179 = .ok (.iconst 4, 1) := by decide +kernel
theorem dX9_init_180 : decode cX9_init 180 = .ok (.bipush 20, 2) := by decide +kernel
theorem dX9_init_182 : decode cX9_init 182 = .ok (.iastore, 1) := by decide +kernel
theorem dX9_init_183 : decode cX9_init 183 = .ok (.aload_n 0, 1) := by decide +kernel
theorem dX9_init_184 : decode cX9_init 184 = .ok (.getfield 16, 3) := by decide +kernel
theorem dX9_init_187 : decode cX9_init 187 = .ok (.iconst 5, 1) := by decide +kernel
theorem dX9_init_188 : decode cX9_init 188 = .ok (.bipush 60, 2) := by decide +kernel
theorem dX9_init_190 : decode cX9_init 190 = .ok (.iastore, 1) := by decide +kernel
theorem dX9_init_191 : decode cX9_init 191 = .ok (.return_, 1) := by decide +kernel
set_option maxHeartbeats 4000000 in
set_option maxRecDepth 100000 in
theorem iX0_init_1 (l : Launch) (E : Ev) (M : Mm) (hZ : Z0 M 2) : MtA l E yX0_init cX0_init 1 1 12 1 [.inr (.inl (8, [some (some none), some (some none), some (some none), some (some none), some (some none), some (some none), some (some none), some (some none), some (some none), some (some none)])), .inr (.inl (0, [none, none, none, none, some (some none), some (some none), some (some none), some (some none)]))] M [.inr (.inl (8, [some (some none), some (some none), some (some none), some (some none), some (some none), some (some none), some (some none), some (some none), some (some none), some (some none)])), .inr (.inl (0, [none, none, none, none, some (some (some 2)), some (some (some 3)), some (some (some 4)), some (some (some 5))])), .inl (0, 12), .inl (0, 12), .inl (0, 6), .inl (0, 8)] (sI (sI (sI (sI (sI (sI (sI M 1 1 (nI 5)) 4 (nI 0).toNatClampNeg (nI 1)) 4 (nI 1).toNatClampNeg (nI 2)) 4 (nI 2).toNatClampNeg (nI 4)) 4 (nI 3).toNatClampNeg (nI 8)) 4 (nI 4).toNatClampNeg (nI 20)) 4 (nI 5).toNatClampNeg (nI 60)) 4 38 := by
  refine MtA.of (by decide) rfl (by decide) ?_
  intro X C hX
  subst hX
  have C : CA E X cX0_init 1 RX0 1 12 4 38 (Cond.code yX0_init cX0_init 1 none) := C
  refine VA.aload_n (pc := 0) C 0 rfl dX0_init_0 ?_
  refine VA.obj (pc := 1) C wO_X0_3 wObjI wObjC (by decide) (by decide) dX0_init_1 ?_
  refine VA.aload_n (pc := 4) C 0 rfl dX0_init_4 ?_
  refine VA.iconst (pc := 5) C (nI 5) (by decide) dX0_init_5 ?_
  refine VA.putI (pc := 6) C clX0 inX0 rfl 1 (by decide) wG_X0_9 tyX0 tyX0_ok nmX0 rfl (tyX0_ok 1 (by decide)) rfl dX0_init_6 ?_
  refine VA.aload_n (pc := 9) C 0 rfl dX0_init_9 ?_
  refine VA.bipush (pc := 10) C (nI 12) (by decide) dX0_init_10 ?_
  refine VA.newI (pc := 12) C 12 wA_int (by decide) (by decide) (by decide) ((Z0.s (Z0.up (n' := 2) hZ (by decide)) (by decide)) _ (by decide)).1 (by decide) (by decide) dX0_init_12 ?_
  refine VA.putR (pc := 14) C clX0 inX0 rfl 4 (by decide) wG_X0_15 tyX0 tyX0_ok nmX0 rfl rfl (tyX0_ok 4 (by decide)) (fun _ => rfl) (fun _ => rfl) (by decide) dX0_init_14 ?_
  refine VA.aload_n (pc := 17) C 0 rfl dX0_init_17 ?_
  refine VA.bipush (pc := 18) C (nI 12) (by decide) dX0_init_18 ?_
  refine VA.newI (pc := 20) C 12 wA_int (by decide) (by decide) (by decide) ((Z0.s (Z0.up (n' := 3) hZ (by decide)) (by decide)) _ (by decide)).1 (by decide) (by decide) dX0_init_20 ?_
  refine VA.putR (pc := 22) C clX0 inX0 rfl 5 (by decide) wG_X0_19 tyX0 tyX0_ok nmX0 rfl rfl (tyX0_ok 5 (by decide)) (fun _ => rfl) (fun _ => rfl) (by decide) dX0_init_22 ?_
  refine VA.aload_n (pc := 25) C 0 rfl dX0_init_25 ?_
  refine VA.bipush (pc := 26) C (nI 6) (by decide) dX0_init_26 ?_
  refine VA.newI (pc := 28) C 6 wA_int (by decide) (by decide) (by decide) ((Z0.s (Z0.up (n' := 4) hZ (by decide)) (by decide)) _ (by decide)).1 (by decide) (by decide) dX0_init_28 ?_
  refine VA.dup (pc := 30) C rfl dX0_init_30 ?_
  refine VA.iconst (pc := 31) C (nI 0) (by decide) dX0_init_31 ?_
  refine VA.iconst (pc := 32) C (nI 1) (by decide) dX0_init_32 ?_
  refine VA.iast (pc := 33) C rfl (inb_in (by decide)) dX0_init_33 ?_
  refine VA.dup (pc := 34) C rfl dX0_init_34 ?_
  refine VA.iconst (pc := 35) C (nI 1) (by decide) dX0_init_35 ?_
  refine VA.iconst (pc := 36) C (nI 2) (by decide) dX0_init_36 ?_
  refine VA.iast (pc := 37) C rfl (inb_in (by decide)) dX0_init_37 ?_
  refine VA.dup (pc := 38) C rfl dX0_init_38 ?_
  refine VA.iconst (pc := 39) C (nI 2) (by decide) dX0_init_39 ?_
  refine VA.iconst (pc := 40) C (nI 4) (by decide) dX0_init_40 ?_
  refine VA.iast (pc := 41) C rfl (inb_in (by decide)) dX0_init_41 ?_
  refine VA.dup (pc := 42) C rfl dX0_init_42 ?_
  refine VA.iconst (pc := 43) C (nI 3) (by decide) dX0_init_43 ?_
  refine VA.bipush (pc := 44) C (nI 8) (by decide) dX0_init_44 ?_
  refine VA.iast (pc := 46) C rfl (inb_in (by decide)) dX0_init_46 ?_
  refine VA.dup (pc := 47) C rfl dX0_init_47 ?_
  refine VA.iconst (pc := 48) C (nI 4) (by decide) dX0_init_48 ?_
  refine VA.bipush (pc := 49) C (nI 20) (by decide) dX0_init_49 ?_
  refine VA.iast (pc := 51) C rfl (inb_in (by decide)) dX0_init_51 ?_
  refine VA.dup (pc := 52) C rfl dX0_init_52 ?_
  refine VA.iconst (pc := 53) C (nI 5) (by decide) dX0_init_53 ?_
  refine VA.bipush (pc := 54) C (nI 60) (by decide) dX0_init_54 ?_
  refine VA.iast (pc := 56) C rfl (inb_in (by decide)) dX0_init_56 ?_
  refine VA.putR (pc := 57) C clX0 inX0 rfl 6 (by decide) wG_X0_22 tyX0 tyX0_ok nmX0 rfl rfl (tyX0_ok 6 (by decide)) (fun _ => rfl) (fun _ => rfl) (by decide) dX0_init_57 ?_
  refine VA.aload_n (pc := 60) C 0 rfl dX0_init_60 ?_
  refine VA.bipush (pc := 61) C (nI 8) (by decide) dX0_init_61 ?_
  refine VA.newI (pc := 63) C 8 wA_int (by decide) (by decide) (by decide) ((Z0.s (Z0.s (Z0.s (Z0.s (Z0.s (Z0.s (Z0.s (Z0.up (n' := 5) hZ (by decide)) (by decide)) (by decide)) (by decide)) (by decide)) (by decide)) (by decide)) (by decide)) _ (by decide)).1 (by decide) (by decide) dX0_init_63 ?_
  refine VA.putR (pc := 65) C clX0 inX0 rfl 7 (by decide) wG_X0_25 tyX0 tyX0_ok nmX0 rfl rfl (tyX0_ok 7 (by decide)) (fun _ => rfl) (fun _ => rfl) (by decide) dX0_init_65 ?_
  exact VA.vret (pc := 68) C rfl rfl (by decide) (by decide) dX0_init_68
set_option maxHeartbeats 4000000 in
set_option maxRecDepth 100000 in
theorem iX4_init_6 (l : Launch) (E : Ev) (M : Mm) (hZ : Z0 M 7) : MtA l E yX4_init cX4_init 1 1 12 6 [.inr (.inl (8, [some (some (some 1)), some (some none), some (some none), some (some none), some (some none), some (some none), some (some none), some (some none), some (some none), some (some none)])), .inr (.inl (0, [none, none, none, none, some (some (some 2)), some (some (some 3)), some (some (some 4)), some (some (some 5))])), .inl (0, 12), .inl (0, 12), .inl (0, 6), .inl (0, 8), .inr (.inl (4, [some (some none), none]))] M [.inr (.inl (8, [some (some (some 1)), some (some none), some (some none), some (some none), some (some none), some (some none), some (some none), some (some none), some (some none), some (some none)])), .inr (.inl (0, [none, none, none, none, some (some (some 2)), some (some (some 3)), some (some (some 4)), some (some (some 5))])), .inl (0, 12), .inl (0, 12), .inl (0, 6), .inl (0, 8), .inr (.inl (4, [some (some (some 7)), none])), .inl (0, 60)] M 1 60 := by
  refine MtA.of (by decide) rfl (by decide) ?_
  intro X C hX
  subst hX
  have C : CA E X cX4_init 1 RX4 1 12 1 60 (Cond.code yX4_init cX4_init 1 none) := C
  refine VA.aload_n (pc := 0) C 0 rfl dX4_init_0 ?_
  refine VA.obj (pc := 1) C wO_X4_3 wObjI wObjC (by decide) (by decide) dX4_init_1 ?_
  refine VA.aload_n (pc := 4) C 0 rfl dX4_init_4 ?_
  refine VA.bipush (pc := 5) C (nI 60) (by decide) dX4_init_5 ?_
  refine VA.newI (pc := 7) C 60 wA_int (by decide) (by decide) (by decide) ((Z0.up (n' := 7) hZ (by decide)) _ (by decide)).1 (by decide) (by decide) dX4_init_7 ?_
  refine VA.putR (pc := 9) C clX4 inX4 rfl 0 (by decide) wG_X4_9 tyX4 tyX4_ok nmX4 rfl rfl (tyX4_ok 0 (by decide)) (fun _ => rfl) (fun _ => rfl) (by decide) dX4_init_9 ?_
  exact VA.vret (pc := 12) C rfl rfl (by decide) (by decide) dX4_init_12
set_option maxHeartbeats 4000000 in
set_option maxRecDepth 100000 in
theorem iX0_init_9 (l : Launch) (E : Ev) (M : Mm) (hZ : Z0 M 10) : MtA l E yX0_init cX0_init 1 1 12 9 [.inr (.inl (8, [some (some (some 1)), some (some (some 6)), some (some none), some (some none), some (some none), some (some none), some (some none), some (some none), some (some none), some (some none)])), .inr (.inl (0, [none, none, none, none, some (some (some 2)), some (some (some 3)), some (some (some 4)), some (some (some 5))])), .inl (0, 12), .inl (0, 12), .inl (0, 6), .inl (0, 8), .inr (.inl (4, [some (some (some 7)), none])), .inl (0, 60), .inr (.inl (3, [some (some none), none, none, none, none, none, none, none])), .inr (.inl (0, [none, none, none, none, some (some none), some (some none), some (some none), some (some none)]))] M [.inr (.inl (8, [some (some (some 1)), some (some (some 6)), some (some none), some (some none), some (some none), some (some none), some (some none), some (some none), some (some none), some (some none)])), .inr (.inl (0, [none, none, none, none, some (some (some 2)), some (some (some 3)), some (some (some 4)), some (some (some 5))])), .inl (0, 12), .inl (0, 12), .inl (0, 6), .inl (0, 8), .inr (.inl (4, [some (some (some 7)), none])), .inl (0, 60), .inr (.inl (3, [some (some none), none, none, none, none, none, none, none])), .inr (.inl (0, [none, none, none, none, some (some (some 10)), some (some (some 11)), some (some (some 12)), some (some (some 13))])), .inl (0, 12), .inl (0, 12), .inl (0, 6), .inl (0, 8)] (sI (sI (sI (sI (sI (sI (sI M 9 1 (nI 5)) 12 (nI 0).toNatClampNeg (nI 1)) 12 (nI 1).toNatClampNeg (nI 2)) 12 (nI 2).toNatClampNeg (nI 4)) 12 (nI 3).toNatClampNeg (nI 8)) 12 (nI 4).toNatClampNeg (nI 20)) 12 (nI 5).toNatClampNeg (nI 60)) 4 38 := by
  refine MtA.of (by decide) rfl (by decide) ?_
  intro X C hX
  subst hX
  have C : CA E X cX0_init 1 RX0 1 12 4 38 (Cond.code yX0_init cX0_init 1 none) := C
  refine VA.aload_n (pc := 0) C 0 rfl dX0_init_0 ?_
  refine VA.obj (pc := 1) C wO_X0_3 wObjI wObjC (by decide) (by decide) dX0_init_1 ?_
  refine VA.aload_n (pc := 4) C 0 rfl dX0_init_4 ?_
  refine VA.iconst (pc := 5) C (nI 5) (by decide) dX0_init_5 ?_
  refine VA.putI (pc := 6) C clX0 inX0 rfl 1 (by decide) wG_X0_9 tyX0 tyX0_ok nmX0 rfl (tyX0_ok 1 (by decide)) rfl dX0_init_6 ?_
  refine VA.aload_n (pc := 9) C 0 rfl dX0_init_9 ?_
  refine VA.bipush (pc := 10) C (nI 12) (by decide) dX0_init_10 ?_
  refine VA.newI (pc := 12) C 12 wA_int (by decide) (by decide) (by decide) ((Z0.s (Z0.up (n' := 10) hZ (by decide)) (by decide)) _ (by decide)).1 (by decide) (by decide) dX0_init_12 ?_
  refine VA.putR (pc := 14) C clX0 inX0 rfl 4 (by decide) wG_X0_15 tyX0 tyX0_ok nmX0 rfl rfl (tyX0_ok 4 (by decide)) (fun _ => rfl) (fun _ => rfl) (by decide) dX0_init_14 ?_
  refine VA.aload_n (pc := 17) C 0 rfl dX0_init_17 ?_
  refine VA.bipush (pc := 18) C (nI 12) (by decide) dX0_init_18 ?_
  refine VA.newI (pc := 20) C 12 wA_int (by decide) (by decide) (by decide) ((Z0.s (Z0.up (n' := 11) hZ (by decide)) (by decide)) _ (by decide)).1 (by decide) (by decide) dX0_init_20 ?_
  refine VA.putR (pc := 22) C clX0 inX0 rfl 5 (by decide) wG_X0_19 tyX0 tyX0_ok nmX0 rfl rfl (tyX0_ok 5 (by decide)) (fun _ => rfl) (fun _ => rfl) (by decide) dX0_init_22 ?_
  refine VA.aload_n (pc := 25) C 0 rfl dX0_init_25 ?_
  refine VA.bipush (pc := 26) C (nI 6) (by decide) dX0_init_26 ?_
  refine VA.newI (pc := 28) C 6 wA_int (by decide) (by decide) (by decide) ((Z0.s (Z0.up (n' := 12) hZ (by decide)) (by decide)) _ (by decide)).1 (by decide) (by decide) dX0_init_28 ?_
  refine VA.dup (pc := 30) C rfl dX0_init_30 ?_
  refine VA.iconst (pc := 31) C (nI 0) (by decide) dX0_init_31 ?_
  refine VA.iconst (pc := 32) C (nI 1) (by decide) dX0_init_32 ?_
  refine VA.iast (pc := 33) C rfl (inb_in (by decide)) dX0_init_33 ?_
  refine VA.dup (pc := 34) C rfl dX0_init_34 ?_
  refine VA.iconst (pc := 35) C (nI 1) (by decide) dX0_init_35 ?_
  refine VA.iconst (pc := 36) C (nI 2) (by decide) dX0_init_36 ?_
  refine VA.iast (pc := 37) C rfl (inb_in (by decide)) dX0_init_37 ?_
  refine VA.dup (pc := 38) C rfl dX0_init_38 ?_
  refine VA.iconst (pc := 39) C (nI 2) (by decide) dX0_init_39 ?_
  refine VA.iconst (pc := 40) C (nI 4) (by decide) dX0_init_40 ?_
  refine VA.iast (pc := 41) C rfl (inb_in (by decide)) dX0_init_41 ?_
  refine VA.dup (pc := 42) C rfl dX0_init_42 ?_
  refine VA.iconst (pc := 43) C (nI 3) (by decide) dX0_init_43 ?_
  refine VA.bipush (pc := 44) C (nI 8) (by decide) dX0_init_44 ?_
  refine VA.iast (pc := 46) C rfl (inb_in (by decide)) dX0_init_46 ?_
  refine VA.dup (pc := 47) C rfl dX0_init_47 ?_
  refine VA.iconst (pc := 48) C (nI 4) (by decide) dX0_init_48 ?_
  refine VA.bipush (pc := 49) C (nI 20) (by decide) dX0_init_49 ?_
  refine VA.iast (pc := 51) C rfl (inb_in (by decide)) dX0_init_51 ?_
  refine VA.dup (pc := 52) C rfl dX0_init_52 ?_
  refine VA.iconst (pc := 53) C (nI 5) (by decide) dX0_init_53 ?_
  refine VA.bipush (pc := 54) C (nI 60) (by decide) dX0_init_54 ?_
  refine VA.iast (pc := 56) C rfl (inb_in (by decide)) dX0_init_56 ?_
  refine VA.putR (pc := 57) C clX0 inX0 rfl 6 (by decide) wG_X0_22 tyX0 tyX0_ok nmX0 rfl rfl (tyX0_ok 6 (by decide)) (fun _ => rfl) (fun _ => rfl) (by decide) dX0_init_57 ?_
  refine VA.aload_n (pc := 60) C 0 rfl dX0_init_60 ?_
  refine VA.bipush (pc := 61) C (nI 8) (by decide) dX0_init_61 ?_
  refine VA.newI (pc := 63) C 8 wA_int (by decide) (by decide) (by decide) ((Z0.s (Z0.s (Z0.s (Z0.s (Z0.s (Z0.s (Z0.s (Z0.up (n' := 13) hZ (by decide)) (by decide)) (by decide)) (by decide)) (by decide)) (by decide)) (by decide)) (by decide)) _ (by decide)).1 (by decide) (by decide) dX0_init_63 ?_
  refine VA.putR (pc := 65) C clX0 inX0 rfl 7 (by decide) wG_X0_25 tyX0 tyX0_ok nmX0 rfl rfl (tyX0_ok 7 (by decide)) (fun _ => rfl) (fun _ => rfl) (by decide) dX0_init_65 ?_
  exact VA.vret (pc := 68) C rfl rfl (by decide) (by decide) dX0_init_68
set_option maxHeartbeats 4000000 in
set_option maxRecDepth 100000 in
theorem iX3_init_8 (l : Launch) (E : Ev) (M : Mm) (hZ : Z0 M 9) : MtA l E yX3_init cX3_init 1 2 32 8 [.inr (.inl (8, [some (some (some 1)), some (some (some 6)), some (some none), some (some none), some (some none), some (some none), some (some none), some (some none), some (some none), some (some none)])), .inr (.inl (0, [none, none, none, none, some (some (some 2)), some (some (some 3)), some (some (some 4)), some (some (some 5))])), .inl (0, 12), .inl (0, 12), .inl (0, 6), .inl (0, 8), .inr (.inl (4, [some (some (some 7)), none])), .inl (0, 60), .inr (.inl (3, [some (some none), none, none, none, none, none, none, none]))] M [.inr (.inl (8, [some (some (some 1)), some (some (some 6)), some (some none), some (some none), some (some none), some (some none), some (some none), some (some none), some (some none), some (some none)])), .inr (.inl (0, [none, none, none, none, some (some (some 2)), some (some (some 3)), some (some (some 4)), some (some (some 5))])), .inl (0, 12), .inl (0, 12), .inl (0, 6), .inl (0, 8), .inr (.inl (4, [some (some (some 7)), none])), .inl (0, 60), .inr (.inl (3, [some (some (some 9)), none, none, none, none, none, none, none])), .inr (.inl (0, [none, none, none, none, some (some (some 10)), some (some (some 11)), some (some (some 12)), some (some (some 13))])), .inl (0, 12), .inl (0, 12), .inl (0, 6), .inl (0, 8)] (sI (sI (sI (sI (sI (sI (sI M 9 1 (nI 5)) 12 (nI 0).toNatClampNeg (nI 1)) 12 (nI 1).toNatClampNeg (nI 2)) 12 (nI 2).toNatClampNeg (nI 4)) 12 (nI 3).toNatClampNeg (nI 8)) 12 (nI 4).toNatClampNeg (nI 20)) 12 (nI 5).toNatClampNeg (nI 60)) 5 46 := by
  refine MtA.of (by decide) rfl (by decide) ?_
  intro X C hX
  subst hX
  have C : CA E X cX3_init 1 RX3 2 32 5 46 (Cond.code yX3_init cX3_init 1 none) := C
  refine VA.aload_n (pc := 0) C 0 rfl dX3_init_0 ?_
  refine VA.obj (pc := 1) C wO_X3_3 wObjI wObjC (by decide) (by decide) dX3_init_1 ?_
  refine VA.aload_n (pc := 4) C 0 rfl dX3_init_4 ?_
  refine VA.newO (pc := 5) (fl := [none, none, none, none, some (some none), some (some none), some (some none), some (some none)]) C clX0 inX0 tyX0 tyX0_ok wK_X3_9 wN_X0 wT_X0 df_X0 (by decide) ((Z0.up (n' := 9) hZ (by decide)) _ (by decide)).1 ((Z0.up (n' := 9) hZ (by decide)) _ (by decide)).2 (by decide) (by decide) dX3_init_5 ?_
  refine VA.dup (pc := 8) C rfl dX3_init_8 ?_
  refine VA.callI (pc := 9) C (iX0_init_9 X.2.1 E _ (Z0.up (n' := 10) hZ (by decide))) wD_X0_init wE_X0_init wT_X0 wI_X3_11 rfl (by decide +kernel) ⟨by decide, by decide⟩ (Nat.le_of_ble_eq_true rfl) (by decide) (by decide) dX3_init_9 ?_
  refine VA.putR (pc := 12) C clX3 inX3 rfl 0 (by decide) wG_X3_12 tyX3 tyX3_ok nmX3 rfl rfl (tyX3_ok 0 (by decide)) (fun _ => rfl) (fun _ => rfl) (by decide) dX3_init_12 ?_
  exact VA.vret (pc := 15) C rfl rfl (by decide) (by decide) dX3_init_15
set_option maxHeartbeats 4000000 in
set_option maxRecDepth 100000 in
theorem iX2_init_14 (l : Launch) (E : Ev) (M : Mm) (hZ : Z0 M 15) : MtA l E yX2_init cX2_init 1 1 12 14 [.inr (.inl (8, [some (some (some 1)), some (some (some 6)), some (some (some 8)), some (some none), some (some none), some (some none), some (some none), some (some none), some (some none), some (some none)])), .inr (.inl (0, [none, none, none, none, some (some (some 2)), some (some (some 3)), some (some (some 4)), some (some (some 5))])), .inl (0, 12), .inl (0, 12), .inl (0, 6), .inl (0, 8), .inr (.inl (4, [some (some (some 7)), none])), .inl (0, 60), .inr (.inl (3, [some (some (some 9)), none, none, none, none, none, none, none])), .inr (.inl (0, [none, none, none, none, some (some (some 10)), some (some (some 11)), some (some (some 12)), some (some (some 13))])), .inl (0, 12), .inl (0, 12), .inl (0, 6), .inl (0, 8), .inr (.inl (2, [none, none, none, none, some (some none), some (some none), some (some none), some (some none), some (some none)]))] M [.inr (.inl (8, [some (some (some 1)), some (some (some 6)), some (some (some 8)), some (some none), some (some none), some (some none), some (some none), some (some none), some (some none), some (some none)])), .inr (.inl (0, [none, none, none, none, some (some (some 2)), some (some (some 3)), some (some (some 4)), some (some (some 5))])), .inl (0, 12), .inl (0, 12), .inl (0, 6), .inl (0, 8), .inr (.inl (4, [some (some (some 7)), none])), .inl (0, 60), .inr (.inl (3, [some (some (some 9)), none, none, none, none, none, none, none])), .inr (.inl (0, [none, none, none, none, some (some (some 10)), some (some (some 11)), some (some (some 12)), some (some (some 13))])), .inl (0, 12), .inl (0, 12), .inl (0, 6), .inl (0, 8), .inr (.inl (2, [none, none, none, none, some (some (some 15)), some (some (some 16)), some (some (some 17)), some (some (some 18)), some (some (some 19))])), .inl (0, 64), .inl (0, 64), .inl (1, 64), .inl (1, 64), .inl (1, 64)] M 5 320 := by
  refine MtA.of (by decide) rfl (by decide) ?_
  intro X C hX
  subst hX
  have C : CA E X cX2_init 1 RX2 1 12 5 320 (Cond.code yX2_init cX2_init 1 none) := C
  refine VA.aload_n (pc := 0) C 0 rfl dX2_init_0 ?_
  refine VA.obj (pc := 1) C wO_X2_3 wObjI wObjC (by decide) (by decide) dX2_init_1 ?_
  refine VA.aload_n (pc := 4) C 0 rfl dX2_init_4 ?_
  refine VA.bipush (pc := 5) C (nI 64) (by decide) dX2_init_5 ?_
  refine VA.newI (pc := 7) C 64 wA_int (by decide) (by decide) (by decide) ((Z0.up (n' := 15) hZ (by decide)) _ (by decide)).1 (by decide) (by decide) dX2_init_7 ?_
  refine VA.putR (pc := 9) C clX2 inX2 rfl 4 (by decide) wG_X2_9 tyX2 tyX2_ok nmX2 rfl rfl (tyX2_ok 4 (by decide)) (fun _ => rfl) (fun _ => rfl) (by decide) dX2_init_9 ?_
  refine VA.aload_n (pc := 12) C 0 rfl dX2_init_12 ?_
  refine VA.bipush (pc := 13) C (nI 64) (by decide) dX2_init_13 ?_
  refine VA.newI (pc := 15) C 64 wA_int (by decide) (by decide) (by decide) ((Z0.up (n' := 16) hZ (by decide)) _ (by decide)).1 (by decide) (by decide) dX2_init_15 ?_
  refine VA.putR (pc := 17) C clX2 inX2 rfl 5 (by decide) wG_X2_15 tyX2 tyX2_ok nmX2 rfl rfl (tyX2_ok 5 (by decide)) (fun _ => rfl) (fun _ => rfl) (by decide) dX2_init_17 ?_
  refine VA.aload_n (pc := 20) C 0 rfl dX2_init_20 ?_
  refine VA.bipush (pc := 21) C (nI 64) (by decide) dX2_init_21 ?_
  refine VA.newJ (pc := 23) C 64 wA_long (by decide) (by decide) (by decide) ((Z0.up (n' := 17) hZ (by decide)) _ (by decide)).2 (by decide) (by decide) dX2_init_23 ?_
  refine VA.putR (pc := 25) C clX2 inX2 rfl 6 (by decide) wG_X2_18 tyX2 tyX2_ok nmX2 rfl rfl (tyX2_ok 6 (by decide)) (fun _ => rfl) (fun _ => rfl) (by decide) dX2_init_25 ?_
  refine VA.aload_n (pc := 28) C 0 rfl dX2_init_28 ?_
  refine VA.bipush (pc := 29) C (nI 64) (by decide) dX2_init_29 ?_
  refine VA.newJ (pc := 31) C 64 wA_long (by decide) (by decide) (by decide) ((Z0.up (n' := 18) hZ (by decide)) _ (by decide)).2 (by decide) (by decide) dX2_init_31 ?_
  refine VA.putR (pc := 33) C clX2 inX2 rfl 7 (by decide) wG_X2_22 tyX2 tyX2_ok nmX2 rfl rfl (tyX2_ok 7 (by decide)) (fun _ => rfl) (fun _ => rfl) (by decide) dX2_init_33 ?_
  refine VA.aload_n (pc := 36) C 0 rfl dX2_init_36 ?_
  refine VA.bipush (pc := 37) C (nI 64) (by decide) dX2_init_37 ?_
  refine VA.newJ (pc := 39) C 64 wA_long (by decide) (by decide) (by decide) ((Z0.up (n' := 19) hZ (by decide)) _ (by decide)).2 (by decide) (by decide) dX2_init_39 ?_
  refine VA.putR (pc := 41) C clX2 inX2 rfl 8 (by decide) wG_X2_25 tyX2 tyX2_ok nmX2 rfl rfl (tyX2_ok 8 (by decide)) (fun _ => rfl) (fun _ => rfl) (by decide) dX2_init_41 ?_
  exact VA.vret (pc := 44) C rfl rfl (by decide) (by decide) dX2_init_44
set_option maxHeartbeats 4000000 in
set_option maxRecDepth 100000 in
theorem iX6_init_20 (l : Launch) (E : Ev) (M : Mm) (hZ : Z0 M 21) : MtA l E yX6_init cX6_init 1 1 12 20 [.inr (.inl (8, [some (some (some 1)), some (some (some 6)), some (some (some 8)), some (some (some 14)), some (some none), some (some none), some (some none), some (some none), some (some none), some (some none)])), .inr (.inl (0, [none, none, none, none, some (some (some 2)), some (some (some 3)), some (some (some 4)), some (some (some 5))])), .inl (0, 12), .inl (0, 12), .inl (0, 6), .inl (0, 8), .inr (.inl (4, [some (some (some 7)), none])), .inl (0, 60), .inr (.inl (3, [some (some (some 9)), none, none, none, none, none, none, none])), .inr (.inl (0, [none, none, none, none, some (some (some 10)), some (some (some 11)), some (some (some 12)), some (some (some 13))])), .inl (0, 12), .inl (0, 12), .inl (0, 6), .inl (0, 8), .inr (.inl (2, [none, none, none, none, some (some (some 15)), some (some (some 16)), some (some (some 17)), some (some (some 18)), some (some (some 19))])), .inl (0, 64), .inl (0, 64), .inl (1, 64), .inl (1, 64), .inl (1, 64), .inr (.inl (6, [none, none, none, some (some none), some (some none), some (some none)]))] M [.inr (.inl (8, [some (some (some 1)), some (some (some 6)), some (some (some 8)), some (some (some 14)), some (some none), some (some none), some (some none), some (some none), some (some none), some (some none)])), .inr (.inl (0, [none, none, none, none, some (some (some 2)), some (some (some 3)), some (some (some 4)), some (some (some 5))])), .inl (0, 12), .inl (0, 12), .inl (0, 6), .inl (0, 8), .inr (.inl (4, [some (some (some 7)), none])), .inl (0, 60), .inr (.inl (3, [some (some (some 9)), none, none, none, none, none, none, none])), .inr (.inl (0, [none, none, none, none, some (some (some 10)), some (some (some 11)), some (some (some 12)), some (some (some 13))])), .inl (0, 12), .inl (0, 12), .inl (0, 6), .inl (0, 8), .inr (.inl (2, [none, none, none, none, some (some (some 15)), some (some (some 16)), some (some (some 17)), some (some (some 18)), some (some (some 19))])), .inl (0, 64), .inl (0, 64), .inl (1, 64), .inl (1, 64), .inl (1, 64), .inr (.inl (6, [none, none, none, some (some (some 21)), some (some (some 22)), some (some (some 23))])), .inl (0, 61), .inl (0, 61), .inl (0, 8)] M 3 130 := by
  refine MtA.of (by decide) rfl (by decide) ?_
  intro X C hX
  subst hX
  have C : CA E X cX6_init 1 RX6 1 12 3 130 (Cond.code yX6_init cX6_init 1 none) := C
  refine VA.aload_n (pc := 0) C 0 rfl dX6_init_0 ?_
  refine VA.obj (pc := 1) C wO_X6_3 wObjI wObjC (by decide) (by decide) dX6_init_1 ?_
  refine VA.aload_n (pc := 4) C 0 rfl dX6_init_4 ?_
  refine VA.bipush (pc := 5) C (nI 61) (by decide) dX6_init_5 ?_
  refine VA.newI (pc := 7) C 61 wA_int (by decide) (by decide) (by decide) ((Z0.up (n' := 21) hZ (by decide)) _ (by decide)).1 (by decide) (by decide) dX6_init_7 ?_
  refine VA.putR (pc := 9) C clX6 inX6 rfl 3 (by decide) wG_X6_11 tyX6 tyX6_ok nmX6 rfl rfl (tyX6_ok 3 (by decide)) (fun _ => rfl) (fun _ => rfl) (by decide) dX6_init_9 ?_
  refine VA.aload_n (pc := 12) C 0 rfl dX6_init_12 ?_
  refine VA.bipush (pc := 13) C (nI 61) (by decide) dX6_init_13 ?_
  refine VA.newI (pc := 15) C 61 wA_int (by decide) (by decide) (by decide) ((Z0.up (n' := 22) hZ (by decide)) _ (by decide)).1 (by decide) (by decide) dX6_init_15 ?_
  refine VA.putR (pc := 17) C clX6 inX6 rfl 4 (by decide) wG_X6_15 tyX6 tyX6_ok nmX6 rfl rfl (tyX6_ok 4 (by decide)) (fun _ => rfl) (fun _ => rfl) (by decide) dX6_init_17 ?_
  refine VA.aload_n (pc := 20) C 0 rfl dX6_init_20 ?_
  refine VA.bipush (pc := 21) C (nI 8) (by decide) dX6_init_21 ?_
  refine VA.newI (pc := 23) C 8 wA_int (by decide) (by decide) (by decide) ((Z0.up (n' := 23) hZ (by decide)) _ (by decide)).1 (by decide) (by decide) dX6_init_23 ?_
  refine VA.putR (pc := 25) C clX6 inX6 rfl 5 (by decide) wG_X6_18 tyX6 tyX6_ok nmX6 rfl rfl (tyX6_ok 5 (by decide)) (fun _ => rfl) (fun _ => rfl) (by decide) dX6_init_25 ?_
  exact VA.vret (pc := 28) C rfl rfl (by decide) (by decide) dX6_init_28
set_option maxHeartbeats 4000000 in
set_option maxRecDepth 100000 in
theorem iX1_init_24 (l : Launch) (E : Ev) (M : Mm) (hZ : Z0 M 25) : MtA l E yX1_init cX1_init 1 1 12 24 [.inr (.inl (8, [some (some (some 1)), some (some (some 6)), some (some (some 8)), some (some (some 14)), some (some (some 20)), some (some none), some (some none), some (some none), some (some none), some (some none)])), .inr (.inl (0, [none, none, none, none, some (some (some 2)), some (some (some 3)), some (some (some 4)), some (some (some 5))])), .inl (0, 12), .inl (0, 12), .inl (0, 6), .inl (0, 8), .inr (.inl (4, [some (some (some 7)), none])), .inl (0, 60), .inr (.inl (3, [some (some (some 9)), none, none, none, none, none, none, none])), .inr (.inl (0, [none, none, none, none, some (some (some 10)), some (some (some 11)), some (some (some 12)), some (some (some 13))])), .inl (0, 12), .inl (0, 12), .inl (0, 6), .inl (0, 8), .inr (.inl (2, [none, none, none, none, some (some (some 15)), some (some (some 16)), some (some (some 17)), some (some (some 18)), some (some (some 19))])), .inl (0, 64), .inl (0, 64), .inl (1, 64), .inl (1, 64), .inl (1, 64), .inr (.inl (6, [none, none, none, some (some (some 21)), some (some (some 22)), some (some (some 23))])), .inl (0, 61), .inl (0, 61), .inl (0, 8), .inr (.inl (1, [some (some none), none, some none]))] M [.inr (.inl (8, [some (some (some 1)), some (some (some 6)), some (some (some 8)), some (some (some 14)), some (some (some 20)), some (some none), some (some none), some (some none), some (some none), some (some none)])), .inr (.inl (0, [none, none, none, none, some (some (some 2)), some (some (some 3)), some (some (some 4)), some (some (some 5))])), .inl (0, 12), .inl (0, 12), .inl (0, 6), .inl (0, 8), .inr (.inl (4, [some (some (some 7)), none])), .inl (0, 60), .inr (.inl (3, [some (some (some 9)), none, none, none, none, none, none, none])), .inr (.inl (0, [none, none, none, none, some (some (some 10)), some (some (some 11)), some (some (some 12)), some (some (some 13))])), .inl (0, 12), .inl (0, 12), .inl (0, 6), .inl (0, 8), .inr (.inl (2, [none, none, none, none, some (some (some 15)), some (some (some 16)), some (some (some 17)), some (some (some 18)), some (some (some 19))])), .inl (0, 64), .inl (0, 64), .inl (1, 64), .inl (1, 64), .inl (1, 64), .inr (.inl (6, [none, none, none, some (some (some 21)), some (some (some 22)), some (some (some 23))])), .inl (0, 61), .inl (0, 61), .inl (0, 8), .inr (.inl (1, [some (some (some 25)), none, some none])), .inl (1, 13)] M 1 13 := by
  refine MtA.of (by decide) rfl (by decide) ?_
  intro X C hX
  subst hX
  have C : CA E X cX1_init 1 RX1 1 12 1 13 (Cond.code yX1_init cX1_init 1 none) := C
  refine VA.aload_n (pc := 0) C 0 rfl dX1_init_0 ?_
  refine VA.obj (pc := 1) C wO_X1_3 wObjI wObjC (by decide) (by decide) dX1_init_1 ?_
  refine VA.aload_n (pc := 4) C 0 rfl dX1_init_4 ?_
  refine VA.bipush (pc := 5) C (nI 13) (by decide) dX1_init_5 ?_
  refine VA.newJ (pc := 7) C 13 wA_long (by decide) (by decide) (by decide) ((Z0.up (n' := 25) hZ (by decide)) _ (by decide)).2 (by decide) (by decide) dX1_init_7 ?_
  refine VA.putR (pc := 9) C clX1 inX1 rfl 0 (by decide) wG_X1_9 tyX1 tyX1_ok nmX1 rfl rfl (tyX1_ok 0 (by decide)) (fun _ => rfl) (fun _ => rfl) (by decide) dX1_init_9 ?_
  exact VA.vret (pc := 12) C rfl rfl (by decide) (by decide) dX1_init_12
set_option maxHeartbeats 4000000 in
set_option maxRecDepth 100000 in
theorem iX5_init_26 (l : Launch) (E : Ev) (M : Mm) (hZ : Z0 M 27) : MtA l E yX5_init cX5_init 1 1 12 26 [.inr (.inl (8, [some (some (some 1)), some (some (some 6)), some (some (some 8)), some (some (some 14)), some (some (some 20)), some (some (some 24)), some (some none), some (some none), some (some none), some (some none)])), .inr (.inl (0, [none, none, none, none, some (some (some 2)), some (some (some 3)), some (some (some 4)), some (some (some 5))])), .inl (0, 12), .inl (0, 12), .inl (0, 6), .inl (0, 8), .inr (.inl (4, [some (some (some 7)), none])), .inl (0, 60), .inr (.inl (3, [some (some (some 9)), none, none, none, none, none, none, none])), .inr (.inl (0, [none, none, none, none, some (some (some 10)), some (some (some 11)), some (some (some 12)), some (some (some 13))])), .inl (0, 12), .inl (0, 12), .inl (0, 6), .inl (0, 8), .inr (.inl (2, [none, none, none, none, some (some (some 15)), some (some (some 16)), some (some (some 17)), some (some (some 18)), some (some (some 19))])), .inl (0, 64), .inl (0, 64), .inl (1, 64), .inl (1, 64), .inl (1, 64), .inr (.inl (6, [none, none, none, some (some (some 21)), some (some (some 22)), some (some (some 23))])), .inl (0, 61), .inl (0, 61), .inl (0, 8), .inr (.inl (1, [some (some (some 25)), none, some none])), .inl (1, 13), .inr (.inl (5, [none, none, none]))] M [.inr (.inl (8, [some (some (some 1)), some (some (some 6)), some (some (some 8)), some (some (some 14)), some (some (some 20)), some (some (some 24)), some (some none), some (some none), some (some none), some (some none)])), .inr (.inl (0, [none, none, none, none, some (some (some 2)), some (some (some 3)), some (some (some 4)), some (some (some 5))])), .inl (0, 12), .inl (0, 12), .inl (0, 6), .inl (0, 8), .inr (.inl (4, [some (some (some 7)), none])), .inl (0, 60), .inr (.inl (3, [some (some (some 9)), none, none, none, none, none, none, none])), .inr (.inl (0, [none, none, none, none, some (some (some 10)), some (some (some 11)), some (some (some 12)), some (some (some 13))])), .inl (0, 12), .inl (0, 12), .inl (0, 6), .inl (0, 8), .inr (.inl (2, [none, none, none, none, some (some (some 15)), some (some (some 16)), some (some (some 17)), some (some (some 18)), some (some (some 19))])), .inl (0, 64), .inl (0, 64), .inl (1, 64), .inl (1, 64), .inl (1, 64), .inr (.inl (6, [none, none, none, some (some (some 21)), some (some (some 22)), some (some (some 23))])), .inl (0, 61), .inl (0, 61), .inl (0, 8), .inr (.inl (1, [some (some (some 25)), none, some none])), .inl (1, 13), .inr (.inl (5, [none, none, none]))] M 0 0 := by
  refine MtA.of (by decide) rfl (by decide) ?_
  intro X C hX
  subst hX
  have C : CA E X cX5_init 1 RX5 1 12 0 0 (Cond.code yX5_init cX5_init 1 none) := C
  refine VA.aload_n (pc := 0) C 0 rfl dX5_init_0 ?_
  refine VA.obj (pc := 1) C wO_X5_3 wObjI wObjC (by decide) (by decide) dX5_init_1 ?_
  exact VA.vret (pc := 4) C rfl rfl (by decide) (by decide) dX5_init_4
set_option maxHeartbeats 4000000 in
set_option maxRecDepth 100000 in
theorem iX0_init_28 (l : Launch) (E : Ev) (M : Mm) (hZ : Z0 M 29) : MtA l E yX0_init cX0_init 1 1 12 28 [.inr (.inl (8, [some (some (some 1)), some (some (some 6)), some (some (some 8)), some (some (some 14)), some (some (some 20)), some (some (some 24)), some (some (some 26)), some (some none), some (some none), some (some none)])), .inr (.inl (0, [none, none, none, none, some (some (some 2)), some (some (some 3)), some (some (some 4)), some (some (some 5))])), .inl (0, 12), .inl (0, 12), .inl (0, 6), .inl (0, 8), .inr (.inl (4, [some (some (some 7)), none])), .inl (0, 60), .inr (.inl (3, [some (some (some 9)), none, none, none, none, none, none, none])), .inr (.inl (0, [none, none, none, none, some (some (some 10)), some (some (some 11)), some (some (some 12)), some (some (some 13))])), .inl (0, 12), .inl (0, 12), .inl (0, 6), .inl (0, 8), .inr (.inl (2, [none, none, none, none, some (some (some 15)), some (some (some 16)), some (some (some 17)), some (some (some 18)), some (some (some 19))])), .inl (0, 64), .inl (0, 64), .inl (1, 64), .inl (1, 64), .inl (1, 64), .inr (.inl (6, [none, none, none, some (some (some 21)), some (some (some 22)), some (some (some 23))])), .inl (0, 61), .inl (0, 61), .inl (0, 8), .inr (.inl (1, [some (some (some 25)), none, some none])), .inl (1, 13), .inr (.inl (5, [none, none, none])), .inr (.inl (7, [some (some none), none, none])), .inr (.inl (0, [none, none, none, none, some (some none), some (some none), some (some none), some (some none)]))] M [.inr (.inl (8, [some (some (some 1)), some (some (some 6)), some (some (some 8)), some (some (some 14)), some (some (some 20)), some (some (some 24)), some (some (some 26)), some (some none), some (some none), some (some none)])), .inr (.inl (0, [none, none, none, none, some (some (some 2)), some (some (some 3)), some (some (some 4)), some (some (some 5))])), .inl (0, 12), .inl (0, 12), .inl (0, 6), .inl (0, 8), .inr (.inl (4, [some (some (some 7)), none])), .inl (0, 60), .inr (.inl (3, [some (some (some 9)), none, none, none, none, none, none, none])), .inr (.inl (0, [none, none, none, none, some (some (some 10)), some (some (some 11)), some (some (some 12)), some (some (some 13))])), .inl (0, 12), .inl (0, 12), .inl (0, 6), .inl (0, 8), .inr (.inl (2, [none, none, none, none, some (some (some 15)), some (some (some 16)), some (some (some 17)), some (some (some 18)), some (some (some 19))])), .inl (0, 64), .inl (0, 64), .inl (1, 64), .inl (1, 64), .inl (1, 64), .inr (.inl (6, [none, none, none, some (some (some 21)), some (some (some 22)), some (some (some 23))])), .inl (0, 61), .inl (0, 61), .inl (0, 8), .inr (.inl (1, [some (some (some 25)), none, some none])), .inl (1, 13), .inr (.inl (5, [none, none, none])), .inr (.inl (7, [some (some none), none, none])), .inr (.inl (0, [none, none, none, none, some (some (some 29)), some (some (some 30)), some (some (some 31)), some (some (some 32))])), .inl (0, 12), .inl (0, 12), .inl (0, 6), .inl (0, 8)] (sI (sI (sI (sI (sI (sI (sI M 28 1 (nI 5)) 31 (nI 0).toNatClampNeg (nI 1)) 31 (nI 1).toNatClampNeg (nI 2)) 31 (nI 2).toNatClampNeg (nI 4)) 31 (nI 3).toNatClampNeg (nI 8)) 31 (nI 4).toNatClampNeg (nI 20)) 31 (nI 5).toNatClampNeg (nI 60)) 4 38 := by
  refine MtA.of (by decide) rfl (by decide) ?_
  intro X C hX
  subst hX
  have C : CA E X cX0_init 1 RX0 1 12 4 38 (Cond.code yX0_init cX0_init 1 none) := C
  refine VA.aload_n (pc := 0) C 0 rfl dX0_init_0 ?_
  refine VA.obj (pc := 1) C wO_X0_3 wObjI wObjC (by decide) (by decide) dX0_init_1 ?_
  refine VA.aload_n (pc := 4) C 0 rfl dX0_init_4 ?_
  refine VA.iconst (pc := 5) C (nI 5) (by decide) dX0_init_5 ?_
  refine VA.putI (pc := 6) C clX0 inX0 rfl 1 (by decide) wG_X0_9 tyX0 tyX0_ok nmX0 rfl (tyX0_ok 1 (by decide)) rfl dX0_init_6 ?_
  refine VA.aload_n (pc := 9) C 0 rfl dX0_init_9 ?_
  refine VA.bipush (pc := 10) C (nI 12) (by decide) dX0_init_10 ?_
  refine VA.newI (pc := 12) C 12 wA_int (by decide) (by decide) (by decide) ((Z0.s (Z0.up (n' := 29) hZ (by decide)) (by decide)) _ (by decide)).1 (by decide) (by decide) dX0_init_12 ?_
  refine VA.putR (pc := 14) C clX0 inX0 rfl 4 (by decide) wG_X0_15 tyX0 tyX0_ok nmX0 rfl rfl (tyX0_ok 4 (by decide)) (fun _ => rfl) (fun _ => rfl) (by decide) dX0_init_14 ?_
  refine VA.aload_n (pc := 17) C 0 rfl dX0_init_17 ?_
  refine VA.bipush (pc := 18) C (nI 12) (by decide) dX0_init_18 ?_
  refine VA.newI (pc := 20) C 12 wA_int (by decide) (by decide) (by decide) ((Z0.s (Z0.up (n' := 30) hZ (by decide)) (by decide)) _ (by decide)).1 (by decide) (by decide) dX0_init_20 ?_
  refine VA.putR (pc := 22) C clX0 inX0 rfl 5 (by decide) wG_X0_19 tyX0 tyX0_ok nmX0 rfl rfl (tyX0_ok 5 (by decide)) (fun _ => rfl) (fun _ => rfl) (by decide) dX0_init_22 ?_
  refine VA.aload_n (pc := 25) C 0 rfl dX0_init_25 ?_
  refine VA.bipush (pc := 26) C (nI 6) (by decide) dX0_init_26 ?_
  refine VA.newI (pc := 28) C 6 wA_int (by decide) (by decide) (by decide) ((Z0.s (Z0.up (n' := 31) hZ (by decide)) (by decide)) _ (by decide)).1 (by decide) (by decide) dX0_init_28 ?_
  refine VA.dup (pc := 30) C rfl dX0_init_30 ?_
  refine VA.iconst (pc := 31) C (nI 0) (by decide) dX0_init_31 ?_
  refine VA.iconst (pc := 32) C (nI 1) (by decide) dX0_init_32 ?_
  refine VA.iast (pc := 33) C rfl (inb_in (by decide)) dX0_init_33 ?_
  refine VA.dup (pc := 34) C rfl dX0_init_34 ?_
  refine VA.iconst (pc := 35) C (nI 1) (by decide) dX0_init_35 ?_
  refine VA.iconst (pc := 36) C (nI 2) (by decide) dX0_init_36 ?_
  refine VA.iast (pc := 37) C rfl (inb_in (by decide)) dX0_init_37 ?_
  refine VA.dup (pc := 38) C rfl dX0_init_38 ?_
  refine VA.iconst (pc := 39) C (nI 2) (by decide) dX0_init_39 ?_
  refine VA.iconst (pc := 40) C (nI 4) (by decide) dX0_init_40 ?_
  refine VA.iast (pc := 41) C rfl (inb_in (by decide)) dX0_init_41 ?_
  refine VA.dup (pc := 42) C rfl dX0_init_42 ?_
  refine VA.iconst (pc := 43) C (nI 3) (by decide) dX0_init_43 ?_
  refine VA.bipush (pc := 44) C (nI 8) (by decide) dX0_init_44 ?_
  refine VA.iast (pc := 46) C rfl (inb_in (by decide)) dX0_init_46 ?_
  refine VA.dup (pc := 47) C rfl dX0_init_47 ?_
  refine VA.iconst (pc := 48) C (nI 4) (by decide) dX0_init_48 ?_
  refine VA.bipush (pc := 49) C (nI 20) (by decide) dX0_init_49 ?_
  refine VA.iast (pc := 51) C rfl (inb_in (by decide)) dX0_init_51 ?_
  refine VA.dup (pc := 52) C rfl dX0_init_52 ?_
  refine VA.iconst (pc := 53) C (nI 5) (by decide) dX0_init_53 ?_
  refine VA.bipush (pc := 54) C (nI 60) (by decide) dX0_init_54 ?_
  refine VA.iast (pc := 56) C rfl (inb_in (by decide)) dX0_init_56 ?_
  refine VA.putR (pc := 57) C clX0 inX0 rfl 6 (by decide) wG_X0_22 tyX0 tyX0_ok nmX0 rfl rfl (tyX0_ok 6 (by decide)) (fun _ => rfl) (fun _ => rfl) (by decide) dX0_init_57 ?_
  refine VA.aload_n (pc := 60) C 0 rfl dX0_init_60 ?_
  refine VA.bipush (pc := 61) C (nI 8) (by decide) dX0_init_61 ?_
  refine VA.newI (pc := 63) C 8 wA_int (by decide) (by decide) (by decide) ((Z0.s (Z0.s (Z0.s (Z0.s (Z0.s (Z0.s (Z0.s (Z0.up (n' := 32) hZ (by decide)) (by decide)) (by decide)) (by decide)) (by decide)) (by decide)) (by decide)) (by decide)) _ (by decide)).1 (by decide) (by decide) dX0_init_63 ?_
  refine VA.putR (pc := 65) C clX0 inX0 rfl 7 (by decide) wG_X0_25 tyX0 tyX0_ok nmX0 rfl rfl (tyX0_ok 7 (by decide)) (fun _ => rfl) (fun _ => rfl) (by decide) dX0_init_65 ?_
  exact VA.vret (pc := 68) C rfl rfl (by decide) (by decide) dX0_init_68
set_option maxHeartbeats 4000000 in
set_option maxRecDepth 100000 in
theorem iX7_init_27 (l : Launch) (E : Ev) (M : Mm) (hZ : Z0 M 28) : MtA l E yX7_init cX7_init 1 2 32 27 [.inr (.inl (8, [some (some (some 1)), some (some (some 6)), some (some (some 8)), some (some (some 14)), some (some (some 20)), some (some (some 24)), some (some (some 26)), some (some none), some (some none), some (some none)])), .inr (.inl (0, [none, none, none, none, some (some (some 2)), some (some (some 3)), some (some (some 4)), some (some (some 5))])), .inl (0, 12), .inl (0, 12), .inl (0, 6), .inl (0, 8), .inr (.inl (4, [some (some (some 7)), none])), .inl (0, 60), .inr (.inl (3, [some (some (some 9)), none, none, none, none, none, none, none])), .inr (.inl (0, [none, none, none, none, some (some (some 10)), some (some (some 11)), some (some (some 12)), some (some (some 13))])), .inl (0, 12), .inl (0, 12), .inl (0, 6), .inl (0, 8), .inr (.inl (2, [none, none, none, none, some (some (some 15)), some (some (some 16)), some (some (some 17)), some (some (some 18)), some (some (some 19))])), .inl (0, 64), .inl (0, 64), .inl (1, 64), .inl (1, 64), .inl (1, 64), .inr (.inl (6, [none, none, none, some (some (some 21)), some (some (some 22)), some (some (some 23))])), .inl (0, 61), .inl (0, 61), .inl (0, 8), .inr (.inl (1, [some (some (some 25)), none, some none])), .inl (1, 13), .inr (.inl (5, [none, none, none])), .inr (.inl (7, [some (some none), none, none]))] M [.inr (.inl (8, [some (some (some 1)), some (some (some 6)), some (some (some 8)), some (some (some 14)), some (some (some 20)), some (some (some 24)), some (some (some 26)), some (some none), some (some none), some (some none)])), .inr (.inl (0, [none, none, none, none, some (some (some 2)), some (some (some 3)), some (some (some 4)), some (some (some 5))])), .inl (0, 12), .inl (0, 12), .inl (0, 6), .inl (0, 8), .inr (.inl (4, [some (some (some 7)), none])), .inl (0, 60), .inr (.inl (3, [some (some (some 9)), none, none, none, none, none, none, none])), .inr (.inl (0, [none, none, none, none, some (some (some 10)), some (some (some 11)), some (some (some 12)), some (some (some 13))])), .inl (0, 12), .inl (0, 12), .inl (0, 6), .inl (0, 8), .inr (.inl (2, [none, none, none, none, some (some (some 15)), some (some (some 16)), some (some (some 17)), some (some (some 18)), some (some (some 19))])), .inl (0, 64), .inl (0, 64), .inl (1, 64), .inl (1, 64), .inl (1, 64), .inr (.inl (6, [none, none, none, some (some (some 21)), some (some (some 22)), some (some (some 23))])), .inl (0, 61), .inl (0, 61), .inl (0, 8), .inr (.inl (1, [some (some (some 25)), none, some none])), .inl (1, 13), .inr (.inl (5, [none, none, none])), .inr (.inl (7, [some (some (some 28)), none, none])), .inr (.inl (0, [none, none, none, none, some (some (some 29)), some (some (some 30)), some (some (some 31)), some (some (some 32))])), .inl (0, 12), .inl (0, 12), .inl (0, 6), .inl (0, 8)] (sI (sI (sI (sI (sI (sI (sI M 28 1 (nI 5)) 31 (nI 0).toNatClampNeg (nI 1)) 31 (nI 1).toNatClampNeg (nI 2)) 31 (nI 2).toNatClampNeg (nI 4)) 31 (nI 3).toNatClampNeg (nI 8)) 31 (nI 4).toNatClampNeg (nI 20)) 31 (nI 5).toNatClampNeg (nI 60)) 5 46 := by
  refine MtA.of (by decide) rfl (by decide) ?_
  intro X C hX
  subst hX
  have C : CA E X cX7_init 1 RX7 2 32 5 46 (Cond.code yX7_init cX7_init 1 none) := C
  refine VA.aload_n (pc := 0) C 0 rfl dX7_init_0 ?_
  refine VA.obj (pc := 1) C wO_X7_3 wObjI wObjC (by decide) (by decide) dX7_init_1 ?_
  refine VA.aload_n (pc := 4) C 0 rfl dX7_init_4 ?_
  refine VA.newO (pc := 5) (fl := [none, none, none, none, some (some none), some (some none), some (some none), some (some none)]) C clX0 inX0 tyX0 tyX0_ok wK_X7_9 wN_X0 wT_X0 df_X0 (by decide) ((Z0.up (n' := 28) hZ (by decide)) _ (by decide)).1 ((Z0.up (n' := 28) hZ (by decide)) _ (by decide)).2 (by decide) (by decide) dX7_init_5 ?_
  refine VA.dup (pc := 8) C rfl dX7_init_8 ?_
  refine VA.callI (pc := 9) C (iX0_init_28 X.2.1 E _ (Z0.up (n' := 29) hZ (by decide))) wD_X0_init wE_X0_init wT_X0 wI_X7_11 rfl (by decide +kernel) ⟨by decide, by decide⟩ (Nat.le_of_ble_eq_true rfl) (by decide) (by decide) dX7_init_9 ?_
  refine VA.putR (pc := 12) C clX7 inX7 rfl 0 (by decide) wG_X7_12 tyX7 tyX7_ok nmX7 rfl rfl (tyX7_ok 0 (by decide)) (fun _ => rfl) (fun _ => rfl) (by decide) dX7_init_12 ?_
  exact VA.vret (pc := 15) C rfl rfl (by decide) (by decide) dX7_init_15
set_option maxHeartbeats 4000000 in
set_option maxRecDepth 100000 in
theorem iX0_init_34 (l : Launch) (E : Ev) (M : Mm) (hZ : Z0 M 35) : MtA l E yX0_init cX0_init 1 1 12 34 [.inr (.inl (8, [some (some (some 1)), some (some (some 6)), some (some (some 8)), some (some (some 14)), some (some (some 20)), some (some (some 24)), some (some (some 26)), some (some (some 27)), some (some none), some (some none)])), .inr (.inl (0, [none, none, none, none, some (some (some 2)), some (some (some 3)), some (some (some 4)), some (some (some 5))])), .inl (0, 12), .inl (0, 12), .inl (0, 6), .inl (0, 8), .inr (.inl (4, [some (some (some 7)), none])), .inl (0, 60), .inr (.inl (3, [some (some (some 9)), none, none, none, none, none, none, none])), .inr (.inl (0, [none, none, none, none, some (some (some 10)), some (some (some 11)), some (some (some 12)), some (some (some 13))])), .inl (0, 12), .inl (0, 12), .inl (0, 6), .inl (0, 8), .inr (.inl (2, [none, none, none, none, some (some (some 15)), some (some (some 16)), some (some (some 17)), some (some (some 18)), some (some (some 19))])), .inl (0, 64), .inl (0, 64), .inl (1, 64), .inl (1, 64), .inl (1, 64), .inr (.inl (6, [none, none, none, some (some (some 21)), some (some (some 22)), some (some (some 23))])), .inl (0, 61), .inl (0, 61), .inl (0, 8), .inr (.inl (1, [some (some (some 25)), none, some none])), .inl (1, 13), .inr (.inl (5, [none, none, none])), .inr (.inl (7, [some (some (some 28)), none, none])), .inr (.inl (0, [none, none, none, none, some (some (some 29)), some (some (some 30)), some (some (some 31)), some (some (some 32))])), .inl (0, 12), .inl (0, 12), .inl (0, 6), .inl (0, 8), .inr (.inr [none, none]), .inr (.inl (0, [none, none, none, none, some (some none), some (some none), some (some none), some (some none)]))] M [.inr (.inl (8, [some (some (some 1)), some (some (some 6)), some (some (some 8)), some (some (some 14)), some (some (some 20)), some (some (some 24)), some (some (some 26)), some (some (some 27)), some (some none), some (some none)])), .inr (.inl (0, [none, none, none, none, some (some (some 2)), some (some (some 3)), some (some (some 4)), some (some (some 5))])), .inl (0, 12), .inl (0, 12), .inl (0, 6), .inl (0, 8), .inr (.inl (4, [some (some (some 7)), none])), .inl (0, 60), .inr (.inl (3, [some (some (some 9)), none, none, none, none, none, none, none])), .inr (.inl (0, [none, none, none, none, some (some (some 10)), some (some (some 11)), some (some (some 12)), some (some (some 13))])), .inl (0, 12), .inl (0, 12), .inl (0, 6), .inl (0, 8), .inr (.inl (2, [none, none, none, none, some (some (some 15)), some (some (some 16)), some (some (some 17)), some (some (some 18)), some (some (some 19))])), .inl (0, 64), .inl (0, 64), .inl (1, 64), .inl (1, 64), .inl (1, 64), .inr (.inl (6, [none, none, none, some (some (some 21)), some (some (some 22)), some (some (some 23))])), .inl (0, 61), .inl (0, 61), .inl (0, 8), .inr (.inl (1, [some (some (some 25)), none, some none])), .inl (1, 13), .inr (.inl (5, [none, none, none])), .inr (.inl (7, [some (some (some 28)), none, none])), .inr (.inl (0, [none, none, none, none, some (some (some 29)), some (some (some 30)), some (some (some 31)), some (some (some 32))])), .inl (0, 12), .inl (0, 12), .inl (0, 6), .inl (0, 8), .inr (.inr [none, none]), .inr (.inl (0, [none, none, none, none, some (some (some 35)), some (some (some 36)), some (some (some 37)), some (some (some 38))])), .inl (0, 12), .inl (0, 12), .inl (0, 6), .inl (0, 8)] (sI (sI (sI (sI (sI (sI (sI M 34 1 (nI 5)) 37 (nI 0).toNatClampNeg (nI 1)) 37 (nI 1).toNatClampNeg (nI 2)) 37 (nI 2).toNatClampNeg (nI 4)) 37 (nI 3).toNatClampNeg (nI 8)) 37 (nI 4).toNatClampNeg (nI 20)) 37 (nI 5).toNatClampNeg (nI 60)) 4 38 := by
  refine MtA.of (by decide) rfl (by decide) ?_
  intro X C hX
  subst hX
  have C : CA E X cX0_init 1 RX0 1 12 4 38 (Cond.code yX0_init cX0_init 1 none) := C
  refine VA.aload_n (pc := 0) C 0 rfl dX0_init_0 ?_
  refine VA.obj (pc := 1) C wO_X0_3 wObjI wObjC (by decide) (by decide) dX0_init_1 ?_
  refine VA.aload_n (pc := 4) C 0 rfl dX0_init_4 ?_
  refine VA.iconst (pc := 5) C (nI 5) (by decide) dX0_init_5 ?_
  refine VA.putI (pc := 6) C clX0 inX0 rfl 1 (by decide) wG_X0_9 tyX0 tyX0_ok nmX0 rfl (tyX0_ok 1 (by decide)) rfl dX0_init_6 ?_
  refine VA.aload_n (pc := 9) C 0 rfl dX0_init_9 ?_
  refine VA.bipush (pc := 10) C (nI 12) (by decide) dX0_init_10 ?_
  refine VA.newI (pc := 12) C 12 wA_int (by decide) (by decide) (by decide) ((Z0.s (Z0.up (n' := 35) hZ (by decide)) (by decide)) _ (by decide)).1 (by decide) (by decide) dX0_init_12 ?_
  refine VA.putR (pc := 14) C clX0 inX0 rfl 4 (by decide) wG_X0_15 tyX0 tyX0_ok nmX0 rfl rfl (tyX0_ok 4 (by decide)) (fun _ => rfl) (fun _ => rfl) (by decide) dX0_init_14 ?_
  refine VA.aload_n (pc := 17) C 0 rfl dX0_init_17 ?_
  refine VA.bipush (pc := 18) C (nI 12) (by decide) dX0_init_18 ?_
  refine VA.newI (pc := 20) C 12 wA_int (by decide) (by decide) (by decide) ((Z0.s (Z0.up (n' := 36) hZ (by decide)) (by decide)) _ (by decide)).1 (by decide) (by decide) dX0_init_20 ?_
  refine VA.putR (pc := 22) C clX0 inX0 rfl 5 (by decide) wG_X0_19 tyX0 tyX0_ok nmX0 rfl rfl (tyX0_ok 5 (by decide)) (fun _ => rfl) (fun _ => rfl) (by decide) dX0_init_22 ?_
  refine VA.aload_n (pc := 25) C 0 rfl dX0_init_25 ?_
  refine VA.bipush (pc := 26) C (nI 6) (by decide) dX0_init_26 ?_
  refine VA.newI (pc := 28) C 6 wA_int (by decide) (by decide) (by decide) ((Z0.s (Z0.up (n' := 37) hZ (by decide)) (by decide)) _ (by decide)).1 (by decide) (by decide) dX0_init_28 ?_
  refine VA.dup (pc := 30) C rfl dX0_init_30 ?_
  refine VA.iconst (pc := 31) C (nI 0) (by decide) dX0_init_31 ?_
  refine VA.iconst (pc := 32) C (nI 1) (by decide) dX0_init_32 ?_
  refine VA.iast (pc := 33) C rfl (inb_in (by decide)) dX0_init_33 ?_
  refine VA.dup (pc := 34) C rfl dX0_init_34 ?_
  refine VA.iconst (pc := 35) C (nI 1) (by decide) dX0_init_35 ?_
  refine VA.iconst (pc := 36) C (nI 2) (by decide) dX0_init_36 ?_
  refine VA.iast (pc := 37) C rfl (inb_in (by decide)) dX0_init_37 ?_
  refine VA.dup (pc := 38) C rfl dX0_init_38 ?_
  refine VA.iconst (pc := 39) C (nI 2) (by decide) dX0_init_39 ?_
  refine VA.iconst (pc := 40) C (nI 4) (by decide) dX0_init_40 ?_
  refine VA.iast (pc := 41) C rfl (inb_in (by decide)) dX0_init_41 ?_
  refine VA.dup (pc := 42) C rfl dX0_init_42 ?_
  refine VA.iconst (pc := 43) C (nI 3) (by decide) dX0_init_43 ?_
  refine VA.bipush (pc := 44) C (nI 8) (by decide) dX0_init_44 ?_
  refine VA.iast (pc := 46) C rfl (inb_in (by decide)) dX0_init_46 ?_
  refine VA.dup (pc := 47) C rfl dX0_init_47 ?_
  refine VA.iconst (pc := 48) C (nI 4) (by decide) dX0_init_48 ?_
  refine VA.bipush (pc := 49) C (nI 20) (by decide) dX0_init_49 ?_
  refine VA.iast (pc := 51) C rfl (inb_in (by decide)) dX0_init_51 ?_
  refine VA.dup (pc := 52) C rfl dX0_init_52 ?_
  refine VA.iconst (pc := 53) C (nI 5) (by decide) dX0_init_53 ?_
  refine VA.bipush (pc := 54) C (nI 60) (by decide) dX0_init_54 ?_
  refine VA.iast (pc := 56) C rfl (inb_in (by decide)) dX0_init_56 ?_
  refine VA.putR (pc := 57) C clX0 inX0 rfl 6 (by decide) wG_X0_22 tyX0 tyX0_ok nmX0 rfl rfl (tyX0_ok 6 (by decide)) (fun _ => rfl) (fun _ => rfl) (by decide) dX0_init_57 ?_
  refine VA.aload_n (pc := 60) C 0 rfl dX0_init_60 ?_
  refine VA.bipush (pc := 61) C (nI 8) (by decide) dX0_init_61 ?_
  refine VA.newI (pc := 63) C 8 wA_int (by decide) (by decide) (by decide) ((Z0.s (Z0.s (Z0.s (Z0.s (Z0.s (Z0.s (Z0.s (Z0.up (n' := 38) hZ (by decide)) (by decide)) (by decide)) (by decide)) (by decide)) (by decide)) (by decide)) (by decide)) _ (by decide)).1 (by decide) (by decide) dX0_init_63 ?_
  refine VA.putR (pc := 65) C clX0 inX0 rfl 7 (by decide) wG_X0_25 tyX0 tyX0_ok nmX0 rfl rfl (tyX0_ok 7 (by decide)) (fun _ => rfl) (fun _ => rfl) (by decide) dX0_init_65 ?_
  exact VA.vret (pc := 68) C rfl rfl (by decide) (by decide) dX0_init_68
set_option maxHeartbeats 4000000 in
set_option maxRecDepth 100000 in
theorem iX0_init_39 (l : Launch) (E : Ev) (M : Mm) (hZ : Z0 M 40) : MtA l E yX0_init cX0_init 1 1 12 39 [.inr (.inl (8, [some (some (some 1)), some (some (some 6)), some (some (some 8)), some (some (some 14)), some (some (some 20)), some (some (some 24)), some (some (some 26)), some (some (some 27)), some (some none), some (some none)])), .inr (.inl (0, [none, none, none, none, some (some (some 2)), some (some (some 3)), some (some (some 4)), some (some (some 5))])), .inl (0, 12), .inl (0, 12), .inl (0, 6), .inl (0, 8), .inr (.inl (4, [some (some (some 7)), none])), .inl (0, 60), .inr (.inl (3, [some (some (some 9)), none, none, none, none, none, none, none])), .inr (.inl (0, [none, none, none, none, some (some (some 10)), some (some (some 11)), some (some (some 12)), some (some (some 13))])), .inl (0, 12), .inl (0, 12), .inl (0, 6), .inl (0, 8), .inr (.inl (2, [none, none, none, none, some (some (some 15)), some (some (some 16)), some (some (some 17)), some (some (some 18)), some (some (some 19))])), .inl (0, 64), .inl (0, 64), .inl (1, 64), .inl (1, 64), .inl (1, 64), .inr (.inl (6, [none, none, none, some (some (some 21)), some (some (some 22)), some (some (some 23))])), .inl (0, 61), .inl (0, 61), .inl (0, 8), .inr (.inl (1, [some (some (some 25)), none, some none])), .inl (1, 13), .inr (.inl (5, [none, none, none])), .inr (.inl (7, [some (some (some 28)), none, none])), .inr (.inl (0, [none, none, none, none, some (some (some 29)), some (some (some 30)), some (some (some 31)), some (some (some 32))])), .inl (0, 12), .inl (0, 12), .inl (0, 6), .inl (0, 8), .inr (.inr [some 34, none]), .inr (.inl (0, [none, none, none, none, some (some (some 35)), some (some (some 36)), some (some (some 37)), some (some (some 38))])), .inl (0, 12), .inl (0, 12), .inl (0, 6), .inl (0, 8), .inr (.inl (0, [none, none, none, none, some (some none), some (some none), some (some none), some (some none)]))] M [.inr (.inl (8, [some (some (some 1)), some (some (some 6)), some (some (some 8)), some (some (some 14)), some (some (some 20)), some (some (some 24)), some (some (some 26)), some (some (some 27)), some (some none), some (some none)])), .inr (.inl (0, [none, none, none, none, some (some (some 2)), some (some (some 3)), some (some (some 4)), some (some (some 5))])), .inl (0, 12), .inl (0, 12), .inl (0, 6), .inl (0, 8), .inr (.inl (4, [some (some (some 7)), none])), .inl (0, 60), .inr (.inl (3, [some (some (some 9)), none, none, none, none, none, none, none])), .inr (.inl (0, [none, none, none, none, some (some (some 10)), some (some (some 11)), some (some (some 12)), some (some (some 13))])), .inl (0, 12), .inl (0, 12), .inl (0, 6), .inl (0, 8), .inr (.inl (2, [none, none, none, none, some (some (some 15)), some (some (some 16)), some (some (some 17)), some (some (some 18)), some (some (some 19))])), .inl (0, 64), .inl (0, 64), .inl (1, 64), .inl (1, 64), .inl (1, 64), .inr (.inl (6, [none, none, none, some (some (some 21)), some (some (some 22)), some (some (some 23))])), .inl (0, 61), .inl (0, 61), .inl (0, 8), .inr (.inl (1, [some (some (some 25)), none, some none])), .inl (1, 13), .inr (.inl (5, [none, none, none])), .inr (.inl (7, [some (some (some 28)), none, none])), .inr (.inl (0, [none, none, none, none, some (some (some 29)), some (some (some 30)), some (some (some 31)), some (some (some 32))])), .inl (0, 12), .inl (0, 12), .inl (0, 6), .inl (0, 8), .inr (.inr [some 34, none]), .inr (.inl (0, [none, none, none, none, some (some (some 35)), some (some (some 36)), some (some (some 37)), some (some (some 38))])), .inl (0, 12), .inl (0, 12), .inl (0, 6), .inl (0, 8), .inr (.inl (0, [none, none, none, none, some (some (some 40)), some (some (some 41)), some (some (some 42)), some (some (some 43))])), .inl (0, 12), .inl (0, 12), .inl (0, 6), .inl (0, 8)] (sI (sI (sI (sI (sI (sI (sI M 39 1 (nI 5)) 42 (nI 0).toNatClampNeg (nI 1)) 42 (nI 1).toNatClampNeg (nI 2)) 42 (nI 2).toNatClampNeg (nI 4)) 42 (nI 3).toNatClampNeg (nI 8)) 42 (nI 4).toNatClampNeg (nI 20)) 42 (nI 5).toNatClampNeg (nI 60)) 4 38 := by
  refine MtA.of (by decide) rfl (by decide) ?_
  intro X C hX
  subst hX
  have C : CA E X cX0_init 1 RX0 1 12 4 38 (Cond.code yX0_init cX0_init 1 none) := C
  refine VA.aload_n (pc := 0) C 0 rfl dX0_init_0 ?_
  refine VA.obj (pc := 1) C wO_X0_3 wObjI wObjC (by decide) (by decide) dX0_init_1 ?_
  refine VA.aload_n (pc := 4) C 0 rfl dX0_init_4 ?_
  refine VA.iconst (pc := 5) C (nI 5) (by decide) dX0_init_5 ?_
  refine VA.putI (pc := 6) C clX0 inX0 rfl 1 (by decide) wG_X0_9 tyX0 tyX0_ok nmX0 rfl (tyX0_ok 1 (by decide)) rfl dX0_init_6 ?_
  refine VA.aload_n (pc := 9) C 0 rfl dX0_init_9 ?_
  refine VA.bipush (pc := 10) C (nI 12) (by decide) dX0_init_10 ?_
  refine VA.newI (pc := 12) C 12 wA_int (by decide) (by decide) (by decide) ((Z0.s (Z0.up (n' := 40) hZ (by decide)) (by decide)) _ (by decide)).1 (by decide) (by decide) dX0_init_12 ?_
  refine VA.putR (pc := 14) C clX0 inX0 rfl 4 (by decide) wG_X0_15 tyX0 tyX0_ok nmX0 rfl rfl (tyX0_ok 4 (by decide)) (fun _ => rfl) (fun _ => rfl) (by decide) dX0_init_14 ?_
  refine VA.aload_n (pc := 17) C 0 rfl dX0_init_17 ?_
  refine VA.bipush (pc := 18) C (nI 12) (by decide) dX0_init_18 ?_
  refine VA.newI (pc := 20) C 12 wA_int (by decide) (by decide) (by decide) ((Z0.s (Z0.up (n' := 41) hZ (by decide)) (by decide)) _ (by decide)).1 (by decide) (by decide) dX0_init_20 ?_
  refine VA.putR (pc := 22) C clX0 inX0 rfl 5 (by decide) wG_X0_19 tyX0 tyX0_ok nmX0 rfl rfl (tyX0_ok 5 (by decide)) (fun _ => rfl) (fun _ => rfl) (by decide) dX0_init_22 ?_
  refine VA.aload_n (pc := 25) C 0 rfl dX0_init_25 ?_
  refine VA.bipush (pc := 26) C (nI 6) (by decide) dX0_init_26 ?_
  refine VA.newI (pc := 28) C 6 wA_int (by decide) (by decide) (by decide) ((Z0.s (Z0.up (n' := 42) hZ (by decide)) (by decide)) _ (by decide)).1 (by decide) (by decide) dX0_init_28 ?_
  refine VA.dup (pc := 30) C rfl dX0_init_30 ?_
  refine VA.iconst (pc := 31) C (nI 0) (by decide) dX0_init_31 ?_
  refine VA.iconst (pc := 32) C (nI 1) (by decide) dX0_init_32 ?_
  refine VA.iast (pc := 33) C rfl (inb_in (by decide)) dX0_init_33 ?_
  refine VA.dup (pc := 34) C rfl dX0_init_34 ?_
  refine VA.iconst (pc := 35) C (nI 1) (by decide) dX0_init_35 ?_
  refine VA.iconst (pc := 36) C (nI 2) (by decide) dX0_init_36 ?_
  refine VA.iast (pc := 37) C rfl (inb_in (by decide)) dX0_init_37 ?_
  refine VA.dup (pc := 38) C rfl dX0_init_38 ?_
  refine VA.iconst (pc := 39) C (nI 2) (by decide) dX0_init_39 ?_
  refine VA.iconst (pc := 40) C (nI 4) (by decide) dX0_init_40 ?_
  refine VA.iast (pc := 41) C rfl (inb_in (by decide)) dX0_init_41 ?_
  refine VA.dup (pc := 42) C rfl dX0_init_42 ?_
  refine VA.iconst (pc := 43) C (nI 3) (by decide) dX0_init_43 ?_
  refine VA.bipush (pc := 44) C (nI 8) (by decide) dX0_init_44 ?_
  refine VA.iast (pc := 46) C rfl (inb_in (by decide)) dX0_init_46 ?_
  refine VA.dup (pc := 47) C rfl dX0_init_47 ?_
  refine VA.iconst (pc := 48) C (nI 4) (by decide) dX0_init_48 ?_
  refine VA.bipush (pc := 49) C (nI 20) (by decide) dX0_init_49 ?_
  refine VA.iast (pc := 51) C rfl (inb_in (by decide)) dX0_init_51 ?_
  refine VA.dup (pc := 52) C rfl dX0_init_52 ?_
  refine VA.iconst (pc := 53) C (nI 5) (by decide) dX0_init_53 ?_
  refine VA.bipush (pc := 54) C (nI 60) (by decide) dX0_init_54 ?_
  refine VA.iast (pc := 56) C rfl (inb_in (by decide)) dX0_init_56 ?_
  refine VA.putR (pc := 57) C clX0 inX0 rfl 6 (by decide) wG_X0_22 tyX0 tyX0_ok nmX0 rfl rfl (tyX0_ok 6 (by decide)) (fun _ => rfl) (fun _ => rfl) (by decide) dX0_init_57 ?_
  refine VA.aload_n (pc := 60) C 0 rfl dX0_init_60 ?_
  refine VA.bipush (pc := 61) C (nI 8) (by decide) dX0_init_61 ?_
  refine VA.newI (pc := 63) C 8 wA_int (by decide) (by decide) (by decide) ((Z0.s (Z0.s (Z0.s (Z0.s (Z0.s (Z0.s (Z0.s (Z0.up (n' := 43) hZ (by decide)) (by decide)) (by decide)) (by decide)) (by decide)) (by decide)) (by decide)) (by decide)) _ (by decide)).1 (by decide) (by decide) dX0_init_63 ?_
  refine VA.putR (pc := 65) C clX0 inX0 rfl 7 (by decide) wG_X0_25 tyX0 tyX0_ok nmX0 rfl rfl (tyX0_ok 7 (by decide)) (fun _ => rfl) (fun _ => rfl) (by decide) dX0_init_65 ?_
  exact VA.vret (pc := 68) C rfl rfl (by decide) (by decide) dX0_init_68
set_option maxHeartbeats 4000000 in
set_option maxRecDepth 100000 in
theorem iX8_init_0 (l : Launch) (E : Ev) (M : Mm) (hZ : Z0 M 1) : MtA l E yX8_init cX8_init 1 3 52 0 [.inr (.inl (8, [some (some none), some (some none), some (some none), some (some none), some (some none), some (some none), some (some none), some (some none), some (some none), some (some none)]))] M [.inr (.inl (8, [some (some (some 1)), some (some (some 6)), some (some (some 8)), some (some (some 14)), some (some (some 20)), some (some (some 24)), some (some (some 26)), some (some (some 27)), some (some (some 33)), some (some (some 44))])), .inr (.inl (0, [none, none, none, none, some (some (some 2)), some (some (some 3)), some (some (some 4)), some (some (some 5))])), .inl (0, 12), .inl (0, 12), .inl (0, 6), .inl (0, 8), .inr (.inl (4, [some (some (some 7)), none])), .inl (0, 60), .inr (.inl (3, [some (some (some 9)), none, none, none, none, none, none, none])), .inr (.inl (0, [none, none, none, none, some (some (some 10)), some (some (some 11)), some (some (some 12)), some (some (some 13))])), .inl (0, 12), .inl (0, 12), .inl (0, 6), .inl (0, 8), .inr (.inl (2, [none, none, none, none, some (some (some 15)), some (some (some 16)), some (some (some 17)), some (some (some 18)), some (some (some 19))])), .inl (0, 64), .inl (0, 64), .inl (1, 64), .inl (1, 64), .inl (1, 64), .inr (.inl (6, [none, none, none, some (some (some 21)), some (some (some 22)), some (some (some 23))])), .inl (0, 61), .inl (0, 61), .inl (0, 8), .inr (.inl (1, [some (some (some 25)), none, some none])), .inl (1, 13), .inr (.inl (5, [none, none, none])), .inr (.inl (7, [some (some (some 28)), none, none])), .inr (.inl (0, [none, none, none, none, some (some (some 29)), some (some (some 30)), some (some (some 31)), some (some (some 32))])), .inl (0, 12), .inl (0, 12), .inl (0, 6), .inl (0, 8), .inr (.inr [some 34, some 39]), .inr (.inl (0, [none, none, none, none, some (some (some 35)), some (some (some 36)), some (some (some 37)), some (some (some 38))])), .inl (0, 12), .inl (0, 12), .inl (0, 6), .inl (0, 8), .inr (.inl (0, [none, none, none, none, some (some (some 40)), some (some (some 41)), some (some (some 42)), some (some (some 43))])), .inl (0, 12), .inl (0, 12), .inl (0, 6), .inl (0, 8), .inl (2, 2)] (sI (sI (sI (sI (sI (sI (sI (sI (sI (sI (sI (sI (sI (sI (sI (sI (sI (sI (sI (sI (sI (sI (sI (sI (sI (sI (sI (sI (sI (sI (sI (sI (sI (sI (sI M 1 1 (nI 5)) 4 (nI 0).toNatClampNeg (nI 1)) 4 (nI 1).toNatClampNeg (nI 2)) 4 (nI 2).toNatClampNeg (nI 4)) 4 (nI 3).toNatClampNeg (nI 8)) 4 (nI 4).toNatClampNeg (nI 20)) 4 (nI 5).toNatClampNeg (nI 60)) 9 1 (nI 5)) 12 (nI 0).toNatClampNeg (nI 1)) 12 (nI 1).toNatClampNeg (nI 2)) 12 (nI 2).toNatClampNeg (nI 4)) 12 (nI 3).toNatClampNeg (nI 8)) 12 (nI 4).toNatClampNeg (nI 20)) 12 (nI 5).toNatClampNeg (nI 60)) 28 1 (nI 5)) 31 (nI 0).toNatClampNeg (nI 1)) 31 (nI 1).toNatClampNeg (nI 2)) 31 (nI 2).toNatClampNeg (nI 4)) 31 (nI 3).toNatClampNeg (nI 8)) 31 (nI 4).toNatClampNeg (nI 20)) 31 (nI 5).toNatClampNeg (nI 60)) 34 1 (nI 5)) 37 (nI 0).toNatClampNeg (nI 1)) 37 (nI 1).toNatClampNeg (nI 2)) 37 (nI 2).toNatClampNeg (nI 4)) 37 (nI 3).toNatClampNeg (nI 8)) 37 (nI 4).toNatClampNeg (nI 20)) 37 (nI 5).toNatClampNeg (nI 60)) 39 1 (nI 5)) 42 (nI 0).toNatClampNeg (nI 1)) 42 (nI 1).toNatClampNeg (nI 2)) 42 (nI 2).toNatClampNeg (nI 4)) 42 (nI 3).toNatClampNeg (nI 8)) 42 (nI 4).toNatClampNeg (nI 20)) 42 (nI 5).toNatClampNeg (nI 60)) 44 791 := by
  refine MtA.of (by decide) rfl (by decide) ?_
  intro X C hX
  subst hX
  have C : CA E X cX8_init 1 RX8 3 52 44 791 (Cond.code yX8_init cX8_init 1 none) := C
  refine VA.aload_n (pc := 0) C 0 rfl dX8_init_0 ?_
  refine VA.obj (pc := 1) C wO_X8_3 wObjI wObjC (by decide) (by decide) dX8_init_1 ?_
  refine VA.aload_n (pc := 4) C 0 rfl dX8_init_4 ?_
  refine VA.newO (pc := 5) (fl := [none, none, none, none, some (some none), some (some none), some (some none), some (some none)]) C clX0 inX0 tyX0 tyX0_ok wK_X8_9 wN_X0 wT_X0 df_X0 (by decide) ((Z0.up (n' := 1) hZ (by decide)) _ (by decide)).1 ((Z0.up (n' := 1) hZ (by decide)) _ (by decide)).2 (by decide) (by decide) dX8_init_5 ?_
  refine VA.dup (pc := 8) C rfl dX8_init_8 ?_
  refine VA.callI (pc := 9) C (iX0_init_1 X.2.1 E _ (Z0.up (n' := 2) hZ (by decide))) wD_X0_init wE_X0_init wT_X0 wI_X8_11 rfl (by decide +kernel) ⟨by decide, by decide⟩ (Nat.le_of_ble_eq_true rfl) (by decide) (by decide) dX8_init_9 ?_
  refine VA.putR (pc := 12) C clX8 inX8 rfl 0 (by decide) wG_X8_12 tyX8 tyX8_ok nmX8 rfl rfl (tyX8_ok 0 (by decide)) (fun _ => rfl) (fun _ => rfl) (by decide) dX8_init_12 ?_
  refine VA.aload_n (pc := 15) C 0 rfl dX8_init_15 ?_
  refine VA.newO (pc := 16) (fl := [some (some none), none]) C clX4 inX4 tyX4 tyX4_ok wK_X8_16 wN_X4 wT_X4 df_X4 (by decide) ((Z0.s (Z0.s (Z0.s (Z0.s (Z0.s (Z0.s (Z0.s (Z0.up (n' := 6) hZ (by decide)) (by decide)) (by decide)) (by decide)) (by decide)) (by decide)) (by decide)) (by decide)) _ (by decide)).1 ((Z0.s (Z0.s (Z0.s (Z0.s (Z0.s (Z0.s (Z0.s (Z0.up (n' := 6) hZ (by decide)) (by decide)) (by decide)) (by decide)) (by decide)) (by decide)) (by decide)) (by decide)) _ (by decide)).2 (by decide) (by decide) dX8_init_16 ?_
  refine VA.dup (pc := 19) C rfl dX8_init_19 ?_
  refine VA.callI (pc := 20) C (iX4_init_6 X.2.1 E _ (Z0.s (Z0.s (Z0.s (Z0.s (Z0.s (Z0.s (Z0.s (Z0.up (n' := 7) hZ (by decide)) (by decide)) (by decide)) (by decide)) (by decide)) (by decide)) (by decide)) (by decide))) wD_X4_init wE_X4_init wT_X4 wI_X8_18 rfl (by decide +kernel) ⟨by decide, by decide⟩ (Nat.le_of_ble_eq_true rfl) (by decide) (by decide) dX8_init_20 ?_
  refine VA.putR (pc := 23) C clX8 inX8 rfl 1 (by decide) wG_X8_19 tyX8 tyX8_ok nmX8 rfl rfl (tyX8_ok 1 (by decide)) (fun _ => rfl) (fun _ => rfl) (by decide) dX8_init_23 ?_
  refine VA.aload_n (pc := 26) C 0 rfl dX8_init_26 ?_
  refine VA.newO (pc := 27) (fl := [some (some none), none, none, none, none, none, none, none]) C clX3 inX3 tyX3 tyX3_ok wK_X8_23 wN_X3 wT_X3 df_X3 (by decide) ((Z0.s (Z0.s (Z0.s (Z0.s (Z0.s (Z0.s (Z0.s (Z0.up (n' := 8) hZ (by decide)) (by decide)) (by decide)) (by decide)) (by decide)) (by decide)) (by decide)) (by decide)) _ (by decide)).1 ((Z0.s (Z0.s (Z0.s (Z0.s (Z0.s (Z0.s (Z0.s (Z0.up (n' := 8) hZ (by decide)) (by decide)) (by decide)) (by decide)) (by decide)) (by decide)) (by decide)) (by decide)) _ (by decide)).2 (by decide) (by decide) dX8_init_27 ?_
  refine VA.dup (pc := 30) C rfl dX8_init_30 ?_
  refine VA.callI (pc := 31) C (iX3_init_8 X.2.1 E _ (Z0.s (Z0.s (Z0.s (Z0.s (Z0.s (Z0.s (Z0.s (Z0.up (n' := 9) hZ (by decide)) (by decide)) (by decide)) (by decide)) (by decide)) (by decide)) (by decide)) (by decide))) wD_X3_init wE_X3_init wT_X3 wI_X8_25 rfl (by decide +kernel) ⟨by decide, by decide⟩ (Nat.le_of_ble_eq_true rfl) (by decide) (by decide) dX8_init_31 ?_
  refine VA.putR (pc := 34) C clX8 inX8 rfl 2 (by decide) wG_X8_26 tyX8 tyX8_ok nmX8 rfl rfl (tyX8_ok 2 (by decide)) (fun _ => rfl) (fun _ => rfl) (by decide) dX8_init_34 ?_
  refine VA.aload_n (pc := 37) C 0 rfl dX8_init_37 ?_
  refine VA.newO (pc := 38) (fl := [none, none, none, none, some (some none), some (some none), some (some none), some (some none), some (some none)]) C clX2 inX2 tyX2 tyX2_ok wK_X8_30 wN_X2 wT_X2 df_X2 (by decide) ((Z0.s (Z0.s (Z0.s (Z0.s (Z0.s (Z0.s (Z0.s (Z0.s (Z0.s (Z0.s (Z0.s (Z0.s (Z0.s (Z0.s (Z0.up (n' := 14) hZ (by decide)) (by decide)) (by decide)) (by decide)) (by decide)) (by decide)) (by decide)) (by decide)) (by decide)) (by decide)) (by decide)) (by decide)) (by decide)) (by decide)) (by decide)) _ (by decide)).1 ((Z0.s (Z0.s (Z0.s (Z0.s (Z0.s (Z0.s (Z0.s (Z0.s (Z0.s (Z0.s (Z0.s (Z0.s (Z0.s (Z0.s (Z0.up (n' := 14) hZ (by decide)) (by decide)) (by decide)) (by decide)) (by decide)) (by decide)) (by decide)) (by decide)) (by decide)) (by decide)) (by decide)) (by decide)) (by decide)) (by decide)) (by decide)) _ (by decide)).2 (by decide) (by decide) dX8_init_38 ?_
  refine VA.dup (pc := 41) C rfl dX8_init_41 ?_
  refine VA.callI (pc := 42) C (iX2_init_14 X.2.1 E _ (Z0.s (Z0.s (Z0.s (Z0.s (Z0.s (Z0.s (Z0.s (Z0.s (Z0.s (Z0.s (Z0.s (Z0.s (Z0.s (Z0.s (Z0.up (n' := 15) hZ (by decide)) (by decide)) (by decide)) (by decide)) (by decide)) (by decide)) (by decide)) (by decide)) (by decide)) (by decide)) (by decide)) (by decide)) (by decide)) (by decide)) (by decide))) wD_X2_init wE_X2_init wT_X2 wI_X8_32 rfl (by decide +kernel) ⟨by decide, by decide⟩ (Nat.le_of_ble_eq_true rfl) (by decide) (by decide) dX8_init_42 ?_
  refine VA.putR (pc := 45) C clX8 inX8 rfl 3 (by decide) wG_X8_33 tyX8 tyX8_ok nmX8 rfl rfl (tyX8_ok 3 (by decide)) (fun _ => rfl) (fun _ => rfl) (by decide) dX8_init_45 ?_
  refine VA.aload_n (pc := 48) C 0 rfl dX8_init_48 ?_
  refine VA.newO (pc := 49) (fl := [none, none, none, some (some none), some (some none), some (some none)]) C clX6 inX6 tyX6 tyX6_ok wK_X8_37 wN_X6 wT_X6 df_X6 (by decide) ((Z0.s (Z0.s (Z0.s (Z0.s (Z0.s (Z0.s (Z0.s (Z0.s (Z0.s (Z0.s (Z0.s (Z0.s (Z0.s (Z0.s (Z0.up (n' := 20) hZ (by decide)) (by decide)) (by decide)) (by decide)) (by decide)) (by decide)) (by decide)) (by decide)) (by decide)) (by decide)) (by decide)) (by decide)) (by decide)) (by decide)) (by decide)) _ (by decide)).1 ((Z0.s (Z0.s (Z0.s (Z0.s (Z0.s (Z0.s (Z0.s (Z0.s (Z0.s (Z0.s (Z0.s (Z0.s (Z0.s (Z0.s (Z0.up (n' := 20) hZ (by decide)) (by decide)) (by decide)) (by decide)) (by decide)) (by decide)) (by decide)) (by decide)) (by decide)) (by decide)) (by decide)) (by decide)) (by decide)) (by decide)) (by decide)) _ (by decide)).2 (by decide) (by decide) dX8_init_49 ?_
  refine VA.dup (pc := 52) C rfl dX8_init_52 ?_
  refine VA.callI (pc := 53) C (iX6_init_20 X.2.1 E _ (Z0.s (Z0.s (Z0.s (Z0.s (Z0.s (Z0.s (Z0.s (Z0.s (Z0.s (Z0.s (Z0.s (Z0.s (Z0.s (Z0.s (Z0.up (n' := 21) hZ (by decide)) (by decide)) (by decide)) (by decide)) (by decide)) (by decide)) (by decide)) (by decide)) (by decide)) (by decide)) (by decide)) (by decide)) (by decide)) (by decide)) (by decide))) wD_X6_init wE_X6_init wT_X6 wI_X8_39 rfl (by decide +kernel) ⟨by decide, by decide⟩ (Nat.le_of_ble_eq_true rfl) (by decide) (by decide) dX8_init_53 ?_
  refine VA.putR (pc := 56) C clX8 inX8 rfl 4 (by decide) wG_X8_40 tyX8 tyX8_ok nmX8 rfl rfl (tyX8_ok 4 (by decide)) (fun _ => rfl) (fun _ => rfl) (by decide) dX8_init_56 ?_
  refine VA.aload_n (pc := 59) C 0 rfl dX8_init_59 ?_
  refine VA.newO (pc := 60) (fl := [some (some none), none, some none]) C clX1 inX1 tyX1 tyX1_ok wK_X8_44 wN_X1 wT_X1 df_X1 (by decide) ((Z0.s (Z0.s (Z0.s (Z0.s (Z0.s (Z0.s (Z0.s (Z0.s (Z0.s (Z0.s (Z0.s (Z0.s (Z0.s (Z0.s (Z0.up (n' := 24) hZ (by decide)) (by decide)) (by decide)) (by decide)) (by decide)) (by decide)) (by decide)) (by decide)) (by decide)) (by decide)) (by decide)) (by decide)) (by decide)) (by decide)) (by decide)) _ (by decide)).1 ((Z0.s (Z0.s (Z0.s (Z0.s (Z0.s (Z0.s (Z0.s (Z0.s (Z0.s (Z0.s (Z0.s (Z0.s (Z0.s (Z0.s (Z0.up (n' := 24) hZ (by decide)) (by decide)) (by decide)) (by decide)) (by decide)) (by decide)) (by decide)) (by decide)) (by decide)) (by decide)) (by decide)) (by decide)) (by decide)) (by decide)) (by decide)) _ (by decide)).2 (by decide) (by decide) dX8_init_60 ?_
  refine VA.dup (pc := 63) C rfl dX8_init_63 ?_
  refine VA.callI (pc := 64) C (iX1_init_24 X.2.1 E _ (Z0.s (Z0.s (Z0.s (Z0.s (Z0.s (Z0.s (Z0.s (Z0.s (Z0.s (Z0.s (Z0.s (Z0.s (Z0.s (Z0.s (Z0.up (n' := 25) hZ (by decide)) (by decide)) (by decide)) (by decide)) (by decide)) (by decide)) (by decide)) (by decide)) (by decide)) (by decide)) (by decide)) (by decide)) (by decide)) (by decide)) (by decide))) wD_X1_init wE_X1_init wT_X1 wI_X8_46 rfl (by decide +kernel) ⟨by decide, by decide⟩ (Nat.le_of_ble_eq_true rfl) (by decide) (by decide) dX8_init_64 ?_
  refine VA.putR (pc := 67) C clX8 inX8 rfl 5 (by decide) wG_X8_47 tyX8 tyX8_ok nmX8 rfl rfl (tyX8_ok 5 (by decide)) (fun _ => rfl) (fun _ => rfl) (by decide) dX8_init_67 ?_
  refine VA.aload_n (pc := 70) C 0 rfl dX8_init_70 ?_
  refine VA.newO (pc := 71) (fl := [none, none, none]) C clX5 inX5 tyX5 tyX5_ok wK_X8_51 wN_X5 wT_X5 df_X5 (by decide) ((Z0.s (Z0.s (Z0.s (Z0.s (Z0.s (Z0.s (Z0.s (Z0.s (Z0.s (Z0.s (Z0.s (Z0.s (Z0.s (Z0.s (Z0.up (n' := 26) hZ (by decide)) (by decide)) (by decide)) (by decide)) (by decide)) (by decide)) (by decide)) (by decide)) (by decide)) (by decide)) (by decide)) (by decide)) (by decide)) (by decide)) (by decide)) _ (by decide)).1 ((Z0.s (Z0.s (Z0.s (Z0.s (Z0.s (Z0.s (Z0.s (Z0.s (Z0.s (Z0.s (Z0.s (Z0.s (Z0.s (Z0.s (Z0.up (n' := 26) hZ (by decide)) (by decide)) (by decide)) (by decide)) (by decide)) (by decide)) (by decide)) (by decide)) (by decide)) (by decide)) (by decide)) (by decide)) (by decide)) (by decide)) (by decide)) _ (by decide)).2 (by decide) (by decide) dX8_init_71 ?_
  refine VA.dup (pc := 74) C rfl dX8_init_74 ?_
  refine VA.callI (pc := 75) C (iX5_init_26 X.2.1 E _ (Z0.s (Z0.s (Z0.s (Z0.s (Z0.s (Z0.s (Z0.s (Z0.s (Z0.s (Z0.s (Z0.s (Z0.s (Z0.s (Z0.s (Z0.up (n' := 27) hZ (by decide)) (by decide)) (by decide)) (by decide)) (by decide)) (by decide)) (by decide)) (by decide)) (by decide)) (by decide)) (by decide)) (by decide)) (by decide)) (by decide)) (by decide))) wD_X5_init wE_X5_init wT_X5 wI_X8_53 rfl (by decide +kernel) ⟨by decide, by decide⟩ (Nat.le_of_ble_eq_true rfl) (by decide) (by decide) dX8_init_75 ?_
  refine VA.putR (pc := 78) C clX8 inX8 rfl 6 (by decide) wG_X8_54 tyX8 tyX8_ok nmX8 rfl rfl (tyX8_ok 6 (by decide)) (fun _ => rfl) (fun _ => rfl) (by decide) dX8_init_78 ?_
  refine VA.aload_n (pc := 81) C 0 rfl dX8_init_81 ?_
  refine VA.newO (pc := 82) (fl := [some (some none), none, none]) C clX7 inX7 tyX7 tyX7_ok wK_X8_58 wN_X7 wT_X7 df_X7 (by decide) ((Z0.s (Z0.s (Z0.s (Z0.s (Z0.s (Z0.s (Z0.s (Z0.s (Z0.s (Z0.s (Z0.s (Z0.s (Z0.s (Z0.s (Z0.up (n' := 27) hZ (by decide)) (by decide)) (by decide)) (by decide)) (by decide)) (by decide)) (by decide)) (by decide)) (by decide)) (by decide)) (by decide)) (by decide)) (by decide)) (by decide)) (by decide)) _ (by decide)).1 ((Z0.s (Z0.s (Z0.s (Z0.s (Z0.s (Z0.s (Z0.s (Z0.s (Z0.s (Z0.s (Z0.s (Z0.s (Z0.s (Z0.s (Z0.up (n' := 27) hZ (by decide)) (by decide)) (by decide)) (by decide)) (by decide)) (by decide)) (by decide)) (by decide)) (by decide)) (by decide)) (by decide)) (by decide)) (by decide)) (by decide)) (by decide)) _ (by decide)).2 (by decide) (by decide) dX8_init_82 ?_
  refine VA.dup (pc := 85) C rfl dX8_init_85 ?_
  refine VA.callI (pc := 86) C (iX7_init_27 X.2.1 E _ (Z0.s (Z0.s (Z0.s (Z0.s (Z0.s (Z0.s (Z0.s (Z0.s (Z0.s (Z0.s (Z0.s (Z0.s (Z0.s (Z0.s (Z0.up (n' := 28) hZ (by decide)) (by decide)) (by decide)) (by decide)) (by decide)) (by decide)) (by decide)) (by decide)) (by decide)) (by decide)) (by decide)) (by decide)) (by decide)) (by decide)) (by decide))) wD_X7_init wE_X7_init wT_X7 wI_X8_60 rfl (by decide +kernel) ⟨by decide, by decide⟩ (Nat.le_of_ble_eq_true rfl) (by decide) (by decide) dX8_init_86 ?_
  refine VA.putR (pc := 89) C clX8 inX8 rfl 7 (by decide) wG_X8_61 tyX8 tyX8_ok nmX8 rfl rfl (tyX8_ok 7 (by decide)) (fun _ => rfl) (fun _ => rfl) (by decide) dX8_init_89 ?_
  refine VA.aload_n (pc := 92) C 0 rfl dX8_init_92 ?_
  refine VA.iconst (pc := 93) C (nI 2) (by decide) dX8_init_93 ?_
  refine VA.newR (pc := 94) C 2 wK_X8_9 (by decide) (by decide) (by decide) (by decide) (by decide) dX8_init_94 ?_
  refine VA.dup (pc := 97) C rfl dX8_init_97 ?_
  refine VA.iconst (pc := 98) C (nI 0) (by decide) dX8_init_98 ?_
  refine VA.newO (pc := 99) (fl := [none, none, none, none, some (some none), some (some none), some (some none), some (some none)]) C clX0 inX0 tyX0 tyX0_ok wK_X8_9 wN_X0 wT_X0 df_X0 (by decide) ((Z0.s (Z0.s (Z0.s (Z0.s (Z0.s (Z0.s (Z0.s (Z0.s (Z0.s (Z0.s (Z0.s (Z0.s (Z0.s (Z0.s (Z0.s (Z0.s (Z0.s (Z0.s (Z0.s (Z0.s (Z0.s (Z0.up (n' := 34) hZ (by decide)) (by decide)) (by decide)) (by decide)) (by decide)) (by decide)) (by decide)) (by decide)) (by decide)) (by decide)) (by decide)) (by decide)) (by decide)) (by decide)) (by decide)) (by decide)) (by decide)) (by decide)) (by decide)) (by decide)) (by decide)) (by decide)) _ (by decide)).1 ((Z0.s (Z0.s (Z0.s (Z0.s (Z0.s (Z0.s (Z0.s (Z0.s (Z0.s (Z0.s (Z0.s (Z0.s (Z0.s (Z0.s (Z0.s (Z0.s (Z0.s (Z0.s (Z0.s (Z0.s (Z0.s (Z0.up (n' := 34) hZ (by decide)) (by decide)) (by decide)) (by decide)) (by decide)) (by decide)) (by decide)) (by decide)) (by decide)) (by decide)) (by decide)) (by decide)) (by decide)) (by decide)) (by decide)) (by decide)) (by decide)) (by decide)) (by decide)) (by decide)) (by decide)) (by decide)) _ (by decide)).2 (by decide) (by decide) dX8_init_99 ?_
  refine VA.dup (pc := 102) C rfl dX8_init_102 ?_
  refine VA.callI (pc := 103) C (iX0_init_34 X.2.1 E _ (Z0.s (Z0.s (Z0.s (Z0.s (Z0.s (Z0.s (Z0.s (Z0.s (Z0.s (Z0.s (Z0.s (Z0.s (Z0.s (Z0.s (Z0.s (Z0.s (Z0.s (Z0.s (Z0.s (Z0.s (Z0.s (Z0.up (n' := 35) hZ (by decide)) (by decide)) (by decide)) (by decide)) (by decide)) (by decide)) (by decide)) (by decide)) (by decide)) (by decide)) (by decide)) (by decide)) (by decide)) (by decide)) (by decide)) (by decide)) (by decide)) (by decide)) (by decide)) (by decide)) (by decide)) (by decide))) wD_X0_init wE_X0_init wT_X0 wI_X8_11 rfl (by decide +kernel) ⟨by decide, by decide⟩ (Nat.le_of_ble_eq_true rfl) (by decide) (by decide) dX8_init_103 ?_
  refine VA.aast (pc := 106) C rfl rfl (inb_in (by decide)) dX8_init_106 ?_
  refine VA.dup (pc := 107) C rfl dX8_init_107 ?_
  refine VA.iconst (pc := 108) C (nI 1) (by decide) dX8_init_108 ?_
  refine VA.newO (pc := 109) (fl := [none, none, none, none, some (some none), some (some none), some (some none), some (some none)]) C clX0 inX0 tyX0 tyX0_ok wK_X8_9 wN_X0 wT_X0 df_X0 (by decide) ((Z0.s (Z0.s (Z0.s (Z0.s (Z0.s (Z0.s (Z0.s (Z0.s (Z0.s (Z0.s (Z0.s (Z0.s (Z0.s (Z0.s (Z0.s (Z0.s (Z0.s (Z0.s (Z0.s (Z0.s (Z0.s (Z0.s (Z0.s (Z0.s (Z0.s (Z0.s (Z0.s (Z0.s (Z0.up (n' := 39) hZ (by decide)) (by decide)) (by decide)) (by decide)) (by decide)) (by decide)) (by decide)) (by decide)) (by decide)) (by decide)) (by decide)) (by decide)) (by decide)) (by decide)) (by decide)) (by decide)) (by decide)) (by decide)) (by decide)) (by decide)) (by decide)) (by decide)) (by decide)) (by decide)) (by decide)) (by decide)) (by decide)) (by decide)) (by decide)) _ (by decide)).1 ((Z0.s (Z0.s (Z0.s (Z0.s (Z0.s (Z0.s (Z0.s (Z0.s (Z0.s (Z0.s (Z0.s (Z0.s (Z0.s (Z0.s (Z0.s (Z0.s (Z0.s (Z0.s (Z0.s (Z0.s (Z0.s (Z0.s (Z0.s (Z0.s (Z0.s (Z0.s (Z0.s (Z0.s (Z0.up (n' := 39) hZ (by decide)) (by decide)) (by decide)) (by decide)) (by decide)) (by decide)) (by decide)) (by decide)) (by decide)) (by decide)) (by decide)) (by decide)) (by decide)) (by decide)) (by decide)) (by decide)) (by decide)) (by decide)) (by decide)) (by decide)) (by decide)) (by decide)) (by decide)) (by decide)) (by decide)) (by decide)) (by decide)) (by decide)) (by decide)) _ (by decide)).2 (by decide) (by decide) dX8_init_109 ?_
  refine VA.dup (pc := 112) C rfl dX8_init_112 ?_
  refine VA.callI (pc := 113) C (iX0_init_39 X.2.1 E _ (Z0.s (Z0.s (Z0.s (Z0.s (Z0.s (Z0.s (Z0.s (Z0.s (Z0.s (Z0.s (Z0.s (Z0.s (Z0.s (Z0.s (Z0.s (Z0.s (Z0.s (Z0.s (Z0.s (Z0.s (Z0.s (Z0.s (Z0.s (Z0.s (Z0.s (Z0.s (Z0.s (Z0.s (Z0.up (n' := 40) hZ (by decide)) (by decide)) (by decide)) (by decide)) (by decide)) (by decide)) (by decide)) (by decide)) (by decide)) (by decide)) (by decide)) (by decide)) (by decide)) (by decide)) (by decide)) (by decide)) (by decide)) (by decide)) (by decide)) (by decide)) (by decide)) (by decide)) (by decide)) (by decide)) (by decide)) (by decide)) (by decide)) (by decide)) (by decide))) wD_X0_init wE_X0_init wT_X0 wI_X8_11 rfl (by decide +kernel) ⟨by decide, by decide⟩ (Nat.le_of_ble_eq_true rfl) (by decide) (by decide) dX8_init_113 ?_
  refine VA.aast (pc := 116) C rfl rfl (inb_in (by decide)) dX8_init_116 ?_
  refine VA.putR (pc := 117) C clX8 inX8 rfl 8 (by decide) wG_X8_65 tyX8 tyX8_ok nmX8 rfl rfl (tyX8_ok 8 (by decide)) (fun _ => rfl) (fun _ => rfl) (by decide) dX8_init_117 ?_
  refine VA.aload_n (pc := 120) C 0 rfl dX8_init_120 ?_
  refine VA.iconst (pc := 121) C (nI 2) (by decide) dX8_init_121 ?_
  refine VA.newZ (pc := 122) C 2 wA_boolean (by decide) (by decide) (by decide) ((Z0.s (Z0.s (Z0.s (Z0.s (Z0.s (Z0.s (Z0.s (Z0.s (Z0.s (Z0.s (Z0.s (Z0.s (Z0.s (Z0.s (Z0.s (Z0.s (Z0.s (Z0.s (Z0.s (Z0.s (Z0.s (Z0.s (Z0.s (Z0.s (Z0.s (Z0.s (Z0.s (Z0.s (Z0.s (Z0.s (Z0.s (Z0.s (Z0.s (Z0.s (Z0.s (Z0.up (n' := 44) hZ (by decide)) (by decide)) (by decide)) (by decide)) (by decide)) (by decide)) (by decide)) (by decide)) (by decide)) (by decide)) (by decide)) (by decide)) (by decide)) (by decide)) (by decide)) (by decide)) (by decide)) (by decide)) (by decide)) (by decide)) (by decide)) (by decide)) (by decide)) (by decide)) (by decide)) (by decide)) (by decide)) (by decide)) (by decide)) (by decide)) (by decide)) (by decide)) (by decide)) (by decide)) (by decide)) (by decide)) _ (by decide)).1 (by decide) (by decide) dX8_init_122 ?_
  refine VA.putR (pc := 124) C clX8 inX8 rfl 9 (by decide) wG_X8_69 tyX8 tyX8_ok nmX8 rfl rfl (tyX8_ok 9 (by decide)) (fun _ => rfl) (fun _ => rfl) (by decide) dX8_init_124 ?_
  exact VA.vret (pc := 127) C rfl rfl (by decide) (by decide) dX8_init_127
set_option maxHeartbeats 4000000 in
set_option maxRecDepth 100000 in
theorem iX9_init_0 (l : Launch) (E : Ev) (M : Mm) (hZ : Z0 M 1) : MtA l E yX9_init cX9_init 1 1 12 0 [.inr (.inl (9, [none, none, some (some none), some (some none), some (some none), some (some none), some (some none), some (some none), none, some (some none), none, some (some none), some (some none), some (some none), none, none, none, some (some none), some (some none), none, none, none, none, none, none, some (some none), some (some none), none, some (some none), some (some none), some (some none), none, none]))] M [.inr (.inl (9, [none, none, some (some (some 1)), some (some (some 2)), some (some (some 3)), some (some (some 4)), some (some (some 5)), some (some (some 6)), none, some (some (some 7)), none, some (some (some 8)), some (some (some 9)), some (some (some 10)), none, none, none, some (some (some 11)), some (some (some 12)), none, none, none, none, none, none, some (some (some 13)), some (some (some 14)), none, some (some (some 15)), some (some (some 16)), some (some (some 17)), none, none])), .inl (0, 12), .inl (0, 12), .inl (0, 6), .inl (0, 8), .inl (0, 8), .inl (0, 8), .inl (0, 60), .inl (0, 60), .inl (0, 60), .inl (0, 60), .inl (0, 25), .inl (0, 25), .inl (0, 4096), .inl (0, 73), .inl (1, 13), .inl (0, 140), .inl (2, 2)] (sI (sI (sI (sI (sI (sI (sI M 0 1 (nI 5)) 3 (nI 0).toNatClampNeg (nI 1)) 3 (nI 1).toNatClampNeg (nI 2)) 3 (nI 2).toNatClampNeg (nI 4)) 3 (nI 3).toNatClampNeg (nI 8)) 3 (nI 4).toNatClampNeg (nI 20)) 3 (nI 5).toNatClampNeg (nI 60)) 17 4668 := by
  refine MtA.of (by decide) rfl (by decide) ?_
  intro X C hX
  subst hX
  have C : CA E X cX9_init 1 RX9 1 12 17 4668 (Cond.code yX9_init cX9_init 1 none) := C
  refine VA.aload_n (pc := 0) C 0 rfl dX9_init_0 ?_
  refine VA.obj (pc := 1) C wO_X9_1 wObjI wObjC (by decide) (by decide) dX9_init_1 ?_
  refine VA.aload_n (pc := 4) C 0 rfl dX9_init_4 ?_
  refine VA.bipush (pc := 5) C (nI 12) (by decide) dX9_init_5 ?_
  refine VA.newI (pc := 7) C 12 wA_int (by decide) (by decide) (by decide) ((Z0.up (n' := 1) hZ (by decide)) _ (by decide)).1 (by decide) (by decide) dX9_init_7 ?_
  refine VA.putR (pc := 9) C clX9 inX9 rfl 2 (by decide) wG_X9_7 tyX9 tyX9_ok nmX9 rfl rfl (tyX9_ok 2 (by decide)) (fun _ => rfl) (fun _ => rfl) (by decide) dX9_init_9 ?_
  refine VA.aload_n (pc := 12) C 0 rfl dX9_init_12 ?_
  refine VA.bipush (pc := 13) C (nI 12) (by decide) dX9_init_13 ?_
  refine VA.newI (pc := 15) C 12 wA_int (by decide) (by decide) (by decide) ((Z0.up (n' := 2) hZ (by decide)) _ (by decide)).1 (by decide) (by decide) dX9_init_15 ?_
  refine VA.putR (pc := 17) C clX9 inX9 rfl 3 (by decide) wG_X9_13 tyX9 tyX9_ok nmX9 rfl rfl (tyX9_ok 3 (by decide)) (fun _ => rfl) (fun _ => rfl) (by decide) dX9_init_17 ?_
  refine VA.aload_n (pc := 20) C 0 rfl dX9_init_20 ?_
  refine VA.bipush (pc := 21) C (nI 6) (by decide) dX9_init_21 ?_
  refine VA.newI (pc := 23) C 6 wA_int (by decide) (by decide) (by decide) ((Z0.up (n' := 3) hZ (by decide)) _ (by decide)).1 (by decide) (by decide) dX9_init_23 ?_
  refine VA.putR (pc := 25) C clX9 inX9 rfl 4 (by decide) wG_X9_16 tyX9 tyX9_ok nmX9 rfl rfl (tyX9_ok 4 (by decide)) (fun _ => rfl) (fun _ => rfl) (by decide) dX9_init_25 ?_
  refine VA.aload_n (pc := 28) C 0 rfl dX9_init_28 ?_
  refine VA.bipush (pc := 29) C (nI 8) (by decide) dX9_init_29 ?_
  refine VA.newI (pc := 31) C 8 wA_int (by decide) (by decide) (by decide) ((Z0.up (n' := 4) hZ (by decide)) _ (by decide)).1 (by decide) (by decide) dX9_init_31 ?_
  refine VA.putR (pc := 33) C clX9 inX9 rfl 5 (by decide) wG_X9_19 tyX9 tyX9_ok nmX9 rfl rfl (tyX9_ok 5 (by decide)) (fun _ => rfl) (fun _ => rfl) (by decide) dX9_init_33 ?_
  refine VA.aload_n (pc := 36) C 0 rfl dX9_init_36 ?_
  refine VA.bipush (pc := 37) C (nI 8) (by decide) dX9_init_37 ?_
  refine VA.newI (pc := 39) C 8 wA_int (by decide) (by decide) (by decide) ((Z0.up (n' := 5) hZ (by decide)) _ (by decide)).1 (by decide) (by decide) dX9_init_39 ?_
  refine VA.putR (pc := 41) C clX9 inX9 rfl 6 (by decide) wG_X9_22 tyX9 tyX9_ok nmX9 rfl rfl (tyX9_ok 6 (by decide)) (fun _ => rfl) (fun _ => rfl) (by decide) dX9_init_41 ?_
  refine VA.aload_n (pc := 44) C 0 rfl dX9_init_44 ?_
  refine VA.bipush (pc := 45) C (nI 8) (by decide) dX9_init_45 ?_
  refine VA.newI (pc := 47) C 8 wA_int (by decide) (by decide) (by decide) ((Z0.up (n' := 6) hZ (by decide)) _ (by decide)).1 (by decide) (by decide) dX9_init_47 ?_
  refine VA.putR (pc := 49) C clX9 inX9 rfl 7 (by decide) wG_X9_25 tyX9 tyX9_ok nmX9 rfl rfl (tyX9_ok 7 (by decide)) (fun _ => rfl) (fun _ => rfl) (by decide) dX9_init_49 ?_
  refine VA.aload_n (pc := 52) C 0 rfl dX9_init_52 ?_
  refine VA.bipush (pc := 53) C (nI 60) (by decide) dX9_init_53 ?_
  refine VA.newI (pc := 55) C 60 wA_int (by decide) (by decide) (by decide) ((Z0.up (n' := 7) hZ (by decide)) _ (by decide)).1 (by decide) (by decide) dX9_init_55 ?_
  refine VA.putR (pc := 57) C clX9 inX9 rfl 9 (by decide) wG_X9_28 tyX9 tyX9_ok nmX9 rfl rfl (tyX9_ok 9 (by decide)) (fun _ => rfl) (fun _ => rfl) (by decide) dX9_init_57 ?_
  refine VA.aload_n (pc := 60) C 0 rfl dX9_init_60 ?_
  refine VA.bipush (pc := 61) C (nI 60) (by decide) dX9_init_61 ?_
  refine VA.newI (pc := 63) C 60 wA_int (by decide) (by decide) (by decide) ((Z0.up (n' := 8) hZ (by decide)) _ (by decide)).1 (by decide) (by decide) dX9_init_63 ?_
  refine VA.putR (pc := 65) C clX9 inX9 rfl 11 (by decide) wG_X9_31 tyX9 tyX9_ok nmX9 rfl rfl (tyX9_ok 11 (by decide)) (fun _ => rfl) (fun _ => rfl) (by decide) dX9_init_65 ?_
  refine VA.aload_n (pc := 68) C 0 rfl dX9_init_68 ?_
  refine VA.bipush (pc := 69) C (nI 60) (by decide) dX9_init_69 ?_
  refine VA.newI (pc := 71) C 60 wA_int (by decide) (by decide) (by decide) ((Z0.up (n' := 9) hZ (by decide)) _ (by decide)).1 (by decide) (by decide) dX9_init_71 ?_
  refine VA.putR (pc := 73) C clX9 inX9 rfl 12 (by decide) wG_X9_34 tyX9 tyX9_ok nmX9 rfl rfl (tyX9_ok 12 (by decide)) (fun _ => rfl) (fun _ => rfl) (by decide) dX9_init_73 ?_
  refine VA.aload_n (pc := 76) C 0 rfl dX9_init_76 ?_
  refine VA.bipush (pc := 77) C (nI 60) (by decide) dX9_init_77 ?_
  refine VA.newI (pc := 79) C 60 wA_int (by decide) (by decide) (by decide) ((Z0.up (n' := 10) hZ (by decide)) _ (by decide)).1 (by decide) (by decide) dX9_init_79 ?_
  refine VA.putR (pc := 81) C clX9 inX9 rfl 13 (by decide) wG_X9_37 tyX9 tyX9_ok nmX9 rfl rfl (tyX9_ok 13 (by decide)) (fun _ => rfl) (fun _ => rfl) (by decide) dX9_init_81 ?_
  refine VA.aload_n (pc := 84) C 0 rfl dX9_init_84 ?_
  refine VA.bipush (pc := 85) C (nI 25) (by decide) dX9_init_85 ?_
  refine VA.newI (pc := 87) C 25 wA_int (by decide) (by decide) (by decide) ((Z0.up (n' := 11) hZ (by decide)) _ (by decide)).1 (by decide) (by decide) dX9_init_87 ?_
  refine VA.putR (pc := 89) C clX9 inX9 rfl 17 (by decide) wG_X9_40 tyX9 tyX9_ok nmX9 rfl rfl (tyX9_ok 17 (by decide)) (fun _ => rfl) (fun _ => rfl) (by decide) dX9_init_89 ?_
  refine VA.aload_n (pc := 92) C 0 rfl dX9_init_92 ?_
  refine VA.bipush (pc := 93) C (nI 25) (by decide) dX9_init_93 ?_
  refine VA.newI (pc := 95) C 25 wA_int (by decide) (by decide) (by decide) ((Z0.up (n' := 12) hZ (by decide)) _ (by decide)).1 (by decide) (by decide) dX9_init_95 ?_
  refine VA.putR (pc := 97) C clX9 inX9 rfl 18 (by decide) wG_X9_43 tyX9 tyX9_ok nmX9 rfl rfl (tyX9_ok 18 (by decide)) (fun _ => rfl) (fun _ => rfl) (by decide) dX9_init_97 ?_
  refine VA.aload_n (pc := 100) C 0 rfl dX9_init_100 ?_
  refine VA.sipush (pc := 101) C (nI 4096) (by decide) dX9_init_101 ?_
  refine VA.newI (pc := 104) C 4096 wA_int (by decide) (by decide) (by decide) ((Z0.up (n' := 13) hZ (by decide)) _ (by decide)).1 (by decide) (by decide) dX9_init_104 ?_
  refine VA.putR (pc := 106) C clX9 inX9 rfl 25 (by decide) wG_X9_46 tyX9 tyX9_ok nmX9 rfl rfl (tyX9_ok 25 (by decide)) (fun _ => rfl) (fun _ => rfl) (by decide) dX9_init_106 ?_
  refine VA.aload_n (pc := 109) C 0 rfl dX9_init_109 ?_
  refine VA.bipush (pc := 110) C (nI 73) (by decide) dX9_init_110 ?_
  refine VA.newI (pc := 112) C 73 wA_int (by decide) (by decide) (by decide) ((Z0.up (n' := 14) hZ (by decide)) _ (by decide)).1 (by decide) (by decide) dX9_init_112 ?_
  refine VA.putR (pc := 114) C clX9 inX9 rfl 26 (by decide) wG_X9_49 tyX9 tyX9_ok nmX9 rfl rfl (tyX9_ok 26 (by decide)) (fun _ => rfl) (fun _ => rfl) (by decide) dX9_init_114 ?_
  refine VA.aload_n (pc := 117) C 0 rfl dX9_init_117 ?_
  refine VA.bipush (pc := 118) C (nI 13) (by decide) dX9_init_118 ?_
  refine VA.newJ (pc := 120) C 13 wA_long (by decide) (by decide) (by decide) ((Z0.up (n' := 15) hZ (by decide)) _ (by decide)).2 (by decide) (by decide) dX9_init_120 ?_
  refine VA.putR (pc := 122) C clX9 inX9 rfl 28 (by decide) wG_X9_52 tyX9 tyX9_ok nmX9 rfl rfl (tyX9_ok 28 (by decide)) (fun _ => rfl) (fun _ => rfl) (by decide) dX9_init_122 ?_
  refine VA.aload_n (pc := 125) C 0 rfl dX9_init_125 ?_
  refine VA.sipush (pc := 126) C (nI 140) (by decide) dX9_init_126 ?_
  refine VA.newI (pc := 129) C 140 wA_int (by decide) (by decide) (by decide) ((Z0.up (n' := 16) hZ (by decide)) _ (by decide)).1 (by decide) (by decide) dX9_init_129 ?_
  refine VA.putR (pc := 131) C clX9 inX9 rfl 29 (by decide) wG_X9_56 tyX9 tyX9_ok nmX9 rfl rfl (tyX9_ok 29 (by decide)) (fun _ => rfl) (fun _ => rfl) (by decide) dX9_init_131 ?_
  refine VA.aload_n (pc := 134) C 0 rfl dX9_init_134 ?_
  refine VA.iconst (pc := 135) C (nI 2) (by decide) dX9_init_135 ?_
  refine VA.newZ (pc := 136) C 2 wA_boolean (by decide) (by decide) (by decide) ((Z0.up (n' := 17) hZ (by decide)) _ (by decide)).1 (by decide) (by decide) dX9_init_136 ?_
  refine VA.putR (pc := 138) C clX9 inX9 rfl 30 (by decide) wG_X9_59 tyX9 tyX9_ok nmX9 rfl rfl (tyX9_ok 30 (by decide)) (fun _ => rfl) (fun _ => rfl) (by decide) dX9_init_138 ?_
  refine VA.aload_n (pc := 141) C 0 rfl dX9_init_141 ?_
  refine VA.iconst (pc := 142) C (nI 5) (by decide) dX9_init_142 ?_
  refine VA.putI (pc := 143) C clX9 inX9 rfl 1 (by decide) wG_X9_63 tyX9 tyX9_ok nmX9 rfl (tyX9_ok 1 (by decide)) rfl dX9_init_143 ?_
  refine VA.aload_n (pc := 146) C 0 rfl dX9_init_146 ?_
  refine VA.getR (pc := 147) C clX9 inX9 rfl 4 (by decide) wG_X9_16 rfl dX9_init_147 ?_
  refine VA.iconst (pc := 150) C (nI 0) (by decide) dX9_init_150 ?_
  refine VA.iconst (pc := 151) C (nI 1) (by decide) dX9_init_151 ?_
  refine VA.iast (pc := 152) C rfl (inb_in (by decide)) dX9_init_152 ?_
  refine VA.aload_n (pc := 153) C 0 rfl dX9_init_153 ?_
  refine VA.getR (pc := 154) C clX9 inX9 rfl 4 (by decide) wG_X9_16 rfl dX9_init_154 ?_
  refine VA.iconst (pc := 157) C (nI 1) (by decide) dX9_init_157 ?_
  refine VA.iconst (pc := 158) C (nI 2) (by decide) dX9_init_158 ?_
  refine VA.iast (pc := 159) C rfl (inb_in (by decide)) dX9_init_159 ?_
  refine VA.aload_n (pc := 160) C 0 rfl dX9_init_160 ?_
  refine VA.getR (pc := 161) C clX9 inX9 rfl 4 (by decide) wG_X9_16 rfl dX9_init_161 ?_
  refine VA.iconst (pc := 164) C (nI 2) (by decide) dX9_init_164 ?_
  refine VA.iconst (pc := 165) C (nI 4) (by decide) dX9_init_165 ?_
  refine VA.iast (pc := 166) C rfl (inb_in (by decide)) dX9_init_166 ?_
  refine VA.aload_n (pc := 167) C 0 rfl dX9_init_167 ?_
  refine VA.getR (pc := 168) C clX9 inX9 rfl 4 (by decide) wG_X9_16 rfl dX9_init_168 ?_
  refine VA.iconst (pc := 171) C (nI 3) (by decide) dX9_init_171 ?_
  refine VA.bipush (pc := 172) C (nI 8) (by decide) dX9_init_172 ?_
  refine VA.iast (pc := 174) C rfl (inb_in (by decide)) dX9_init_174 ?_
  refine VA.aload_n (pc := 175) C 0 rfl dX9_init_175 ?_
  refine VA.getR (pc := 176) C clX9 inX9 rfl 4 (by decide) wG_X9_16 rfl dX9_init_176 ?_
  refine VA.iconst (pc := 179) C (nI 4) (by decide) dX9_init_179 ?_
  refine VA.bipush (pc := 180) C (nI 20) (by decide) dX9_init_180 ?_
  refine VA.iast (pc := 182) C rfl (inb_in (by decide)) dX9_init_182 ?_
  refine VA.aload_n (pc := 183) C 0 rfl dX9_init_183 ?_
  refine VA.getR (pc := 184) C clX9 inX9 rfl 4 (by decide) wG_X9_16 rfl dX9_init_184 ?_
  refine VA.iconst (pc := 187) C (nI 5) (by decide) dX9_init_187 ?_
  refine VA.bipush (pc := 188) C (nI 60) (by decide) dX9_init_188 ?_
  refine VA.iast (pc := 190) C rfl (inb_in (by decide)) dX9_init_190 ?_
  exact VA.vret (pc := 191) C rfl rfl (by decide) (by decide) dX9_init_191
