theorem clX0 : vwCl[0]? = some (RX0, TX0, 8) := rfl
theorem clX1 : vwCl[1]? = some (RX1, TX1, 3) := rfl
theorem clX2 : vwCl[2]? = some (RX2, TX2, 9) := rfl
theorem clX3 : vwCl[3]? = some (RX3, TX3, 8) := rfl
theorem clX4 : vwCl[4]? = some (RX4, TX4, 2) := rfl
theorem clX5 : vwCl[5]? = some (RX5, TX5, 3) := rfl
theorem clX6 : vwCl[6]? = some (RX6, TX6, 6) := rfl
theorem clX7 : vwCl[7]? = some (RX7, TX7, 3) := rfl
theorem clX8 : vwCl[8]? = some (RX8, TX8, 10) := rfl
theorem clX9 : vwCl[9]? = some (RX9, TX9, 33) := rfl
theorem wC_J6_265 : Cond.constant RJ6 265 (nI 1431655765) ∈ lw_tbl := List.mem_of_getElem? (i := 340) (by decide +kernel)
theorem wC_J6_266 : Cond.constant RJ6 266 (nI 858993459) ∈ lw_tbl := List.mem_of_getElem? (i := 341) (by decide +kernel)
theorem wC_J6_267 : Cond.constant RJ6 267 (nI 252645135) ∈ lw_tbl := List.mem_of_getElem? (i := 342) (by decide +kernel)
theorem wC_X2_49 : Cond.constant RX2 49 (nI 1048576) ∈ lw_tbl := List.mem_of_getElem? (i := 518) (by decide +kernel)
theorem wC_X7_29 : Cond.constant RX7 29 (nI 65537) ∈ lw_tbl := List.mem_of_getElem? (i := 696) (by decide +kernel)
theorem wF_X0_15 : Cond.fieldLink RX0 15 "ParoleLedger$Books" "ranks" "[I" ∈ lw_tbl := List.mem_of_getElem? (i := 91) (by decide +kernel)
theorem wF_X0_19 : Cond.fieldLink RX0 19 "ParoleLedger$Books" "states" "[I" ∈ lw_tbl := List.mem_of_getElem? (i := 94) (by decide +kernel)
theorem wF_X0_22 : Cond.fieldLink RX0 22 "ParoleLedger$Books" "rates" "[I" ∈ lw_tbl := List.mem_of_getElem? (i := 96) (by decide +kernel)
theorem wF_X0_25 : Cond.fieldLink RX0 25 "ParoleLedger$Books" "sightCrowds" "[I" ∈ lw_tbl := List.mem_of_getElem? (i := 99) (by decide +kernel)
theorem wF_X0_28 : Cond.fieldLink RX0 28 "ParoleLedger$Books" "present" "I" ∈ lw_tbl := List.mem_of_getElem? (i := 82) (by decide +kernel)
theorem wF_X0_31 : Cond.fieldLink RX0 31 "ParoleLedger$Books" "sights" "I" ∈ lw_tbl := List.mem_of_getElem? (i := 87) (by decide +kernel)
theorem wF_X0_34 : Cond.fieldLink RX0 34 "ParoleLedger$Books" "evenSights" "I" ∈ lw_tbl := List.mem_of_getElem? (i := 89) (by decide +kernel)
theorem wF_X0_9 : Cond.fieldLink RX0 9 "ParoleLedger$Books" "trust" "I" ∈ lw_tbl := List.mem_of_getElem? (i := 84) (by decide +kernel)
theorem wF_X1_21 : Cond.fieldLink RX1 21 "ParoleLedger$Breaks" "officers" "I" ∈ lw_tbl := List.mem_of_getElem? (i := 244) (by decide +kernel)
theorem wF_X1_25 : Cond.fieldLink RX1 25 "ParoleLedger$Breaks" "allWays" "J" ∈ lw_tbl := List.mem_of_getElem? (i := 245) (by decide +kernel)
theorem wF_X1_9 : Cond.fieldLink RX1 9 "ParoleLedger$Breaks" "ways" "[J" ∈ lw_tbl := List.mem_of_getElem? (i := 243) (by decide +kernel)
theorem wF_X2_110 : Cond.fieldLink RX2 110 "ParoleLedger$Exchanges" "LACKING" "[J" ∈ lw_tbl := List.mem_of_getElem? (i := 567) (by decide +kernel)
theorem wF_X2_15 : Cond.fieldLink RX2 15 "ParoleLedger$Exchanges" "theirsWorth" "[I" ∈ lw_tbl := List.mem_of_getElem? (i := 185) (by decide +kernel)
theorem wF_X2_18 : Cond.fieldLink RX2 18 "ParoleLedger$Exchanges" "evenWith" "[J" ∈ lw_tbl := List.mem_of_getElem? (i := 186) (by decide +kernel)
theorem wF_X2_22 : Cond.fieldLink RX2 22 "ParoleLedger$Exchanges" "room" "[J" ∈ lw_tbl := List.mem_of_getElem? (i := 187) (by decide +kernel)
theorem wF_X2_25 : Cond.fieldLink RX2 25 "ParoleLedger$Exchanges" "nextRoom" "[J" ∈ lw_tbl := List.mem_of_getElem? (i := 188) (by decide +kernel)
theorem wF_X2_32 : Cond.fieldLink RX2 32 "ParoleLedger$Exchanges" "bestOurs" "I" ∈ lw_tbl := List.mem_of_getElem? (i := 178) (by decide +kernel)
theorem wF_X2_42 : Cond.fieldLink RX2 42 "ParoleLedger$Exchanges" "bestTheirs" "I" ∈ lw_tbl := List.mem_of_getElem? (i := 180) (by decide +kernel)
theorem wF_X2_50 : Cond.fieldLink RX2 50 "ParoleLedger$Exchanges" "openOurs" "I" ∈ lw_tbl := List.mem_of_getElem? (i := 182) (by decide +kernel)
theorem wF_X2_63 : Cond.fieldLink RX2 63 "ParoleLedger$Exchanges" "openTheirs" "I" ∈ lw_tbl := List.mem_of_getElem? (i := 183) (by decide +kernel)
theorem wF_X2_9 : Cond.fieldLink RX2 9 "ParoleLedger$Exchanges" "oursWorth" "[I" ∈ lw_tbl := List.mem_of_getElem? (i := 184) (by decide +kernel)
theorem wF_X3_12 : Cond.fieldLink RX3 12 "ParoleLedger$Months" "books" "LParoleLedger$Books;" ∈ lw_tbl := List.mem_of_getElem? (i := 143) (by decide +kernel)
theorem wF_X3_22 : Cond.fieldLink RX3 22 "ParoleLedger$Months" "acts" "I" ∈ lw_tbl := List.mem_of_getElem? (i := 145) (by decide +kernel)
theorem wF_X3_26 : Cond.fieldLink RX3 26 "ParoleLedger$Months" "exchanged" "I" ∈ lw_tbl := List.mem_of_getElem? (i := 147) (by decide +kernel)
theorem wF_X3_29 : Cond.fieldLink RX3 29 "ParoleLedger$Months" "why" "I" ∈ lw_tbl := List.mem_of_getElem? (i := 149) (by decide +kernel)
theorem wF_X3_32 : Cond.fieldLink RX3 32 "ParoleLedger$Months" "named" "I" ∈ lw_tbl := List.mem_of_getElem? (i := 151) (by decide +kernel)
theorem wF_X3_35 : Cond.fieldLink RX3 35 "ParoleLedger$Months" "inLots" "Z" ∈ lw_tbl := List.mem_of_getElem? (i := 152) (by decide +kernel)
theorem wF_X3_39 : Cond.fieldLink RX3 39 "ParoleLedger$Pad" "count" "I" ∈ lw_tbl := List.mem_of_getElem? (i := 128) (by decide +kernel)
theorem wF_X3_44 : Cond.fieldLink RX3 44 "ParoleLedger$Pad" "signs" "[I" ∈ lw_tbl := List.mem_of_getElem? (i := 126) (by decide +kernel)
theorem wF_X3_52 : Cond.fieldLink RX3 52 "ParoleLedger$Months" "crowd" "I" ∈ lw_tbl := List.mem_of_getElem? (i := 153) (by decide +kernel)
theorem wF_X3_55 : Cond.fieldLink RX3 55 "ParoleLedger$Months" "toldTwice" "Z" ∈ lw_tbl := List.mem_of_getElem? (i := 154) (by decide +kernel)
theorem wF_X4_15 : Cond.fieldLink RX4 15 "ParoleLedger$Pad" "count" "I" ∈ lw_tbl := List.mem_of_getElem? (i := 127) (by decide +kernel)
theorem wF_X4_9 : Cond.fieldLink RX4 9 "ParoleLedger$Pad" "signs" "[I" ∈ lw_tbl := List.mem_of_getElem? (i := 125) (by decide +kernel)
theorem wF_X5_15 : Cond.fieldLink RX5 15 "ParoleLedger$Rests" "fewest" "I" ∈ lw_tbl := List.mem_of_getElem? (i := 261) (by decide +kernel)
theorem wF_X5_18 : Cond.fieldLink RX5 18 "ParoleLedger$Rests" "most" "I" ∈ lw_tbl := List.mem_of_getElem? (i := 263) (by decide +kernel)
theorem wF_X5_9 : Cond.fieldLink RX5 9 "ParoleLedger$Rests" "sets" "I" ∈ lw_tbl := List.mem_of_getElem? (i := 259) (by decide +kernel)
theorem wF_X6_11 : Cond.fieldLink RX6 11 "ParoleLedger$Worlds" "who" "[I" ∈ lw_tbl := List.mem_of_getElem? (i := 221) (by decide +kernel)
theorem wF_X6_15 : Cond.fieldLink RX6 15 "ParoleLedger$Worlds" "had" "[I" ∈ lw_tbl := List.mem_of_getElem? (i := 222) (by decide +kernel)
theorem wF_X6_18 : Cond.fieldLink RX6 18 "ParoleLedger$Worlds" "leads" "[I" ∈ lw_tbl := List.mem_of_getElem? (i := 223) (by decide +kernel)
theorem wF_X6_21 : Cond.fieldLink RX6 21 "ParoleLedger$Books" "sights" "I" ∈ lw_tbl := List.mem_of_getElem? (i := 86) (by decide +kernel)
theorem wF_X6_27 : Cond.fieldLink RX6 27 "ParoleLedger$Books" "sightCrowds" "[I" ∈ lw_tbl := List.mem_of_getElem? (i := 100) (by decide +kernel)
theorem wF_X6_34 : Cond.fieldLink RX6 34 "ParoleLedger$Worlds" "count" "I" ∈ lw_tbl := List.mem_of_getElem? (i := 215) (by decide +kernel)
theorem wF_X6_45 : Cond.fieldLink RX6 45 "ParoleLedger$Books" "ranks" "[I" ∈ lw_tbl := List.mem_of_getElem? (i := 92) (by decide +kernel)
theorem wF_X6_48 : Cond.fieldLink RX6 48 "ParoleLedger$Books" "rates" "[I" ∈ lw_tbl := List.mem_of_getElem? (i := 97) (by decide +kernel)
theorem wF_X6_54 : Cond.fieldLink RX6 54 "ParoleLedger$Books" "evenSights" "I" ∈ lw_tbl := List.mem_of_getElem? (i := 90) (by decide +kernel)
theorem wF_X6_57 : Cond.fieldLink RX6 57 "ParoleLedger$Worlds" "bestPair" "I" ∈ lw_tbl := List.mem_of_getElem? (i := 217) (by decide +kernel)
theorem wF_X6_60 : Cond.fieldLink RX6 60 "ParoleLedger$Worlds" "bestLeft" "I" ∈ lw_tbl := List.mem_of_getElem? (i := 219) (by decide +kernel)
theorem wF_X7_12 : Cond.fieldLink RX7 12 "ParoleLedger$Year" "books" "LParoleLedger$Books;" ∈ lw_tbl := List.mem_of_getElem? (i := 280) (by decide +kernel)
theorem wF_X7_22 : Cond.fieldLink RX7 22 "ParoleLedger$Year" "exchanged" "I" ∈ lw_tbl := List.mem_of_getElem? (i := 282) (by decide +kernel)
theorem wF_X7_26 : Cond.fieldLink RX7 26 "ParoleLedger$Year" "brokenWords" "I" ∈ lw_tbl := List.mem_of_getElem? (i := 284) (by decide +kernel)
theorem wF_X8_102 : Cond.fieldLink RX8 102 "ParoleLedger$Pad" "count" "I" ∈ lw_tbl := List.mem_of_getElem? (i := 129) (by decide +kernel)
theorem wF_X8_12 : Cond.fieldLink RX8 12 "ParoleLedger" "now" "LParoleLedger$Books;" ∈ lw_tbl := List.mem_of_getElem? (i := 294) (by decide +kernel)
theorem wF_X8_122 : Cond.fieldLink RX8 122 "ParoleLedger$Months" "exchanged" "I" ∈ lw_tbl := List.mem_of_getElem? (i := 148) (by decide +kernel)
theorem wF_X8_125 : Cond.fieldLink RX8 125 "ParoleLedger$Months" "books" "LParoleLedger$Books;" ∈ lw_tbl := List.mem_of_getElem? (i := 144) (by decide +kernel)
theorem wF_X8_128 : Cond.fieldLink RX8 128 "ParoleLedger$Books" "states" "[I" ∈ lw_tbl := List.mem_of_getElem? (i := 95) (by decide +kernel)
theorem wF_X8_131 : Cond.fieldLink RX8 131 "ParoleLedger$Books" "ranks" "[I" ∈ lw_tbl := List.mem_of_getElem? (i := 93) (by decide +kernel)
theorem wF_X8_149 : Cond.fieldLink RX8 149 "ParoleLedger$Months" "acts" "I" ∈ lw_tbl := List.mem_of_getElem? (i := 146) (by decide +kernel)
theorem wF_X8_155 : Cond.fieldLink RX8 155 "ParoleLedger$Exchanges" "bestOurs" "I" ∈ lw_tbl := List.mem_of_getElem? (i := 179) (by decide +kernel)
theorem wF_X8_166 : Cond.fieldLink RX8 166 "ParoleLedger$Exchanges" "bestTheirs" "I" ∈ lw_tbl := List.mem_of_getElem? (i := 181) (by decide +kernel)
theorem wF_X8_184 : Cond.fieldLink RX8 184 "ParoleLedger$Books" "sights" "I" ∈ lw_tbl := List.mem_of_getElem? (i := 88) (by decide +kernel)
theorem wF_X8_19 : Cond.fieldLink RX8 19 "ParoleLedger" "pad" "LParoleLedger$Pad;" ∈ lw_tbl := List.mem_of_getElem? (i := 295) (by decide +kernel)
theorem wF_X8_194 : Cond.fieldLink RX8 194 "ParoleLedger$Worlds" "count" "I" ∈ lw_tbl := List.mem_of_getElem? (i := 216) (by decide +kernel)
theorem wF_X8_204 : Cond.fieldLink RX8 204 "ParoleLedger$Worlds" "bestPair" "I" ∈ lw_tbl := List.mem_of_getElem? (i := 218) (by decide +kernel)
theorem wF_X8_207 : Cond.fieldLink RX8 207 "ParoleLedger$Worlds" "bestLeft" "I" ∈ lw_tbl := List.mem_of_getElem? (i := 220) (by decide +kernel)
theorem wF_X8_233 : Cond.fieldLink RX8 233 "ParoleLedger$Rests" "sets" "I" ∈ lw_tbl := List.mem_of_getElem? (i := 260) (by decide +kernel)
theorem wF_X8_236 : Cond.fieldLink RX8 236 "ParoleLedger$Rests" "fewest" "I" ∈ lw_tbl := List.mem_of_getElem? (i := 262) (by decide +kernel)
theorem wF_X8_239 : Cond.fieldLink RX8 239 "ParoleLedger$Rests" "most" "I" ∈ lw_tbl := List.mem_of_getElem? (i := 264) (by decide +kernel)
theorem wF_X8_246 : Cond.fieldLink RX8 246 "ParoleLedger$Year" "exchanged" "I" ∈ lw_tbl := List.mem_of_getElem? (i := 283) (by decide +kernel)
theorem wF_X8_247 : Cond.fieldLink RX8 247 "ParoleLedger$Year" "brokenWords" "I" ∈ lw_tbl := List.mem_of_getElem? (i := 285) (by decide +kernel)
theorem wF_X8_250 : Cond.fieldLink RX8 250 "ParoleLedger$Year" "books" "LParoleLedger$Books;" ∈ lw_tbl := List.mem_of_getElem? (i := 281) (by decide +kernel)
theorem wF_X8_258 : Cond.fieldLink RX8 258 "ParoleLedger$Months" "why" "I" ∈ lw_tbl := List.mem_of_getElem? (i := 150) (by decide +kernel)
theorem wF_X8_26 : Cond.fieldLink RX8 26 "ParoleLedger" "months" "LParoleLedger$Months;" ∈ lw_tbl := List.mem_of_getElem? (i := 296) (by decide +kernel)
theorem wF_X8_33 : Cond.fieldLink RX8 33 "ParoleLedger" "exchanges" "LParoleLedger$Exchanges;" ∈ lw_tbl := List.mem_of_getElem? (i := 297) (by decide +kernel)
theorem wF_X8_40 : Cond.fieldLink RX8 40 "ParoleLedger" "worlds" "LParoleLedger$Worlds;" ∈ lw_tbl := List.mem_of_getElem? (i := 298) (by decide +kernel)
theorem wF_X8_47 : Cond.fieldLink RX8 47 "ParoleLedger" "breaks" "LParoleLedger$Breaks;" ∈ lw_tbl := List.mem_of_getElem? (i := 299) (by decide +kernel)
theorem wF_X8_54 : Cond.fieldLink RX8 54 "ParoleLedger" "resting" "LParoleLedger$Rests;" ∈ lw_tbl := List.mem_of_getElem? (i := 300) (by decide +kernel)
theorem wF_X8_61 : Cond.fieldLink RX8 61 "ParoleLedger" "course" "LParoleLedger$Year;" ∈ lw_tbl := List.mem_of_getElem? (i := 301) (by decide +kernel)
theorem wF_X8_65 : Cond.fieldLink RX8 65 "ParoleLedger" "images" "[LParoleLedger$Books;" ∈ lw_tbl := List.mem_of_getElem? (i := 302) (by decide +kernel)
theorem wF_X8_69 : Cond.fieldLink RX8 69 "ParoleLedger" "kept" "[Z" ∈ lw_tbl := List.mem_of_getElem? (i := 303) (by decide +kernel)
theorem wF_X8_81 : Cond.fieldLink RX8 81 "ParoleLedger$Books" "present" "I" ∈ lw_tbl := List.mem_of_getElem? (i := 83) (by decide +kernel)
theorem wF_X8_95 : Cond.fieldLink RX8 95 "ParoleLedger$Books" "rates" "[I" ∈ lw_tbl := List.mem_of_getElem? (i := 98) (by decide +kernel)
theorem wF_X8_99 : Cond.fieldLink RX8 99 "ParoleLedger$Books" "trust" "I" ∈ lw_tbl := List.mem_of_getElem? (i := 85) (by decide +kernel)
theorem wF_X9_108 : Cond.fieldLink RX9 108 "ParoleLedgerModel" "acts" "I" ∈ lw_tbl := List.mem_of_getElem? (i := 749) (by decide +kernel)
theorem wF_X9_13 : Cond.fieldLink RX9 13 "ParoleLedgerModel" "is" "[I" ∈ lw_tbl := List.mem_of_getElem? (i := 738) (by decide +kernel)
theorem wF_X9_153 : Cond.fieldLink RX9 153 "ParoleLedgerModel" "brokenWords" "I" ∈ lw_tbl := List.mem_of_getElem? (i := 751) (by decide +kernel)
theorem wF_X9_156 : Cond.fieldLink RX9 156 "ParoleLedgerModel" "exchanges" "I" ∈ lw_tbl := List.mem_of_getElem? (i := 750) (by decide +kernel)
theorem wF_X9_16 : Cond.fieldLink RX9 16 "ParoleLedgerModel" "rates" "[I" ∈ lw_tbl := List.mem_of_getElem? (i := 739) (by decide +kernel)
theorem wF_X9_165 : Cond.fieldLink RX9 165 "ParoleLedgerModel" "badAct" "I" ∈ lw_tbl := List.mem_of_getElem? (i := 754) (by decide +kernel)
theorem wF_X9_168 : Cond.fieldLink RX9 168 "ParoleLedgerModel" "badWhy" "I" ∈ lw_tbl := List.mem_of_getElem? (i := 755) (by decide +kernel)
theorem wF_X9_19 : Cond.fieldLink RX9 19 "ParoleLedgerModel" "sightOurs" "[I" ∈ lw_tbl := List.mem_of_getElem? (i := 740) (by decide +kernel)
theorem wF_X9_193 : Cond.fieldLink RX9 193 "ParoleLedgerModel" "oursThen" "I" ∈ lw_tbl := List.mem_of_getElem? (i := 756) (by decide +kernel)
theorem wF_X9_196 : Cond.fieldLink RX9 196 "ParoleLedgerModel" "theirsThen" "I" ∈ lw_tbl := List.mem_of_getElem? (i := 757) (by decide +kernel)
theorem wF_X9_207 : Cond.fieldLink RX9 207 "ParoleLedgerModel" "bestOurs" "I" ∈ lw_tbl := List.mem_of_getElem? (i := 758) (by decide +kernel)
theorem wF_X9_210 : Cond.fieldLink RX9 210 "ParoleLedgerModel" "bestTheirs" "I" ∈ lw_tbl := List.mem_of_getElem? (i := 759) (by decide +kernel)
theorem wF_X9_22 : Cond.fieldLink RX9 22 "ParoleLedgerModel" "sightTheirs" "[I" ∈ lw_tbl := List.mem_of_getElem? (i := 741) (by decide +kernel)
theorem wF_X9_233 : Cond.fieldLink RX9 233 "ParoleLedgerModel" "sights" "I" ∈ lw_tbl := List.mem_of_getElem? (i := 743) (by decide +kernel)
theorem wF_X9_243 : Cond.fieldLink RX9 243 "ParoleLedgerModel" "worlds" "I" ∈ lw_tbl := List.mem_of_getElem? (i := 762) (by decide +kernel)
theorem wF_X9_25 : Cond.fieldLink RX9 25 "ParoleLedgerModel" "sightEven" "[I" ∈ lw_tbl := List.mem_of_getElem? (i := 742) (by decide +kernel)
theorem wF_X9_276 : Cond.fieldLink RX9 276 "ParoleLedgerModel" "isWriting" "Z" ∈ lw_tbl := List.mem_of_getElem? (i := 767) (by decide +kernel)
theorem wF_X9_28 : Cond.fieldLink RX9 28 "ParoleLedgerModel" "pad" "[I" ∈ lw_tbl := List.mem_of_getElem? (i := 744) (by decide +kernel)
theorem wF_X9_280 : Cond.fieldLink RX9 280 "ParoleLedgerModel" "keptAt" "I" ∈ lw_tbl := List.mem_of_getElem? (i := 766) (by decide +kernel)
theorem wF_X9_31 : Cond.fieldLink RX9 31 "ParoleLedgerModel" "act" "[I" ∈ lw_tbl := List.mem_of_getElem? (i := 746) (by decide +kernel)
theorem wF_X9_34 : Cond.fieldLink RX9 34 "ParoleLedgerModel" "lot" "[I" ∈ lw_tbl := List.mem_of_getElem? (i := 747) (by decide +kernel)
theorem wF_X9_37 : Cond.fieldLink RX9 37 "ParoleLedgerModel" "twice" "[I" ∈ lw_tbl := List.mem_of_getElem? (i := 748) (by decide +kernel)
theorem wF_X9_40 : Cond.fieldLink RX9 40 "ParoleLedgerModel" "had" "[I" ∈ lw_tbl := List.mem_of_getElem? (i := 752) (by decide +kernel)
theorem wF_X9_43 : Cond.fieldLink RX9 43 "ParoleLedgerModel" "leaves" "[I" ∈ lw_tbl := List.mem_of_getElem? (i := 753) (by decide +kernel)
theorem wF_X9_46 : Cond.fieldLink RX9 46 "ParoleLedgerModel" "evens" "[I" ∈ lw_tbl := List.mem_of_getElem? (i := 760) (by decide +kernel)
theorem wF_X9_49 : Cond.fieldLink RX9 49 "ParoleLedgerModel" "worldAt" "[I" ∈ lw_tbl := List.mem_of_getElem? (i := 761) (by decide +kernel)
theorem wF_X9_52 : Cond.fieldLink RX9 52 "ParoleLedgerModel" "parts" "[J" ∈ lw_tbl := List.mem_of_getElem? (i := 763) (by decide +kernel)
theorem wF_X9_56 : Cond.fieldLink RX9 56 "ParoleLedgerModel" "kept" "[I" ∈ lw_tbl := List.mem_of_getElem? (i := 764) (by decide +kernel)
theorem wF_X9_59 : Cond.fieldLink RX9 59 "ParoleLedgerModel" "isKept" "[Z" ∈ lw_tbl := List.mem_of_getElem? (i := 765) (by decide +kernel)
theorem wF_X9_63 : Cond.fieldLink RX9 63 "ParoleLedgerModel" "trusted" "I" ∈ lw_tbl := List.mem_of_getElem? (i := 736) (by decide +kernel)
theorem wF_X9_7 : Cond.fieldLink RX9 7 "ParoleLedgerModel" "ranks" "[I" ∈ lw_tbl := List.mem_of_getElem? (i := 737) (by decide +kernel)
theorem wF_X9_73 : Cond.fieldLink RX9 73 "ParoleLedgerModel" "officers" "I" ∈ lw_tbl := List.mem_of_getElem? (i := 735) (by decide +kernel)
theorem wF_X9_97 : Cond.fieldLink RX9 97 "ParoleLedgerModel" "padMany" "I" ∈ lw_tbl := List.mem_of_getElem? (i := 745) (by decide +kernel)
theorem wL_X1_35 : Cond.constantLong RX1 35 (lN 10) ∈ lw_tbl := List.mem_of_getElem? (i := 662) (by decide +kernel)
theorem wL_X2_85 : Cond.constantLong RX2 85 (-1 : Int64) ∈ lw_tbl := List.mem_of_getElem? (i := 556) (by decide +kernel)
theorem wL_X8_210 : Cond.constantLong RX8 210 (-1000000000000000002 : Int64) ∈ lw_tbl := List.mem_of_getElem? (i := 655) (by decide +kernel)
theorem wL_X9_100 : Cond.constantLong RX9 100 (lN 65) ∈ lw_tbl := List.mem_of_getElem? (i := 889) (by decide +kernel)
theorem wL_X9_102 : Cond.constantLong RX9 102 (lN 70) ∈ lw_tbl := List.mem_of_getElem? (i := 890) (by decide +kernel)
theorem wL_X9_104 : Cond.constantLong RX9 104 (lN 97) ∈ lw_tbl := List.mem_of_getElem? (i := 894) (by decide +kernel)
theorem wL_X9_106 : Cond.constantLong RX9 106 (lN 102) ∈ lw_tbl := List.mem_of_getElem? (i := 895) (by decide +kernel)
theorem wL_X9_202 : Cond.constantLong RX9 202 (lN 2) ∈ lw_tbl := List.mem_of_getElem? (i := 912) (by decide +kernel)
theorem wL_X9_231 : Cond.constantLong RX9 231 (lN 63) ∈ lw_tbl := List.mem_of_getElem? (i := 1037) (by decide +kernel)
theorem wL_X9_255 : Cond.constantLong RX9 255 (lN 10) ∈ lw_tbl := List.mem_of_getElem? (i := 1078) (by decide +kernel)
theorem wL_X9_257 : Cond.constantLong RX9 257 (-1 : Int64) ∈ lw_tbl := List.mem_of_getElem? (i := 1079) (by decide +kernel)
theorem wL_X9_259 : Cond.constantLong RX9 259 (-1000000000000000002 : Int64) ∈ lw_tbl := List.mem_of_getElem? (i := 1080) (by decide +kernel)
theorem wL_X9_268 : Cond.constantLong RX9 268 (lN 9999) ∈ lw_tbl := List.mem_of_getElem? (i := 1096) (by decide +kernel)
theorem wL_X9_270 : Cond.constantLong RX9 270 (lN 75) ∈ lw_tbl := List.mem_of_getElem? (i := 1097) (by decide +kernel)
theorem wL_X9_272 : Cond.constantLong RX9 272 (lN 74) ∈ lw_tbl := List.mem_of_getElem? (i := 1098) (by decide +kernel)
theorem wL_X9_274 : Cond.constantLong RX9 274 (lN 65537) ∈ lw_tbl := List.mem_of_getElem? (i := 1099) (by decide +kernel)
theorem wL_X9_289 : Cond.constantLong RX9 289 (lN 40) ∈ lw_tbl := List.mem_of_getElem? (i := 1120) (by decide +kernel)
theorem wL_X9_291 : Cond.constantLong RX9 291 (lN 51) ∈ lw_tbl := List.mem_of_getElem? (i := 1121) (by decide +kernel)
theorem wL_X9_293 : Cond.constantLong RX9 293 (lN 20) ∈ lw_tbl := List.mem_of_getElem? (i := 1122) (by decide +kernel)
theorem wL_X9_295 : Cond.constantLong RX9 295 (lN 31) ∈ lw_tbl := List.mem_of_getElem? (i := 1123) (by decide +kernel)
theorem wL_X9_297 : Cond.constantLong RX9 297 (lN 15) ∈ lw_tbl := List.mem_of_getElem? (i := 1124) (by decide +kernel)
theorem wL_X9_67 : Cond.constantLong RX9 67 (lN 11) ∈ lw_tbl := List.mem_of_getElem? (i := 839) (by decide +kernel)
theorem wL_X9_76 : Cond.constantLong RX9 76 (lN 5) ∈ lw_tbl := List.mem_of_getElem? (i := 846) (by decide +kernel)
theorem wL_X9_89 : Cond.constantLong RX9 89 (lN 99) ∈ lw_tbl := List.mem_of_getElem? (i := 862) (by decide +kernel)
theorem wL_X9_91 : Cond.constantLong RX9 91 (lN 9) ∈ lw_tbl := List.mem_of_getElem? (i := 867) (by decide +kernel)
theorem wL_X9_93 : Cond.constantLong RX9 93 (lN 33) ∈ lw_tbl := List.mem_of_getElem? (i := 872) (by decide +kernel)
theorem wL_X9_95 : Cond.constantLong RX9 95 (lN 126) ∈ lw_tbl := List.mem_of_getElem? (i := 873) (by decide +kernel)
theorem wM_X0_43 : Cond.methodLink RX0 43 yX0_crowdIn ∈ lw_tbl := List.mem_of_getElem? (i := 420) (by decide +kernel)
theorem wM_X0_47 : Cond.methodLink RX0 47 yX0_worth ∈ lw_tbl := List.mem_of_getElem? (i := 428) (by decide +kernel)
theorem wM_X0_50 : Cond.methodLink RX0 50 yX0_isThere ∈ lw_tbl := List.mem_of_getElem? (i := 453) (by decide +kernel)
theorem wM_X0_54 : Cond.methodLink RX0 54 yX0_statesFor ∈ lw_tbl := List.mem_of_getElem? (i := 454) (by decide +kernel)
theorem wM_X0_57 : Cond.methodLink RX0 57 yX0_lead ∈ lw_tbl := List.mem_of_getElem? (i := 424) (by decide +kernel)
theorem wM_X0_60 : Cond.methodLink RX0 60 Lib.Math.max.name ∈ lw_tbl := List.mem_of_getElem? (i := 461) (by decide +kernel)
theorem wM_X0_66 : Cond.methodLink RX0 66 Lib.Math.min.name ∈ lw_tbl := List.mem_of_getElem? (i := 436) (by decide +kernel)
theorem wM_X1_15 : Cond.methodLink RX1 15 Lib.Math.min.name ∈ lw_tbl := List.mem_of_getElem? (i := 660) (by decide +kernel)
theorem wM_X1_29 : Cond.methodLink RX1 29 yJ7_fill_d0a16 ∈ lw_tbl := List.mem_of_getElem? (i := 661) (by decide +kernel)
theorem wM_X1_37 : Cond.methodLink RX1 37 Lib.Math.max.name ∈ lw_tbl := List.mem_of_getElem? (i := 667) (by decide +kernel)
theorem wM_X1_40 : Cond.methodLink RX1 40 yX1_commonDivisor ∈ lw_tbl := List.mem_of_getElem? (i := 676) (by decide +kernel)
theorem wM_X2_100 : Cond.methodLink RX2 100 yX2_withGreaterLots ∈ lw_tbl := List.mem_of_getElem? (i := 564) (by decide +kernel)
theorem wM_X2_28 : Cond.methodLink RX2 28 yX2_find ∈ lw_tbl := List.mem_of_getElem? (i := 502) (by decide +kernel)
theorem wM_X2_36 : Cond.methodLink RX2 36 yJ6_bitCount_0f7a4 ∈ lw_tbl := List.mem_of_getElem? (i := 526) (by decide +kernel)
theorem wM_X2_45 : Cond.methodLink RX2 45 yX2_weighLots ∈ lw_tbl := List.mem_of_getElem? (i := 506) (by decide +kernel)
theorem wM_X2_53 : Cond.methodLink RX2 53 yX2_bestWith ∈ lw_tbl := List.mem_of_getElem? (i := 519) (by decide +kernel)
theorem wM_X2_57 : Cond.methodLink RX2 57 Lib.Math.min.name ∈ lw_tbl := List.mem_of_getElem? (i := 527) (by decide +kernel)
theorem wM_X2_66 : Cond.methodLink RX2 66 yX2_order ∈ lw_tbl := List.mem_of_getElem? (i := 523) (by decide +kernel)
theorem wM_X2_70 : Cond.methodLink RX2 70 yX0_lotIn ∈ lw_tbl := List.mem_of_getElem? (i := 510) (by decide +kernel)
theorem wM_X2_75 : Cond.methodLink RX2 75 yX2_sumLots ∈ lw_tbl := List.mem_of_getElem? (i := 514) (by decide +kernel)
theorem wM_X2_79 : Cond.methodLink RX2 79 yX0_worth ∈ lw_tbl := List.mem_of_getElem? (i := 517) (by decide +kernel)
theorem wM_X2_82 : Cond.methodLink RX2 82 yX2_markEven ∈ lw_tbl := List.mem_of_getElem? (i := 548) (by decide +kernel)
theorem wM_X2_87 : Cond.methodLink RX2 87 yJ7_fill_d0a16 ∈ lw_tbl := List.mem_of_getElem? (i := 557) (by decide +kernel)
theorem wM_X2_93 : Cond.methodLink RX2 93 yX2_makeRoomForOneMore ∈ lw_tbl := List.mem_of_getElem? (i := 560) (by decide +kernel)
theorem wM_X2_96 : Cond.methodLink RX2 96 yX2_lotsEvenWith ∈ lw_tbl := List.mem_of_getElem? (i := 552) (by decide +kernel)
theorem wM_X3_18 : Cond.methodLink RX3 18 yX0_copyFrom ∈ lw_tbl := List.mem_of_getElem? (i := 401) (by decide +kernel)
theorem wM_X3_48 : Cond.methodLink RX3 48 yX3_take ∈ lw_tbl := List.mem_of_getElem? (i := 408) (by decide +kernel)
theorem wM_X3_58 : Cond.methodLink RX3 58 yX3_endExchange ∈ lw_tbl := List.mem_of_getElem? (i := 412) (by decide +kernel)
theorem wM_X3_61 : Cond.methodLink RX3 61 yX4_officerOf ∈ lw_tbl := List.mem_of_getElem? (i := 439) (by decide +kernel)
theorem wM_X3_65 : Cond.methodLink RX3 65 yX3_gather ∈ lw_tbl := List.mem_of_getElem? (i := 440) (by decide +kernel)
theorem wM_X3_68 : Cond.methodLink RX3 68 yX4_deedOf ∈ lw_tbl := List.mem_of_getElem? (i := 444) (by decide +kernel)
theorem wM_X3_71 : Cond.methodLink RX3 71 yX3_endDeed ∈ lw_tbl := List.mem_of_getElem? (i := 445) (by decide +kernel)
theorem wM_X3_74 : Cond.methodLink RX3 74 yX0_whyNoExchange ∈ lw_tbl := List.mem_of_getElem? (i := 416) (by decide +kernel)
theorem wM_X3_78 : Cond.methodLink RX3 78 yX0_setFree ∈ lw_tbl := List.mem_of_getElem? (i := 432) (by decide +kernel)
theorem wM_X3_81 : Cond.methodLink RX3 81 yX0_whyNot ∈ lw_tbl := List.mem_of_getElem? (i := 449) (by decide +kernel)
theorem wM_X3_85 : Cond.methodLink RX3 85 yX0_carryOut ∈ lw_tbl := List.mem_of_getElem? (i := 457) (by decide +kernel)
theorem wM_X4_19 : Cond.methodLink RX4 19 yX4_next ∈ lw_tbl := List.mem_of_getElem? (i := 379) (by decide +kernel)
theorem wM_X4_23 : Cond.methodLink RX4 23 yX4_officerOf ∈ lw_tbl := List.mem_of_getElem? (i := 382) (by decide +kernel)
theorem wM_X4_27 : Cond.methodLink RX4 27 yX4_deedOf ∈ lw_tbl := List.mem_of_getElem? (i := 386) (by decide +kernel)
theorem wM_X6_30 : Cond.methodLink RX6 30 yX0_lead ∈ lw_tbl := List.mem_of_getElem? (i := 611) (by decide +kernel)
theorem wM_X6_37 : Cond.methodLink RX6 37 yX6_addIfFits ∈ lw_tbl := List.mem_of_getElem? (i := 612) (by decide +kernel)
theorem wM_X6_41 : Cond.methodLink RX6 41 yX0_isThere ∈ lw_tbl := List.mem_of_getElem? (i := 617) (by decide +kernel)
theorem wM_X6_51 : Cond.methodLink RX6 51 yX0_worth ∈ lw_tbl := List.mem_of_getElem? (i := 616) (by decide +kernel)
theorem wM_X6_63 : Cond.methodLink RX6 63 yX6_mostLeft ∈ lw_tbl := List.mem_of_getElem? (i := 638) (by decide +kernel)
theorem wM_X6_67 : Cond.methodLink RX6 67 yX6_offerPair ∈ lw_tbl := List.mem_of_getElem? (i := 647) (by decide +kernel)
theorem wM_X6_71 : Cond.methodLink RX6 71 yX6_worthIn ∈ lw_tbl := List.mem_of_getElem? (i := 642) (by decide +kernel)
theorem wM_X6_74 : Cond.methodLink RX6 74 Lib.Math.max.name ∈ lw_tbl := List.mem_of_getElem? (i := 646) (by decide +kernel)
theorem wM_X7_18 : Cond.methodLink RX7 18 yX0_copyFrom ∈ lw_tbl := List.mem_of_getElem? (i := 695) (by decide +kernel)
theorem wM_X7_30 : Cond.methodLink RX7 30 yX7_draw ∈ lw_tbl := List.mem_of_getElem? (i := 697) (by decide +kernel)
theorem wM_X7_34 : Cond.methodLink RX7 34 yX7_tryDeed ∈ lw_tbl := List.mem_of_getElem? (i := 701) (by decide +kernel)
theorem wM_X7_38 : Cond.methodLink RX7 38 yX7_tryExchange ∈ lw_tbl := List.mem_of_getElem? (i := 707) (by decide +kernel)
theorem wM_X7_41 : Cond.methodLink RX7 41 yX0_whyNot ∈ lw_tbl := List.mem_of_getElem? (i := 705) (by decide +kernel)
theorem wM_X7_45 : Cond.methodLink RX7 45 yX0_carryOut ∈ lw_tbl := List.mem_of_getElem? (i := 706) (by decide +kernel)
theorem wM_X7_48 : Cond.methodLink RX7 48 yX0_whyNoExchange ∈ lw_tbl := List.mem_of_getElem? (i := 711) (by decide +kernel)
theorem wM_X7_52 : Cond.methodLink RX7 52 yX0_setFree ∈ lw_tbl := List.mem_of_getElem? (i := 712) (by decide +kernel)
theorem wM_X8_105 : Cond.methodLink RX8 105 yX4_write ∈ lw_tbl := List.mem_of_getElem? (i := 363) (by decide +kernel)
theorem wM_X8_109 : Cond.methodLink RX8 109 yX4_firstFault ∈ lw_tbl := List.mem_of_getElem? (i := 375) (by decide +kernel)
theorem wM_X8_113 : Cond.methodLink RX8 113 yX8_readMonths ∈ lw_tbl := List.mem_of_getElem? (i := 393) (by decide +kernel)
theorem wM_X8_116 : Cond.methodLink RX8 116 yX3_failedAct ∈ lw_tbl := List.mem_of_getElem? (i := 464) (by decide +kernel)
theorem wM_X8_119 : Cond.methodLink RX8 119 yX3_failedWhy ∈ lw_tbl := List.mem_of_getElem? (i := 468) (by decide +kernel)
theorem wM_X8_134 : Cond.methodLink RX8 134 yX0_crowdIn ∈ lw_tbl := List.mem_of_getElem? (i := 480) (by decide +kernel)
theorem wM_X8_137 : Cond.methodLink RX8 137 yX0_lead ∈ lw_tbl := List.mem_of_getElem? (i := 481) (by decide +kernel)
theorem wM_X8_140 : Cond.methodLink RX8 140 Lib.Math.abs.name ∈ lw_tbl := List.mem_of_getElem? (i := 482) (by decide +kernel)
theorem wM_X8_145 : Cond.methodLink RX8 145 yX0_copyFrom ∈ lw_tbl := List.mem_of_getElem? (i := 489) (by decide +kernel)
theorem wM_X8_152 : Cond.methodLink RX8 152 yX2_findForMost ∈ lw_tbl := List.mem_of_getElem? (i := 498) (by decide +kernel)
theorem wM_X8_158 : Cond.methodLink RX8 158 yX2_answer ∈ lw_tbl := List.mem_of_getElem? (i := 528) (by decide +kernel)
theorem wM_X8_162 : Cond.methodLink RX8 162 yX2_findForOne ∈ lw_tbl := List.mem_of_getElem? (i := 536) (by decide +kernel)
theorem wM_X8_169 : Cond.methodLink RX8 169 yX2_mostInARow ∈ lw_tbl := List.mem_of_getElem? (i := 544) (by decide +kernel)
theorem wM_X8_173 : Cond.methodLink RX8 173 yX8_bothSidesOpen ∈ lw_tbl := List.mem_of_getElem? (i := 574) (by decide +kernel)
theorem wM_X8_177 : Cond.methodLink RX8 177 yX0_evenRate ∈ lw_tbl := List.mem_of_getElem? (i := 583) (by decide +kernel)
theorem wM_X8_180 : Cond.methodLink RX8 180 yX0_areThere ∈ lw_tbl := List.mem_of_getElem? (i := 591) (by decide +kernel)
theorem wM_X8_187 : Cond.methodLink RX8 187 yX0_addSight ∈ lw_tbl := List.mem_of_getElem? (i := 595) (by decide +kernel)
theorem wM_X8_191 : Cond.methodLink RX8 191 yX6_find ∈ lw_tbl := List.mem_of_getElem? (i := 607) (by decide +kernel)
theorem wM_X8_195 : Cond.methodLink RX8 195 yX6_forgers ∈ lw_tbl := List.mem_of_getElem? (i := 618) (by decide +kernel)
theorem wM_X8_198 : Cond.methodLink RX8 198 yX6_leastRank ∈ lw_tbl := List.mem_of_getElem? (i := 626) (by decide +kernel)
theorem wM_X8_201 : Cond.methodLink RX8 201 yX6_choosePair ∈ lw_tbl := List.mem_of_getElem? (i := 634) (by decide +kernel)
theorem wM_X8_212 : Cond.methodLink RX8 212 yX1_spread ∈ lw_tbl := List.mem_of_getElem? (i := 656) (by decide +kernel)
theorem wM_X8_215 : Cond.methodLink RX8 215 yX1_trustSum ∈ lw_tbl := List.mem_of_getElem? (i := 663) (by decide +kernel)
theorem wM_X8_219 : Cond.methodLink RX8 219 yX1_waysToKeep ∈ lw_tbl := List.mem_of_getElem? (i := 668) (by decide +kernel)
theorem wM_X8_223 : Cond.methodLink RX8 223 yX1_lowestTerms ∈ lw_tbl := List.mem_of_getElem? (i := 672) (by decide +kernel)
theorem wM_X8_227 : Cond.methodLink RX8 227 yX0_lotIn ∈ lw_tbl := List.mem_of_getElem? (i := 578) (by decide +kernel)
theorem wM_X8_230 : Cond.methodLink RX8 230 yX5_count ∈ lw_tbl := List.mem_of_getElem? (i := 683) (by decide +kernel)
theorem wM_X8_242 : Cond.methodLink RX8 242 yX7_pass ∈ lw_tbl := List.mem_of_getElem? (i := 691) (by decide +kernel)
theorem wM_X8_251 : Cond.methodLink RX8 251 yX8_toldCount ∈ lw_tbl := List.mem_of_getElem? (i := 725) (by decide +kernel)
theorem wM_X8_254 : Cond.methodLink RX8 254 yX3_read ∈ lw_tbl := List.mem_of_getElem? (i := 397) (by decide +kernel)
theorem wM_X8_73 : Cond.methodLink RX8 73 yX8_isWithin ∈ lw_tbl := List.mem_of_getElem? (i := 330) (by decide +kernel)
theorem wM_X8_77 : Cond.methodLink RX8 77 yX0_enter ∈ lw_tbl := List.mem_of_getElem? (i := 333) (by decide +kernel)
theorem wM_X8_85 : Cond.methodLink RX8 85 yJ6_bitCount_0f7a4 ∈ lw_tbl := List.mem_of_getElem? (i := 337) (by decide +kernel)
theorem wM_X8_91 : Cond.methodLink RX8 91 yX0_isThere ∈ lw_tbl := List.mem_of_getElem? (i := 347) (by decide +kernel)
theorem wM_X9_111 : Cond.methodLink RX9 111 yX9_ours ∈ lw_tbl := List.mem_of_getElem? (i := 886) (by decide +kernel)
theorem wM_X9_114 : Cond.methodLink RX9 114 yX9_theirs ∈ lw_tbl := List.mem_of_getElem? (i := 891) (by decide +kernel)
theorem wM_X9_117 : Cond.methodLink RX9 117 yX9_add ∈ lw_tbl := List.mem_of_getElem? (i := 896) (by decide +kernel)
theorem wM_X9_121 : Cond.methodLink RX9 121 yX9_begin ∈ lw_tbl := List.mem_of_getElem? (i := 882) (by decide +kernel)
theorem wM_X9_124 : Cond.methodLink RX9 124 yX9_deed ∈ lw_tbl := List.mem_of_getElem? (i := 900) (by decide +kernel)
theorem wM_X9_127 : Cond.methodLink RX9 127 yX9_inLots ∈ lw_tbl := List.mem_of_getElem? (i := 904) (by decide +kernel)
theorem wM_X9_131 : Cond.methodLink RX9 131 yX9_rateOf ∈ lw_tbl := List.mem_of_getElem? (i := 942) (by decide +kernel)
theorem wM_X9_134 : Cond.methodLink RX9 134 yX9_isOpen ∈ lw_tbl := List.mem_of_getElem? (i := 934) (by decide +kernel)
theorem wM_X9_137 : Cond.methodLink RX9 137 yX9_isOut ∈ lw_tbl := List.mem_of_getElem? (i := 953) (by decide +kernel)
theorem wM_X9_140 : Cond.methodLink RX9 140 yX9_areAllOpen ∈ lw_tbl := List.mem_of_getElem? (i := 930) (by decide +kernel)
theorem wM_X9_143 : Cond.methodLink RX9 143 yX9_worthOf ∈ lw_tbl := List.mem_of_getElem? (i := 938) (by decide +kernel)
theorem wM_X9_146 : Cond.methodLink RX9 146 yX9_only ∈ lw_tbl := List.mem_of_getElem? (i := 946) (by decide +kernel)
theorem wM_X9_149 : Cond.methodLink RX9 149 yX9_canDeed ∈ lw_tbl := List.mem_of_getElem? (i := 949) (by decide +kernel)
theorem wM_X9_159 : Cond.methodLink RX9 159 yX9_breakWord ∈ lw_tbl := List.mem_of_getElem? (i := 961) (by decide +kernel)
theorem wM_X9_162 : Cond.methodLink RX9 162 yX9_exchange ∈ lw_tbl := List.mem_of_getElem? (i := 965) (by decide +kernel)
theorem wM_X9_171 : Cond.methodLink RX9 171 yX9_whyNot ∈ lw_tbl := List.mem_of_getElem? (i := 926) (by decide +kernel)
theorem wM_X9_175 : Cond.methodLink RX9 175 yX9_happen ∈ lw_tbl := List.mem_of_getElem? (i := 957) (by decide +kernel)
theorem wM_X9_179 : Cond.methodLink RX9 179 yX9_fault ∈ lw_tbl := List.mem_of_getElem? (i := 917) (by decide +kernel)
theorem wM_X9_183 : Cond.methodLink RX9 183 yX9_store ∈ lw_tbl := List.mem_of_getElem? (i := 918) (by decide +kernel)
theorem wM_X9_187 : Cond.methodLink RX9 187 yX9_goMonths ∈ lw_tbl := List.mem_of_getElem? (i := 922) (by decide +kernel)
theorem wM_X9_190 : Cond.methodLink RX9 190 yX9_sumOpen ∈ lw_tbl := List.mem_of_getElem? (i := 969) (by decide +kernel)
theorem wM_X9_199 : Cond.methodLink RX9 199 yX9_lay ∈ lw_tbl := List.mem_of_getElem? (i := 973) (by decide +kernel)
theorem wM_X9_204 : Cond.methodLink RX9 204 yX9_refusal ∈ lw_tbl := List.mem_of_getElem? (i := 913) (by decide +kernel)
theorem wM_X9_213 : Cond.methodLink RX9 213 yX9_isBetter ∈ lw_tbl := List.mem_of_getElem? (i := 1001) (by decide +kernel)
theorem wM_X9_217 : Cond.methodLink RX9 217 yX9_canExchange ∈ lw_tbl := List.mem_of_getElem? (i := 1005) (by decide +kernel)
theorem wM_X9_220 : Cond.methodLink RX9 220 yX9_findExchange ∈ lw_tbl := List.mem_of_getElem? (i := 997) (by decide +kernel)
theorem wM_X9_224 : Cond.methodLink RX9 224 yX9_isNobodyOpen ∈ lw_tbl := List.mem_of_getElem? (i := 1025) (by decide +kernel)
theorem wM_X9_227 : Cond.methodLink RX9 227 yX9_isAllEven ∈ lw_tbl := List.mem_of_getElem? (i := 1021) (by decide +kernel)
theorem wM_X9_236 : Cond.methodLink RX9 236 yX9_rateIn ∈ lw_tbl := List.mem_of_getElem? (i := 1058) (by decide +kernel)
theorem wM_X9_239 : Cond.methodLink RX9 239 yX9_isEvenIn ∈ lw_tbl := List.mem_of_getElem? (i := 1054) (by decide +kernel)
theorem wM_X9_246 : Cond.methodLink RX9 246 yX9_isWorld ∈ lw_tbl := List.mem_of_getElem? (i := 1050) (by decide +kernel)
theorem wM_X9_249 : Cond.methodLink RX9 249 yX9_findWorlds ∈ lw_tbl := List.mem_of_getElem? (i := 1046) (by decide +kernel)
theorem wM_X9_252 : Cond.methodLink RX9 252 yX9_mostLeft ∈ lw_tbl := List.mem_of_getElem? (i := 1070) (by decide +kernel)
theorem wM_X9_261 : Cond.methodLink RX9 261 yX9_outOf ∈ lw_tbl := List.mem_of_getElem? (i := 1081) (by decide +kernel)
theorem wM_X9_264 : Cond.methodLink RX9 264 yX9_lowest ∈ lw_tbl := List.mem_of_getElem? (i := 1085) (by decide +kernel)
theorem wM_X9_283 : Cond.methodLink RX9 283 yX9_pass ∈ lw_tbl := List.mem_of_getElem? (i := 1108) (by decide +kernel)
theorem wM_X9_286 : Cond.methodLink RX9 286 yX9_passAll ∈ lw_tbl := List.mem_of_getElem? (i := 1104) (by decide +kernel)
theorem wM_X9_69 : Cond.methodLink RX9 69 yX9_in ∈ lw_tbl := List.mem_of_getElem? (i := 840) (by decide +kernel)
theorem wM_X9_78 : Cond.methodLink RX9 78 yX9_isRank ∈ lw_tbl := List.mem_of_getElem? (i := 843) (by decide +kernel)
theorem wM_X9_82 : Cond.methodLink RX9 82 yX9_ones ∈ lw_tbl := List.mem_of_getElem? (i := 847) (by decide +kernel)
theorem wM_X9_86 : Cond.methodLink RX9 86 yX9_isOfficer ∈ lw_tbl := List.mem_of_getElem? (i := 854) (by decide +kernel)
theorem mc_X0_37 : MC RX0 37 := ⟨List.mem_of_getElem? (i := 405) (by decide +kernel), List.mem_of_getElem? (i := 407) (by decide +kernel), List.mem_of_getElem? (i := 406) (by decide +kernel), List.mem_of_getElem? (i := 65) (by decide +kernel)⟩
theorem mc_X2_104 : MC RX2 104 := ⟨List.mem_of_getElem? (i := 569) (by decide +kernel), List.mem_of_getElem? (i := 407) (by decide +kernel), List.mem_of_getElem? (i := 406) (by decide +kernel), List.mem_of_getElem? (i := 65) (by decide +kernel)⟩
theorem mm_max : MMx := ⟨List.mem_of_getElem? (i := 462) (by decide +kernel), List.mem_of_getElem? (i := 66) (by decide +kernel), List.mem_of_getElem? (i := 463) (by decide +kernel)⟩
theorem mm_min : MMn := ⟨List.mem_of_getElem? (i := 437) (by decide +kernel), List.mem_of_getElem? (i := 66) (by decide +kernel), List.mem_of_getElem? (i := 438) (by decide +kernel)⟩
theorem mm_abs : MMa := ⟨List.mem_of_getElem? (i := 483) (by decide +kernel), List.mem_of_getElem? (i := 66) (by decide +kernel), List.mem_of_getElem? (i := 484) (by decide +kernel)⟩
theorem mf_J6_bitCount_0f7a4 : MS yJ6_bitCount_0f7a4 cJ6_bitCount_0f7a4 1 (some .int) 1 := ⟨List.mem_of_getElem? (i := 339) (by decide +kernel), List.mem_of_getElem? (i := 338) (by decide +kernel), List.mem_of_getElem? (i := 64) (by decide +kernel), by decide +kernel⟩
theorem mf_J7_fill_d0a16 : MS yJ7_fill_d0a16 cJ7_fill_d0a16 5 (none) 2 := ⟨List.mem_of_getElem? (i := 559) (by decide +kernel), List.mem_of_getElem? (i := 558) (by decide +kernel), List.mem_of_getElem? (i := 67) (by decide +kernel), by decide +kernel⟩
theorem mf_X0_addSight : MF yX0_addSight cX0_addSight 3 (none) 2 := ⟨List.mem_of_getElem? (i := 598) (by decide +kernel), List.mem_of_getElem? (i := 596) (by decide +kernel), List.mem_of_getElem? (i := 597) (by decide +kernel), List.mem_of_getElem? (i := 55) (by decide +kernel), by decide +kernel⟩
theorem mf_X0_areThere : MF yX0_areThere cX0_areThere 4 (some .boolean) 2 := ⟨List.mem_of_getElem? (i := 594) (by decide +kernel), List.mem_of_getElem? (i := 592) (by decide +kernel), List.mem_of_getElem? (i := 593) (by decide +kernel), List.mem_of_getElem? (i := 55) (by decide +kernel), by decide +kernel⟩
theorem mf_X0_carryOut : MF yX0_carryOut cX0_carryOut 3 (none) 2 := ⟨List.mem_of_getElem? (i := 460) (by decide +kernel), List.mem_of_getElem? (i := 458) (by decide +kernel), List.mem_of_getElem? (i := 459) (by decide +kernel), List.mem_of_getElem? (i := 55) (by decide +kernel), by decide +kernel⟩
theorem mf_X0_copyFrom : MF yX0_copyFrom cX0_copyFrom 2 (none) 1 := ⟨List.mem_of_getElem? (i := 404) (by decide +kernel), List.mem_of_getElem? (i := 402) (by decide +kernel), List.mem_of_getElem? (i := 403) (by decide +kernel), List.mem_of_getElem? (i := 55) (by decide +kernel), by decide +kernel⟩
theorem mf_X0_crowdIn : MF yX0_crowdIn cX0_crowdIn 4 (some .int) 1 := ⟨List.mem_of_getElem? (i := 423) (by decide +kernel), List.mem_of_getElem? (i := 421) (by decide +kernel), List.mem_of_getElem? (i := 422) (by decide +kernel), List.mem_of_getElem? (i := 55) (by decide +kernel), by decide +kernel⟩
theorem mf_X0_enter : MF yX0_enter cX0_enter 3 (none) 2 := ⟨List.mem_of_getElem? (i := 336) (by decide +kernel), List.mem_of_getElem? (i := 334) (by decide +kernel), List.mem_of_getElem? (i := 335) (by decide +kernel), List.mem_of_getElem? (i := 55) (by decide +kernel), by decide +kernel⟩
theorem mf_X0_evenRate : MF yX0_evenRate cX0_evenRate 7 (some .int) 1 := ⟨List.mem_of_getElem? (i := 586) (by decide +kernel), List.mem_of_getElem? (i := 584) (by decide +kernel), List.mem_of_getElem? (i := 585) (by decide +kernel), List.mem_of_getElem? (i := 55) (by decide +kernel), by decide +kernel⟩
theorem mf_X0_isThere : MF yX0_isThere cX0_isThere 2 (some .boolean) 1 := ⟨List.mem_of_getElem? (i := 350) (by decide +kernel), List.mem_of_getElem? (i := 348) (by decide +kernel), List.mem_of_getElem? (i := 349) (by decide +kernel), List.mem_of_getElem? (i := 55) (by decide +kernel), by decide +kernel⟩
theorem mf_X0_lead : MF yX0_lead cX0_lead 4 (some .int) 1 := ⟨List.mem_of_getElem? (i := 427) (by decide +kernel), List.mem_of_getElem? (i := 425) (by decide +kernel), List.mem_of_getElem? (i := 426) (by decide +kernel), List.mem_of_getElem? (i := 55) (by decide +kernel), by decide +kernel⟩
theorem mf_X0_lotIn : MF yX0_lotIn cX0_lotIn 3 (some .int) 2 := ⟨List.mem_of_getElem? (i := 513) (by decide +kernel), List.mem_of_getElem? (i := 511) (by decide +kernel), List.mem_of_getElem? (i := 512) (by decide +kernel), List.mem_of_getElem? (i := 55) (by decide +kernel), by decide +kernel⟩
theorem mf_X0_setFree : MF yX0_setFree cX0_setFree 3 (none) 1 := ⟨List.mem_of_getElem? (i := 435) (by decide +kernel), List.mem_of_getElem? (i := 433) (by decide +kernel), List.mem_of_getElem? (i := 434) (by decide +kernel), List.mem_of_getElem? (i := 55) (by decide +kernel), by decide +kernel⟩
theorem mf_X0_statesFor : MS yX0_statesFor cX0_statesFor 1 (some .int) 1 := ⟨List.mem_of_getElem? (i := 456) (by decide +kernel), List.mem_of_getElem? (i := 455) (by decide +kernel), List.mem_of_getElem? (i := 55) (by decide +kernel), by decide +kernel⟩
theorem mf_X0_whyNoExchange : MF yX0_whyNoExchange cX0_whyNoExchange 3 (some .int) 2 := ⟨List.mem_of_getElem? (i := 419) (by decide +kernel), List.mem_of_getElem? (i := 417) (by decide +kernel), List.mem_of_getElem? (i := 418) (by decide +kernel), List.mem_of_getElem? (i := 55) (by decide +kernel), by decide +kernel⟩
theorem mf_X0_whyNot : MF yX0_whyNot cX0_whyNot 3 (some .int) 2 := ⟨List.mem_of_getElem? (i := 452) (by decide +kernel), List.mem_of_getElem? (i := 450) (by decide +kernel), List.mem_of_getElem? (i := 451) (by decide +kernel), List.mem_of_getElem? (i := 55) (by decide +kernel), by decide +kernel⟩
theorem mf_X0_worth : MF yX0_worth cX0_worth 2 (some .int) 1 := ⟨List.mem_of_getElem? (i := 431) (by decide +kernel), List.mem_of_getElem? (i := 429) (by decide +kernel), List.mem_of_getElem? (i := 430) (by decide +kernel), List.mem_of_getElem? (i := 55) (by decide +kernel), by decide +kernel⟩
theorem mf_X1_commonDivisor : MS yX1_commonDivisor cX1_commonDivisor 11 (some .long) 2 := ⟨List.mem_of_getElem? (i := 678) (by decide +kernel), List.mem_of_getElem? (i := 677) (by decide +kernel), List.mem_of_getElem? (i := 60) (by decide +kernel), by decide +kernel⟩
theorem mf_X1_lowestTerms : MF yX1_lowestTerms cX1_lowestTerms 6 (some .long) 2 := ⟨List.mem_of_getElem? (i := 675) (by decide +kernel), List.mem_of_getElem? (i := 673) (by decide +kernel), List.mem_of_getElem? (i := 674) (by decide +kernel), List.mem_of_getElem? (i := 60) (by decide +kernel), by decide +kernel⟩
theorem mf_X1_spread : MF yX1_spread cX1_spread 5 (none) 2 := ⟨List.mem_of_getElem? (i := 659) (by decide +kernel), List.mem_of_getElem? (i := 657) (by decide +kernel), List.mem_of_getElem? (i := 658) (by decide +kernel), List.mem_of_getElem? (i := 60) (by decide +kernel), by decide +kernel⟩
theorem mf_X1_trustSum : MF yX1_trustSum cX1_trustSum 5 (some .long) 1 := ⟨List.mem_of_getElem? (i := 666) (by decide +kernel), List.mem_of_getElem? (i := 664) (by decide +kernel), List.mem_of_getElem? (i := 665) (by decide +kernel), List.mem_of_getElem? (i := 60) (by decide +kernel), by decide +kernel⟩
theorem mf_X1_waysToKeep : MF yX1_waysToKeep cX1_waysToKeep 6 (some .long) 2 := ⟨List.mem_of_getElem? (i := 671) (by decide +kernel), List.mem_of_getElem? (i := 669) (by decide +kernel), List.mem_of_getElem? (i := 670) (by decide +kernel), List.mem_of_getElem? (i := 60) (by decide +kernel), by decide +kernel⟩
theorem mf_X2_answer : MF yX2_answer cX2_answer 3 (some .int) 2 := ⟨List.mem_of_getElem? (i := 531) (by decide +kernel), List.mem_of_getElem? (i := 529) (by decide +kernel), List.mem_of_getElem? (i := 530) (by decide +kernel), List.mem_of_getElem? (i := 58) (by decide +kernel), by decide +kernel⟩
theorem mf_X2_bestWith : MF yX2_bestWith cX2_bestWith 5 (some .int) 2 := ⟨List.mem_of_getElem? (i := 522) (by decide +kernel), List.mem_of_getElem? (i := 521) (by decide +kernel), List.mem_of_getElem? (i := 7) (by decide +kernel), List.mem_of_getElem? (i := 58) (by decide +kernel), by decide +kernel⟩
theorem mf_X2_find : MF yX2_find cX2_find 6 (none) 3 := ⟨List.mem_of_getElem? (i := 505) (by decide +kernel), List.mem_of_getElem? (i := 504) (by decide +kernel), List.mem_of_getElem? (i := 5) (by decide +kernel), List.mem_of_getElem? (i := 58) (by decide +kernel), by decide +kernel⟩
theorem mf_X2_findForMost : MF yX2_findForMost cX2_findForMost 2 (none) 1 := ⟨List.mem_of_getElem? (i := 501) (by decide +kernel), List.mem_of_getElem? (i := 499) (by decide +kernel), List.mem_of_getElem? (i := 500) (by decide +kernel), List.mem_of_getElem? (i := 58) (by decide +kernel), by decide +kernel⟩
theorem mf_X2_findForOne : MF yX2_findForOne cX2_findForOne 3 (none) 2 := ⟨List.mem_of_getElem? (i := 539) (by decide +kernel), List.mem_of_getElem? (i := 537) (by decide +kernel), List.mem_of_getElem? (i := 538) (by decide +kernel), List.mem_of_getElem? (i := 58) (by decide +kernel), by decide +kernel⟩
theorem mf_X2_lotsEvenWith : MF yX2_lotsEvenWith cX2_lotsEvenWith 5 (some .long) 1 := ⟨List.mem_of_getElem? (i := 555) (by decide +kernel), List.mem_of_getElem? (i := 554) (by decide +kernel), List.mem_of_getElem? (i := 9) (by decide +kernel), List.mem_of_getElem? (i := 58) (by decide +kernel), by decide +kernel⟩
theorem mf_X2_makeRoomForOneMore : MF yX2_makeRoomForOneMore cX2_makeRoomForOneMore 8 (none) 0 := ⟨List.mem_of_getElem? (i := 563) (by decide +kernel), List.mem_of_getElem? (i := 562) (by decide +kernel), List.mem_of_getElem? (i := 10) (by decide +kernel), List.mem_of_getElem? (i := 58) (by decide +kernel), by decide +kernel⟩
theorem mf_X2_markEven : MF yX2_markEven cX2_markEven 2 (none) 0 := ⟨List.mem_of_getElem? (i := 551) (by decide +kernel), List.mem_of_getElem? (i := 550) (by decide +kernel), List.mem_of_getElem? (i := 8) (by decide +kernel), List.mem_of_getElem? (i := 58) (by decide +kernel), by decide +kernel⟩
theorem mf_X2_mostInARow : MF yX2_mostInARow cX2_mostInARow 4 (some .int) 1 := ⟨List.mem_of_getElem? (i := 547) (by decide +kernel), List.mem_of_getElem? (i := 545) (by decide +kernel), List.mem_of_getElem? (i := 546) (by decide +kernel), List.mem_of_getElem? (i := 58) (by decide +kernel), by decide +kernel⟩
theorem mf_X2_order : MS yX2_order cX2_order 6 (some .int) 3 := ⟨List.mem_of_getElem? (i := 525) (by decide +kernel), List.mem_of_getElem? (i := 524) (by decide +kernel), List.mem_of_getElem? (i := 58) (by decide +kernel), by decide +kernel⟩
theorem mf_X2_sumLots : MS yX2_sumLots cX2_sumLots 7 (none) 3 := ⟨List.mem_of_getElem? (i := 516) (by decide +kernel), List.mem_of_getElem? (i := 515) (by decide +kernel), List.mem_of_getElem? (i := 58) (by decide +kernel), by decide +kernel⟩
theorem mf_X2_weighLots : MF yX2_weighLots cX2_weighLots 2 (none) 1 := ⟨List.mem_of_getElem? (i := 509) (by decide +kernel), List.mem_of_getElem? (i := 508) (by decide +kernel), List.mem_of_getElem? (i := 6) (by decide +kernel), List.mem_of_getElem? (i := 58) (by decide +kernel), by decide +kernel⟩
theorem mf_X2_withGreaterLots : MS yX2_withGreaterLots cX2_withGreaterLots 5 (some .long) 1 := ⟨List.mem_of_getElem? (i := 566) (by decide +kernel), List.mem_of_getElem? (i := 565) (by decide +kernel), List.mem_of_getElem? (i := 58) (by decide +kernel), by decide +kernel⟩
theorem mf_X3_endDeed : MF yX3_endDeed cX3_endDeed 2 (none) 1 := ⟨List.mem_of_getElem? (i := 448) (by decide +kernel), List.mem_of_getElem? (i := 447) (by decide +kernel), List.mem_of_getElem? (i := 4) (by decide +kernel), List.mem_of_getElem? (i := 57) (by decide +kernel), by decide +kernel⟩
theorem mf_X3_endExchange : MF yX3_endExchange cX3_endExchange 1 (none) 0 := ⟨List.mem_of_getElem? (i := 415) (by decide +kernel), List.mem_of_getElem? (i := 414) (by decide +kernel), List.mem_of_getElem? (i := 2) (by decide +kernel), List.mem_of_getElem? (i := 57) (by decide +kernel), by decide +kernel⟩
theorem mf_X3_failedAct : MF yX3_failedAct cX3_failedAct 1 (some .int) 0 := ⟨List.mem_of_getElem? (i := 467) (by decide +kernel), List.mem_of_getElem? (i := 465) (by decide +kernel), List.mem_of_getElem? (i := 466) (by decide +kernel), List.mem_of_getElem? (i := 57) (by decide +kernel), by decide +kernel⟩
theorem mf_X3_failedWhy : MF yX3_failedWhy cX3_failedWhy 1 (some .int) 0 := ⟨List.mem_of_getElem? (i := 471) (by decide +kernel), List.mem_of_getElem? (i := 469) (by decide +kernel), List.mem_of_getElem? (i := 470) (by decide +kernel), List.mem_of_getElem? (i := 57) (by decide +kernel), by decide +kernel⟩
theorem mf_X3_gather : MF yX3_gather cX3_gather 2 (none) 1 := ⟨List.mem_of_getElem? (i := 443) (by decide +kernel), List.mem_of_getElem? (i := 442) (by decide +kernel), List.mem_of_getElem? (i := 3) (by decide +kernel), List.mem_of_getElem? (i := 57) (by decide +kernel), by decide +kernel⟩
theorem mf_X3_read : MF yX3_read cX3_read 4 (none) 2 := ⟨List.mem_of_getElem? (i := 400) (by decide +kernel), List.mem_of_getElem? (i := 398) (by decide +kernel), List.mem_of_getElem? (i := 399) (by decide +kernel), List.mem_of_getElem? (i := 57) (by decide +kernel), by decide +kernel⟩
theorem mf_X3_take : MF yX3_take cX3_take 2 (none) 1 := ⟨List.mem_of_getElem? (i := 411) (by decide +kernel), List.mem_of_getElem? (i := 410) (by decide +kernel), List.mem_of_getElem? (i := 1) (by decide +kernel), List.mem_of_getElem? (i := 57) (by decide +kernel), by decide +kernel⟩
theorem mf_X4_deedOf : MS yX4_deedOf cX4_deedOf 1 (some .int) 1 := ⟨List.mem_of_getElem? (i := 388) (by decide +kernel), List.mem_of_getElem? (i := 387) (by decide +kernel), List.mem_of_getElem? (i := 56) (by decide +kernel), by decide +kernel⟩
theorem mf_X4_firstFault : MF yX4_firstFault cX4_firstFault 3 (some .int) 0 := ⟨List.mem_of_getElem? (i := 378) (by decide +kernel), List.mem_of_getElem? (i := 376) (by decide +kernel), List.mem_of_getElem? (i := 377) (by decide +kernel), List.mem_of_getElem? (i := 56) (by decide +kernel), by decide +kernel⟩
theorem mf_X4_next : MS yX4_next cX4_next 5 (some .int) 2 := ⟨List.mem_of_getElem? (i := 381) (by decide +kernel), List.mem_of_getElem? (i := 380) (by decide +kernel), List.mem_of_getElem? (i := 56) (by decide +kernel), by decide +kernel⟩
theorem mf_X4_officerOf : MS yX4_officerOf cX4_officerOf 1 (some .int) 1 := ⟨List.mem_of_getElem? (i := 384) (by decide +kernel), List.mem_of_getElem? (i := 383) (by decide +kernel), List.mem_of_getElem? (i := 56) (by decide +kernel), by decide +kernel⟩
theorem mf_X4_write : MF yX4_write cX4_write 2 (none) 1 := ⟨List.mem_of_getElem? (i := 366) (by decide +kernel), List.mem_of_getElem? (i := 364) (by decide +kernel), List.mem_of_getElem? (i := 365) (by decide +kernel), List.mem_of_getElem? (i := 56) (by decide +kernel), by decide +kernel⟩
theorem mf_X5_count : MF yX5_count cX5_count 8 (none) 3 := ⟨List.mem_of_getElem? (i := 686) (by decide +kernel), List.mem_of_getElem? (i := 684) (by decide +kernel), List.mem_of_getElem? (i := 685) (by decide +kernel), List.mem_of_getElem? (i := 61) (by decide +kernel), by decide +kernel⟩
theorem mf_X6_addIfFits : MF yX6_addIfFits cX6_addIfFits 7 (none) 3 := ⟨List.mem_of_getElem? (i := 615) (by decide +kernel), List.mem_of_getElem? (i := 614) (by decide +kernel), List.mem_of_getElem? (i := 12) (by decide +kernel), List.mem_of_getElem? (i := 59) (by decide +kernel), by decide +kernel⟩
theorem mf_X6_choosePair : MF yX6_choosePair cX6_choosePair 4 (none) 1 := ⟨List.mem_of_getElem? (i := 637) (by decide +kernel), List.mem_of_getElem? (i := 635) (by decide +kernel), List.mem_of_getElem? (i := 636) (by decide +kernel), List.mem_of_getElem? (i := 59) (by decide +kernel), by decide +kernel⟩
theorem mf_X6_find : MF yX6_find cX6_find 4 (none) 1 := ⟨List.mem_of_getElem? (i := 610) (by decide +kernel), List.mem_of_getElem? (i := 608) (by decide +kernel), List.mem_of_getElem? (i := 609) (by decide +kernel), List.mem_of_getElem? (i := 59) (by decide +kernel), by decide +kernel⟩
theorem mf_X6_forgers : MF yX6_forgers cX6_forgers 3 (some .int) 0 := ⟨List.mem_of_getElem? (i := 621) (by decide +kernel), List.mem_of_getElem? (i := 619) (by decide +kernel), List.mem_of_getElem? (i := 620) (by decide +kernel), List.mem_of_getElem? (i := 59) (by decide +kernel), by decide +kernel⟩
theorem mf_X6_leastRank : MF yX6_leastRank cX6_leastRank 3 (some .int) 1 := ⟨List.mem_of_getElem? (i := 629) (by decide +kernel), List.mem_of_getElem? (i := 627) (by decide +kernel), List.mem_of_getElem? (i := 628) (by decide +kernel), List.mem_of_getElem? (i := 59) (by decide +kernel), by decide +kernel⟩
theorem mf_X6_mostLeft : MF yX6_mostLeft cX6_mostLeft 6 (some .int) 3 := ⟨List.mem_of_getElem? (i := 641) (by decide +kernel), List.mem_of_getElem? (i := 640) (by decide +kernel), List.mem_of_getElem? (i := 13) (by decide +kernel), List.mem_of_getElem? (i := 59) (by decide +kernel), by decide +kernel⟩
theorem mf_X6_offerPair : MF yX6_offerPair cX6_offerPair 3 (none) 2 := ⟨List.mem_of_getElem? (i := 650) (by decide +kernel), List.mem_of_getElem? (i := 649) (by decide +kernel), List.mem_of_getElem? (i := 15) (by decide +kernel), List.mem_of_getElem? (i := 59) (by decide +kernel), by decide +kernel⟩
theorem mf_X6_worthIn : MF yX6_worthIn cX6_worthIn 4 (some .int) 3 := ⟨List.mem_of_getElem? (i := 645) (by decide +kernel), List.mem_of_getElem? (i := 644) (by decide +kernel), List.mem_of_getElem? (i := 14) (by decide +kernel), List.mem_of_getElem? (i := 59) (by decide +kernel), by decide +kernel⟩
theorem mf_X7_draw : MF yX7_draw cX7_draw 5 (none) 1 := ⟨List.mem_of_getElem? (i := 700) (by decide +kernel), List.mem_of_getElem? (i := 699) (by decide +kernel), List.mem_of_getElem? (i := 16) (by decide +kernel), List.mem_of_getElem? (i := 62) (by decide +kernel), by decide +kernel⟩
theorem mf_X7_pass : MF yX7_pass cX7_pass 6 (none) 3 := ⟨List.mem_of_getElem? (i := 694) (by decide +kernel), List.mem_of_getElem? (i := 692) (by decide +kernel), List.mem_of_getElem? (i := 693) (by decide +kernel), List.mem_of_getElem? (i := 62) (by decide +kernel), by decide +kernel⟩
theorem mf_X7_tryDeed : MF yX7_tryDeed cX7_tryDeed 3 (none) 2 := ⟨List.mem_of_getElem? (i := 704) (by decide +kernel), List.mem_of_getElem? (i := 703) (by decide +kernel), List.mem_of_getElem? (i := 17) (by decide +kernel), List.mem_of_getElem? (i := 62) (by decide +kernel), by decide +kernel⟩
theorem mf_X7_tryExchange : MF yX7_tryExchange cX7_tryExchange 2 (none) 1 := ⟨List.mem_of_getElem? (i := 710) (by decide +kernel), List.mem_of_getElem? (i := 709) (by decide +kernel), List.mem_of_getElem? (i := 18) (by decide +kernel), List.mem_of_getElem? (i := 62) (by decide +kernel), by decide +kernel⟩
theorem mf_X8_behind : MF yX8_behind cX8_behind 4 (some .int) 2 := ⟨List.mem_of_getElem? (i := 475) (by decide +kernel), List.mem_of_getElem? (i := 473) (by decide +kernel), List.mem_of_getElem? (i := 474) (by decide +kernel), List.mem_of_getElem? (i := 54) (by decide +kernel), by decide +kernel⟩
theorem mf_X8_bothSidesOpen : MF yX8_bothSidesOpen cX8_bothSidesOpen 1 (some .boolean) 0 := ⟨List.mem_of_getElem? (i := 577) (by decide +kernel), List.mem_of_getElem? (i := 576) (by decide +kernel), List.mem_of_getElem? (i := 11) (by decide +kernel), List.mem_of_getElem? (i := 54) (by decide +kernel), by decide +kernel⟩
theorem mf_X8_bring : MF yX8_bring cX8_bring 3 (some .int) 2 := ⟨List.mem_of_getElem? (i := 535) (by decide +kernel), List.mem_of_getElem? (i := 533) (by decide +kernel), List.mem_of_getElem? (i := 534) (by decide +kernel), List.mem_of_getElem? (i := 54) (by decide +kernel), by decide +kernel⟩
theorem mf_X8_broken : MF yX8_broken cX8_broken 6 (some .long) 3 := ⟨List.mem_of_getElem? (i := 654) (by decide +kernel), List.mem_of_getElem? (i := 652) (by decide +kernel), List.mem_of_getElem? (i := 653) (by decide +kernel), List.mem_of_getElem? (i := 54) (by decide +kernel), by decide +kernel⟩
theorem mf_X8_done : MF yX8_done cX8_done 2 (some .int) 0 := ⟨List.mem_of_getElem? (i := 488) (by decide +kernel), List.mem_of_getElem? (i := 486) (by decide +kernel), List.mem_of_getElem? (i := 487) (by decide +kernel), List.mem_of_getElem? (i := 54) (by decide +kernel), by decide +kernel⟩
theorem mf_X8_even : MF yX8_even cX8_even 1 (some .int) 0 := ⟨List.mem_of_getElem? (i := 573) (by decide +kernel), List.mem_of_getElem? (i := 571) (by decide +kernel), List.mem_of_getElem? (i := 572) (by decide +kernel), List.mem_of_getElem? (i := 54) (by decide +kernel), by decide +kernel⟩
theorem mf_X8_fair : MF yX8_fair cX8_fair 2 (some .int) 1 := ⟨List.mem_of_getElem? (i := 582) (by decide +kernel), List.mem_of_getElem? (i := 580) (by decide +kernel), List.mem_of_getElem? (i := 581) (by decide +kernel), List.mem_of_getElem? (i := 54) (by decide +kernel), by decide +kernel⟩
theorem mf_X8_fault : MF yX8_fault cX8_fault 1 (some .int) 0 := ⟨List.mem_of_getElem? (i := 374) (by decide +kernel), List.mem_of_getElem? (i := 372) (by decide +kernel), List.mem_of_getElem? (i := 373) (by decide +kernel), List.mem_of_getElem? (i := 54) (by decide +kernel), by decide +kernel⟩
theorem mf_X8_forged : MF yX8_forged cX8_forged 2 (some .int) 1 := ⟨List.mem_of_getElem? (i := 606) (by decide +kernel), List.mem_of_getElem? (i := 604) (by decide +kernel), List.mem_of_getElem? (i := 605) (by decide +kernel), List.mem_of_getElem? (i := 54) (by decide +kernel), by decide +kernel⟩
theorem mf_X8_forget : MF yX8_forget cX8_forget 2 (some .int) 0 := ⟨List.mem_of_getElem? (i := 602) (by decide +kernel), List.mem_of_getElem? (i := 600) (by decide +kernel), List.mem_of_getElem? (i := 601) (by decide +kernel), List.mem_of_getElem? (i := 54) (by decide +kernel), by decide +kernel⟩
theorem mf_X8_home : MF yX8_home cX8_home 2 (some .int) 1 := ⟨List.mem_of_getElem? (i := 497) (by decide +kernel), List.mem_of_getElem? (i := 495) (by decide +kernel), List.mem_of_getElem? (i := 496) (by decide +kernel), List.mem_of_getElem? (i := 54) (by decide +kernel), by decide +kernel⟩
theorem mf_X8_image : MF yX8_image cX8_image 2 (some .int) 1 := ⟨List.mem_of_getElem? (i := 716) (by decide +kernel), List.mem_of_getElem? (i := 714) (by decide +kernel), List.mem_of_getElem? (i := 715) (by decide +kernel), List.mem_of_getElem? (i := 54) (by decide +kernel), by decide +kernel⟩
theorem mf_X8_isWithin : MS yX8_isWithin cX8_isWithin 3 (some .boolean) 3 := ⟨List.mem_of_getElem? (i := 332) (by decide +kernel), List.mem_of_getElem? (i := 331) (by decide +kernel), List.mem_of_getElem? (i := 54) (by decide +kernel), by decide +kernel⟩
theorem mf_X8_judge : MF yX8_judge cX8_judge 3 (some .int) 1 := ⟨List.mem_of_getElem? (i := 392) (by decide +kernel), List.mem_of_getElem? (i := 390) (by decide +kernel), List.mem_of_getElem? (i := 391) (by decide +kernel), List.mem_of_getElem? (i := 54) (by decide +kernel), by decide +kernel⟩
theorem mf_X8_leave : MF yX8_leave cX8_leave 2 (some .int) 1 := ⟨List.mem_of_getElem? (i := 346) (by decide +kernel), List.mem_of_getElem? (i := 344) (by decide +kernel), List.mem_of_getElem? (i := 345) (by decide +kernel), List.mem_of_getElem? (i := 54) (by decide +kernel), by decide +kernel⟩
theorem mf_X8_ledger : MF yX8_ledger cX8_ledger 4 (some .int) 1 := ⟨List.mem_of_getElem? (i := 479) (by decide +kernel), List.mem_of_getElem? (i := 477) (by decide +kernel), List.mem_of_getElem? (i := 478) (by decide +kernel), List.mem_of_getElem? (i := 54) (by decide +kernel), by decide +kernel⟩
theorem mf_X8_lots : MF yX8_lots cX8_lots 1 (some .int) 0 := ⟨List.mem_of_getElem? (i := 543) (by decide +kernel), List.mem_of_getElem? (i := 541) (by decide +kernel), List.mem_of_getElem? (i := 542) (by decide +kernel), List.mem_of_getElem? (i := 54) (by decide +kernel), by decide +kernel⟩
theorem mf_X8_officer : MF yX8_officer cX8_officer 3 (some .int) 2 := ⟨List.mem_of_getElem? (i := 329) (by decide +kernel), List.mem_of_getElem? (i := 327) (by decide +kernel), List.mem_of_getElem? (i := 328) (by decide +kernel), List.mem_of_getElem? (i := 54) (by decide +kernel), by decide +kernel⟩
theorem mf_X8_owed : MF yX8_owed cX8_owed 1 (some .int) 0 := ⟨List.mem_of_getElem? (i := 493) (by decide +kernel), List.mem_of_getElem? (i := 491) (by decide +kernel), List.mem_of_getElem? (i := 492) (by decide +kernel), List.mem_of_getElem? (i := 54) (by decide +kernel), by decide +kernel⟩
theorem mf_X8_rank : MF yX8_rank cX8_rank 2 (some .int) 1 := ⟨List.mem_of_getElem? (i := 625) (by decide +kernel), List.mem_of_getElem? (i := 623) (by decide +kernel), List.mem_of_getElem? (i := 624) (by decide +kernel), List.mem_of_getElem? (i := 54) (by decide +kernel), by decide +kernel⟩
theorem mf_X8_rate : MF yX8_rate cX8_rate 4 (some .int) 2 := ⟨List.mem_of_getElem? (i := 354) (by decide +kernel), List.mem_of_getElem? (i := 352) (by decide +kernel), List.mem_of_getElem? (i := 353) (by decide +kernel), List.mem_of_getElem? (i := 54) (by decide +kernel), by decide +kernel⟩
theorem mf_X8_readMonths : MF yX8_readMonths cX8_readMonths 1 (some .int) 0 := ⟨List.mem_of_getElem? (i := 396) (by decide +kernel), List.mem_of_getElem? (i := 395) (by decide +kernel), List.mem_of_getElem? (i := 0) (by decide +kernel), List.mem_of_getElem? (i := 54) (by decide +kernel), by decide +kernel⟩
theorem mf_X8_restore : MF yX8_restore cX8_restore 2 (some .int) 1 := ⟨List.mem_of_getElem? (i := 720) (by decide +kernel), List.mem_of_getElem? (i := 718) (by decide +kernel), List.mem_of_getElem? (i := 719) (by decide +kernel), List.mem_of_getElem? (i := 54) (by decide +kernel), by decide +kernel⟩
theorem mf_X8_rests : MF yX8_rests cX8_rests 5 (some .int) 4 := ⟨List.mem_of_getElem? (i := 682) (by decide +kernel), List.mem_of_getElem? (i := 680) (by decide +kernel), List.mem_of_getElem? (i := 681) (by decide +kernel), List.mem_of_getElem? (i := 54) (by decide +kernel), by decide +kernel⟩
theorem mf_X8_say : MF yX8_say cX8_say 2 (some .int) 1 := ⟨List.mem_of_getElem? (i := 362) (by decide +kernel), List.mem_of_getElem? (i := 360) (by decide +kernel), List.mem_of_getElem? (i := 361) (by decide +kernel), List.mem_of_getElem? (i := 54) (by decide +kernel), by decide +kernel⟩
theorem mf_X8_seen : MF yX8_seen cX8_seen 4 (some .int) 3 := ⟨List.mem_of_getElem? (i := 590) (by decide +kernel), List.mem_of_getElem? (i := 588) (by decide +kernel), List.mem_of_getElem? (i := 589) (by decide +kernel), List.mem_of_getElem? (i := 54) (by decide +kernel), by decide +kernel⟩
theorem mf_X8_told : MF yX8_told cX8_told 2 (some .int) 1 := ⟨List.mem_of_getElem? (i := 724) (by decide +kernel), List.mem_of_getElem? (i := 722) (by decide +kernel), List.mem_of_getElem? (i := 723) (by decide +kernel), List.mem_of_getElem? (i := 54) (by decide +kernel), by decide +kernel⟩
theorem mf_X8_toldCount : MF yX8_toldCount cX8_toldCount 2 (some .int) 1 := ⟨List.mem_of_getElem? (i := 728) (by decide +kernel), List.mem_of_getElem? (i := 727) (by decide +kernel), List.mem_of_getElem? (i := 19) (by decide +kernel), List.mem_of_getElem? (i := 54) (by decide +kernel), by decide +kernel⟩
theorem mf_X8_trust : MF yX8_trust cX8_trust 3 (some .int) 1 := ⟨List.mem_of_getElem? (i := 358) (by decide +kernel), List.mem_of_getElem? (i := 356) (by decide +kernel), List.mem_of_getElem? (i := 357) (by decide +kernel), List.mem_of_getElem? (i := 54) (by decide +kernel), by decide +kernel⟩
theorem mf_X8_weigh : MF yX8_weigh cX8_weigh 2 (some .int) 1 := ⟨List.mem_of_getElem? (i := 633) (by decide +kernel), List.mem_of_getElem? (i := 631) (by decide +kernel), List.mem_of_getElem? (i := 632) (by decide +kernel), List.mem_of_getElem? (i := 54) (by decide +kernel), by decide +kernel⟩
theorem mf_X8_wipe : MF yX8_wipe cX8_wipe 2 (some .int) 0 := ⟨List.mem_of_getElem? (i := 370) (by decide +kernel), List.mem_of_getElem? (i := 368) (by decide +kernel), List.mem_of_getElem? (i := 369) (by decide +kernel), List.mem_of_getElem? (i := 54) (by decide +kernel), by decide +kernel⟩
theorem mf_X8_year : MF yX8_year cX8_year 4 (some .int) 3 := ⟨List.mem_of_getElem? (i := 690) (by decide +kernel), List.mem_of_getElem? (i := 688) (by decide +kernel), List.mem_of_getElem? (i := 689) (by decide +kernel), List.mem_of_getElem? (i := 54) (by decide +kernel), by decide +kernel⟩
theorem mf_X9_add : MF yX9_add cX9_add 2 (none) 1 := ⟨List.mem_of_getElem? (i := 899) (by decide +kernel), List.mem_of_getElem? (i := 898) (by decide +kernel), List.mem_of_getElem? (i := 22) (by decide +kernel), List.mem_of_getElem? (i := 63) (by decide +kernel), by decide +kernel⟩
theorem mf_X9_areAllOpen : MF yX9_areAllOpen cX9_areAllOpen 4 (some .boolean) 1 := ⟨List.mem_of_getElem? (i := 933) (by decide +kernel), List.mem_of_getElem? (i := 932) (by decide +kernel), List.mem_of_getElem? (i := 29) (by decide +kernel), List.mem_of_getElem? (i := 63) (by decide +kernel), by decide +kernel⟩
theorem mf_X9_begin : MF yX9_begin cX9_begin 3 (some .int) 1 := ⟨List.mem_of_getElem? (i := 885) (by decide +kernel), List.mem_of_getElem? (i := 884) (by decide +kernel), List.mem_of_getElem? (i := 21) (by decide +kernel), List.mem_of_getElem? (i := 63) (by decide +kernel), by decide +kernel⟩
theorem mf_X9_behind : MF yX9_behind cX9_behind 4 (some .int) 2 := ⟨List.mem_of_getElem? (i := 980) (by decide +kernel), List.mem_of_getElem? (i := 978) (by decide +kernel), List.mem_of_getElem? (i := 979) (by decide +kernel), List.mem_of_getElem? (i := 63) (by decide +kernel), by decide +kernel⟩
theorem mf_X9_breakWord : MF yX9_breakWord cX9_breakWord 2 (none) 1 := ⟨List.mem_of_getElem? (i := 964) (by decide +kernel), List.mem_of_getElem? (i := 963) (by decide +kernel), List.mem_of_getElem? (i := 36) (by decide +kernel), List.mem_of_getElem? (i := 63) (by decide +kernel), by decide +kernel⟩
theorem mf_X9_bring : MF yX9_bring cX9_bring 3 (some .int) 2 := ⟨List.mem_of_getElem? (i := 1012) (by decide +kernel), List.mem_of_getElem? (i := 1010) (by decide +kernel), List.mem_of_getElem? (i := 1011) (by decide +kernel), List.mem_of_getElem? (i := 63) (by decide +kernel), by decide +kernel⟩
theorem mf_X9_broken : MF yX9_broken cX9_broken 11 (some .long) 3 := ⟨List.mem_of_getElem? (i := 1077) (by decide +kernel), List.mem_of_getElem? (i := 1075) (by decide +kernel), List.mem_of_getElem? (i := 1076) (by decide +kernel), List.mem_of_getElem? (i := 63) (by decide +kernel), by decide +kernel⟩
theorem mf_X9_canDeed : MF yX9_canDeed cX9_canDeed 3 (some .boolean) 2 := ⟨List.mem_of_getElem? (i := 952) (by decide +kernel), List.mem_of_getElem? (i := 951) (by decide +kernel), List.mem_of_getElem? (i := 33) (by decide +kernel), List.mem_of_getElem? (i := 63) (by decide +kernel), by decide +kernel⟩
theorem mf_X9_canExchange : MF yX9_canExchange cX9_canExchange 4 (some .boolean) 2 := ⟨List.mem_of_getElem? (i := 1008) (by decide +kernel), List.mem_of_getElem? (i := 1007) (by decide +kernel), List.mem_of_getElem? (i := 42) (by decide +kernel), List.mem_of_getElem? (i := 63) (by decide +kernel), by decide +kernel⟩
theorem mf_X9_deed : MF yX9_deed cX9_deed 2 (some .int) 1 := ⟨List.mem_of_getElem? (i := 903) (by decide +kernel), List.mem_of_getElem? (i := 902) (by decide +kernel), List.mem_of_getElem? (i := 23) (by decide +kernel), List.mem_of_getElem? (i := 63) (by decide +kernel), by decide +kernel⟩
theorem mf_X9_done : MF yX9_done cX9_done 2 (some .int) 0 := ⟨List.mem_of_getElem? (i := 988) (by decide +kernel), List.mem_of_getElem? (i := 986) (by decide +kernel), List.mem_of_getElem? (i := 987) (by decide +kernel), List.mem_of_getElem? (i := 63) (by decide +kernel), by decide +kernel⟩
theorem mf_X9_even : MF yX9_even cX9_even 1 (some .int) 0 := ⟨List.mem_of_getElem? (i := 1020) (by decide +kernel), List.mem_of_getElem? (i := 1018) (by decide +kernel), List.mem_of_getElem? (i := 1019) (by decide +kernel), List.mem_of_getElem? (i := 63) (by decide +kernel), by decide +kernel⟩
theorem mf_X9_exchange : MF yX9_exchange cX9_exchange 3 (none) 1 := ⟨List.mem_of_getElem? (i := 968) (by decide +kernel), List.mem_of_getElem? (i := 967) (by decide +kernel), List.mem_of_getElem? (i := 37) (by decide +kernel), List.mem_of_getElem? (i := 63) (by decide +kernel), by decide +kernel⟩
theorem mf_X9_fair : MF yX9_fair cX9_fair 5 (some .int) 1 := ⟨List.mem_of_getElem? (i := 1032) (by decide +kernel), List.mem_of_getElem? (i := 1030) (by decide +kernel), List.mem_of_getElem? (i := 1031) (by decide +kernel), List.mem_of_getElem? (i := 63) (by decide +kernel), by decide +kernel⟩
theorem mf_X9_fault : MF yX9_fault cX9_fault 3 (some .int) 0 := ⟨List.mem_of_getElem? (i := 881) (by decide +kernel), List.mem_of_getElem? (i := 879) (by decide +kernel), List.mem_of_getElem? (i := 880) (by decide +kernel), List.mem_of_getElem? (i := 63) (by decide +kernel), by decide +kernel⟩
theorem mf_X9_findExchange : MF yX9_findExchange cX9_findExchange 6 (none) 2 := ⟨List.mem_of_getElem? (i := 1000) (by decide +kernel), List.mem_of_getElem? (i := 999) (by decide +kernel), List.mem_of_getElem? (i := 40) (by decide +kernel), List.mem_of_getElem? (i := 63) (by decide +kernel), by decide +kernel⟩
theorem mf_X9_findWorlds : MF yX9_findWorlds cX9_findWorlds 2 (none) 0 := ⟨List.mem_of_getElem? (i := 1049) (by decide +kernel), List.mem_of_getElem? (i := 1048) (by decide +kernel), List.mem_of_getElem? (i := 45) (by decide +kernel), List.mem_of_getElem? (i := 63) (by decide +kernel), by decide +kernel⟩
theorem mf_X9_forged : MF yX9_forged cX9_forged 4 (some .int) 1 := ⟨List.mem_of_getElem? (i := 1045) (by decide +kernel), List.mem_of_getElem? (i := 1043) (by decide +kernel), List.mem_of_getElem? (i := 1044) (by decide +kernel), List.mem_of_getElem? (i := 63) (by decide +kernel), by decide +kernel⟩
theorem mf_X9_forget : MF yX9_forget cX9_forget 2 (some .int) 0 := ⟨List.mem_of_getElem? (i := 1041) (by decide +kernel), List.mem_of_getElem? (i := 1039) (by decide +kernel), List.mem_of_getElem? (i := 1040) (by decide +kernel), List.mem_of_getElem? (i := 63) (by decide +kernel), by decide +kernel⟩
theorem mf_X9_goMonths : MF yX9_goMonths cX9_goMonths 3 (none) 0 := ⟨List.mem_of_getElem? (i := 925) (by decide +kernel), List.mem_of_getElem? (i := 924) (by decide +kernel), List.mem_of_getElem? (i := 27) (by decide +kernel), List.mem_of_getElem? (i := 63) (by decide +kernel), by decide +kernel⟩
theorem mf_X9_happen : MF yX9_happen cX9_happen 3 (none) 2 := ⟨List.mem_of_getElem? (i := 960) (by decide +kernel), List.mem_of_getElem? (i := 959) (by decide +kernel), List.mem_of_getElem? (i := 35) (by decide +kernel), List.mem_of_getElem? (i := 63) (by decide +kernel), by decide +kernel⟩
theorem mf_X9_home : MF yX9_home cX9_home 2 (some .int) 1 := ⟨List.mem_of_getElem? (i := 996) (by decide +kernel), List.mem_of_getElem? (i := 994) (by decide +kernel), List.mem_of_getElem? (i := 995) (by decide +kernel), List.mem_of_getElem? (i := 63) (by decide +kernel), by decide +kernel⟩
theorem mf_X9_image : MF yX9_image cX9_image 2 (some .int) 1 := ⟨List.mem_of_getElem? (i := 1103) (by decide +kernel), List.mem_of_getElem? (i := 1101) (by decide +kernel), List.mem_of_getElem? (i := 1102) (by decide +kernel), List.mem_of_getElem? (i := 63) (by decide +kernel), by decide +kernel⟩
theorem mf_X9_in : MS yX9_in cX9_in 6 (some .boolean) 3 := ⟨List.mem_of_getElem? (i := 842) (by decide +kernel), List.mem_of_getElem? (i := 841) (by decide +kernel), List.mem_of_getElem? (i := 63) (by decide +kernel), by decide +kernel⟩
theorem mf_X9_inLots : MF yX9_inLots cX9_inLots 4 (some .int) 2 := ⟨List.mem_of_getElem? (i := 907) (by decide +kernel), List.mem_of_getElem? (i := 906) (by decide +kernel), List.mem_of_getElem? (i := 24) (by decide +kernel), List.mem_of_getElem? (i := 63) (by decide +kernel), by decide +kernel⟩
theorem mf_X9_isAllEven : MF yX9_isAllEven cX9_isAllEven 1 (some .boolean) 0 := ⟨List.mem_of_getElem? (i := 1024) (by decide +kernel), List.mem_of_getElem? (i := 1023) (by decide +kernel), List.mem_of_getElem? (i := 43) (by decide +kernel), List.mem_of_getElem? (i := 63) (by decide +kernel), by decide +kernel⟩
theorem mf_X9_isBetter : MF yX9_isBetter cX9_isBetter 6 (some .boolean) 3 := ⟨List.mem_of_getElem? (i := 1004) (by decide +kernel), List.mem_of_getElem? (i := 1003) (by decide +kernel), List.mem_of_getElem? (i := 41) (by decide +kernel), List.mem_of_getElem? (i := 63) (by decide +kernel), by decide +kernel⟩
theorem mf_X9_isEvenIn : MF yX9_isEvenIn cX9_isEvenIn 8 (some .boolean) 3 := ⟨List.mem_of_getElem? (i := 1057) (by decide +kernel), List.mem_of_getElem? (i := 1056) (by decide +kernel), List.mem_of_getElem? (i := 47) (by decide +kernel), List.mem_of_getElem? (i := 63) (by decide +kernel), by decide +kernel⟩
theorem mf_X9_isNobodyOpen : MF yX9_isNobodyOpen cX9_isNobodyOpen 4 (some .boolean) 1 := ⟨List.mem_of_getElem? (i := 1028) (by decide +kernel), List.mem_of_getElem? (i := 1027) (by decide +kernel), List.mem_of_getElem? (i := 44) (by decide +kernel), List.mem_of_getElem? (i := 63) (by decide +kernel), by decide +kernel⟩
theorem mf_X9_isOfficer : MF yX9_isOfficer cX9_isOfficer 2 (some .boolean) 1 := ⟨List.mem_of_getElem? (i := 857) (by decide +kernel), List.mem_of_getElem? (i := 856) (by decide +kernel), List.mem_of_getElem? (i := 20) (by decide +kernel), List.mem_of_getElem? (i := 63) (by decide +kernel), by decide +kernel⟩
theorem mf_X9_isOpen : MF yX9_isOpen cX9_isOpen 2 (some .boolean) 1 := ⟨List.mem_of_getElem? (i := 937) (by decide +kernel), List.mem_of_getElem? (i := 936) (by decide +kernel), List.mem_of_getElem? (i := 30) (by decide +kernel), List.mem_of_getElem? (i := 63) (by decide +kernel), by decide +kernel⟩
theorem mf_X9_isOut : MF yX9_isOut cX9_isOut 2 (some .boolean) 1 := ⟨List.mem_of_getElem? (i := 956) (by decide +kernel), List.mem_of_getElem? (i := 955) (by decide +kernel), List.mem_of_getElem? (i := 34) (by decide +kernel), List.mem_of_getElem? (i := 63) (by decide +kernel), by decide +kernel⟩
theorem mf_X9_isRank : MS yX9_isRank cX9_isRank 1 (some .boolean) 1 := ⟨List.mem_of_getElem? (i := 845) (by decide +kernel), List.mem_of_getElem? (i := 844) (by decide +kernel), List.mem_of_getElem? (i := 63) (by decide +kernel), by decide +kernel⟩
theorem mf_X9_isWorld : MF yX9_isWorld cX9_isWorld 4 (some .boolean) 1 := ⟨List.mem_of_getElem? (i := 1053) (by decide +kernel), List.mem_of_getElem? (i := 1052) (by decide +kernel), List.mem_of_getElem? (i := 46) (by decide +kernel), List.mem_of_getElem? (i := 63) (by decide +kernel), by decide +kernel⟩
theorem mf_X9_judge : MF yX9_judge cX9_judge 3 (some .int) 1 := ⟨List.mem_of_getElem? (i := 911) (by decide +kernel), List.mem_of_getElem? (i := 909) (by decide +kernel), List.mem_of_getElem? (i := 910) (by decide +kernel), List.mem_of_getElem? (i := 63) (by decide +kernel), by decide +kernel⟩
theorem mf_X9_lay : MF yX9_lay cX9_lay 3 (none) 1 := ⟨List.mem_of_getElem? (i := 976) (by decide +kernel), List.mem_of_getElem? (i := 975) (by decide +kernel), List.mem_of_getElem? (i := 39) (by decide +kernel), List.mem_of_getElem? (i := 63) (by decide +kernel), by decide +kernel⟩
theorem mf_X9_leave : MF yX9_leave cX9_leave 2 (some .int) 1 := ⟨List.mem_of_getElem? (i := 853) (by decide +kernel), List.mem_of_getElem? (i := 851) (by decide +kernel), List.mem_of_getElem? (i := 852) (by decide +kernel), List.mem_of_getElem? (i := 63) (by decide +kernel), by decide +kernel⟩
theorem mf_X9_ledger : MF yX9_ledger cX9_ledger 3 (some .int) 1 := ⟨List.mem_of_getElem? (i := 984) (by decide +kernel), List.mem_of_getElem? (i := 982) (by decide +kernel), List.mem_of_getElem? (i := 983) (by decide +kernel), List.mem_of_getElem? (i := 63) (by decide +kernel), by decide +kernel⟩
theorem mf_X9_lots : MF yX9_lots cX9_lots 6 (some .int) 0 := ⟨List.mem_of_getElem? (i := 1016) (by decide +kernel), List.mem_of_getElem? (i := 1014) (by decide +kernel), List.mem_of_getElem? (i := 1015) (by decide +kernel), List.mem_of_getElem? (i := 63) (by decide +kernel), by decide +kernel⟩
theorem mf_X9_lowest : MS yX9_lowest cX9_lowest 11 (some .long) 3 := ⟨List.mem_of_getElem? (i := 1087) (by decide +kernel), List.mem_of_getElem? (i := 1086) (by decide +kernel), List.mem_of_getElem? (i := 63) (by decide +kernel), by decide +kernel⟩
theorem mf_X9_mostLeft : MF yX9_mostLeft cX9_mostLeft 5 (some .int) 2 := ⟨List.mem_of_getElem? (i := 1073) (by decide +kernel), List.mem_of_getElem? (i := 1072) (by decide +kernel), List.mem_of_getElem? (i := 49) (by decide +kernel), List.mem_of_getElem? (i := 63) (by decide +kernel), by decide +kernel⟩
theorem mf_X9_officer : MF yX9_officer cX9_officer 3 (some .int) 2 := ⟨List.mem_of_getElem? (i := 838) (by decide +kernel), List.mem_of_getElem? (i := 836) (by decide +kernel), List.mem_of_getElem? (i := 837) (by decide +kernel), List.mem_of_getElem? (i := 63) (by decide +kernel), by decide +kernel⟩
theorem mf_X9_ones : MS yX9_ones cX9_ones 3 (some .int) 1 := ⟨List.mem_of_getElem? (i := 849) (by decide +kernel), List.mem_of_getElem? (i := 848) (by decide +kernel), List.mem_of_getElem? (i := 63) (by decide +kernel), by decide +kernel⟩
theorem mf_X9_only : MS yX9_only cX9_only 2 (some .int) 1 := ⟨List.mem_of_getElem? (i := 948) (by decide +kernel), List.mem_of_getElem? (i := 947) (by decide +kernel), List.mem_of_getElem? (i := 63) (by decide +kernel), by decide +kernel⟩
theorem mf_X9_ours : MS yX9_ours cX9_ours 1 (some .int) 1 := ⟨List.mem_of_getElem? (i := 888) (by decide +kernel), List.mem_of_getElem? (i := 887) (by decide +kernel), List.mem_of_getElem? (i := 63) (by decide +kernel), by decide +kernel⟩
theorem mf_X9_outOf : MF yX9_outOf cX9_outOf 5 (some .int) 2 := ⟨List.mem_of_getElem? (i := 1084) (by decide +kernel), List.mem_of_getElem? (i := 1083) (by decide +kernel), List.mem_of_getElem? (i := 50) (by decide +kernel), List.mem_of_getElem? (i := 63) (by decide +kernel), by decide +kernel⟩
theorem mf_X9_owed : MF yX9_owed cX9_owed 1 (some .int) 0 := ⟨List.mem_of_getElem? (i := 992) (by decide +kernel), List.mem_of_getElem? (i := 990) (by decide +kernel), List.mem_of_getElem? (i := 991) (by decide +kernel), List.mem_of_getElem? (i := 63) (by decide +kernel), by decide +kernel⟩
theorem mf_X9_pass : MF yX9_pass cX9_pass 3 (some .int) 1 := ⟨List.mem_of_getElem? (i := 1111) (by decide +kernel), List.mem_of_getElem? (i := 1110) (by decide +kernel), List.mem_of_getElem? (i := 52) (by decide +kernel), List.mem_of_getElem? (i := 63) (by decide +kernel), by decide +kernel⟩
theorem mf_X9_passAll : MF yX9_passAll cX9_passAll 2 (none) 0 := ⟨List.mem_of_getElem? (i := 1107) (by decide +kernel), List.mem_of_getElem? (i := 1106) (by decide +kernel), List.mem_of_getElem? (i := 51) (by decide +kernel), List.mem_of_getElem? (i := 63) (by decide +kernel), by decide +kernel⟩
theorem mf_X9_rank : MF yX9_rank cX9_rank 3 (some .int) 1 := ⟨List.mem_of_getElem? (i := 1065) (by decide +kernel), List.mem_of_getElem? (i := 1063) (by decide +kernel), List.mem_of_getElem? (i := 1064) (by decide +kernel), List.mem_of_getElem? (i := 63) (by decide +kernel), by decide +kernel⟩
theorem mf_X9_rate : MF yX9_rate cX9_rate 4 (some .int) 2 := ⟨List.mem_of_getElem? (i := 861) (by decide +kernel), List.mem_of_getElem? (i := 859) (by decide +kernel), List.mem_of_getElem? (i := 860) (by decide +kernel), List.mem_of_getElem? (i := 63) (by decide +kernel), by decide +kernel⟩
theorem mf_X9_rateIn : MF yX9_rateIn cX9_rateIn 3 (some .int) 2 := ⟨List.mem_of_getElem? (i := 1061) (by decide +kernel), List.mem_of_getElem? (i := 1060) (by decide +kernel), List.mem_of_getElem? (i := 48) (by decide +kernel), List.mem_of_getElem? (i := 63) (by decide +kernel), by decide +kernel⟩
theorem mf_X9_rateOf : MF yX9_rateOf cX9_rateOf 2 (some .int) 1 := ⟨List.mem_of_getElem? (i := 945) (by decide +kernel), List.mem_of_getElem? (i := 944) (by decide +kernel), List.mem_of_getElem? (i := 32) (by decide +kernel), List.mem_of_getElem? (i := 63) (by decide +kernel), by decide +kernel⟩
theorem mf_X9_refusal : MF yX9_refusal cX9_refusal 1 (some .int) 0 := ⟨List.mem_of_getElem? (i := 916) (by decide +kernel), List.mem_of_getElem? (i := 915) (by decide +kernel), List.mem_of_getElem? (i := 25) (by decide +kernel), List.mem_of_getElem? (i := 63) (by decide +kernel), by decide +kernel⟩
theorem mf_X9_restore : MF yX9_restore cX9_restore 2 (some .int) 1 := ⟨List.mem_of_getElem? (i := 1115) (by decide +kernel), List.mem_of_getElem? (i := 1113) (by decide +kernel), List.mem_of_getElem? (i := 1114) (by decide +kernel), List.mem_of_getElem? (i := 63) (by decide +kernel), by decide +kernel⟩
theorem mf_X9_rests : MF yX9_rests cX9_rests 12 (some .int) 4 := ⟨List.mem_of_getElem? (i := 1091) (by decide +kernel), List.mem_of_getElem? (i := 1089) (by decide +kernel), List.mem_of_getElem? (i := 1090) (by decide +kernel), List.mem_of_getElem? (i := 63) (by decide +kernel), by decide +kernel⟩
theorem mf_X9_say : MF yX9_say cX9_say 2 (some .int) 1 := ⟨List.mem_of_getElem? (i := 871) (by decide +kernel), List.mem_of_getElem? (i := 869) (by decide +kernel), List.mem_of_getElem? (i := 870) (by decide +kernel), List.mem_of_getElem? (i := 63) (by decide +kernel), by decide +kernel⟩
theorem mf_X9_seen : MF yX9_seen cX9_seen 5 (some .int) 3 := ⟨List.mem_of_getElem? (i := 1036) (by decide +kernel), List.mem_of_getElem? (i := 1034) (by decide +kernel), List.mem_of_getElem? (i := 1035) (by decide +kernel), List.mem_of_getElem? (i := 63) (by decide +kernel), by decide +kernel⟩
theorem mf_X9_store : MF yX9_store cX9_store 3 (none) 1 := ⟨List.mem_of_getElem? (i := 921) (by decide +kernel), List.mem_of_getElem? (i := 920) (by decide +kernel), List.mem_of_getElem? (i := 26) (by decide +kernel), List.mem_of_getElem? (i := 63) (by decide +kernel), by decide +kernel⟩
theorem mf_X9_sumOpen : MF yX9_sumOpen cX9_sumOpen 4 (some .int) 1 := ⟨List.mem_of_getElem? (i := 972) (by decide +kernel), List.mem_of_getElem? (i := 971) (by decide +kernel), List.mem_of_getElem? (i := 38) (by decide +kernel), List.mem_of_getElem? (i := 63) (by decide +kernel), by decide +kernel⟩
theorem mf_X9_theirs : MS yX9_theirs cX9_theirs 1 (some .int) 1 := ⟨List.mem_of_getElem? (i := 893) (by decide +kernel), List.mem_of_getElem? (i := 892) (by decide +kernel), List.mem_of_getElem? (i := 63) (by decide +kernel), by decide +kernel⟩
theorem mf_X9_told : MF yX9_told cX9_told 2 (some .int) 1 := ⟨List.mem_of_getElem? (i := 1119) (by decide +kernel), List.mem_of_getElem? (i := 1117) (by decide +kernel), List.mem_of_getElem? (i := 1118) (by decide +kernel), List.mem_of_getElem? (i := 63) (by decide +kernel), by decide +kernel⟩
theorem mf_X9_trust : MF yX9_trust cX9_trust 3 (some .int) 1 := ⟨List.mem_of_getElem? (i := 866) (by decide +kernel), List.mem_of_getElem? (i := 864) (by decide +kernel), List.mem_of_getElem? (i := 865) (by decide +kernel), List.mem_of_getElem? (i := 63) (by decide +kernel), by decide +kernel⟩
theorem mf_X9_weigh : MF yX9_weigh cX9_weigh 7 (some .int) 1 := ⟨List.mem_of_getElem? (i := 1069) (by decide +kernel), List.mem_of_getElem? (i := 1067) (by decide +kernel), List.mem_of_getElem? (i := 1068) (by decide +kernel), List.mem_of_getElem? (i := 63) (by decide +kernel), by decide +kernel⟩
theorem mf_X9_whyNot : MF yX9_whyNot cX9_whyNot 5 (some .int) 3 := ⟨List.mem_of_getElem? (i := 929) (by decide +kernel), List.mem_of_getElem? (i := 928) (by decide +kernel), List.mem_of_getElem? (i := 28) (by decide +kernel), List.mem_of_getElem? (i := 63) (by decide +kernel), by decide +kernel⟩
theorem mf_X9_wipe : MF yX9_wipe cX9_wipe 2 (some .int) 0 := ⟨List.mem_of_getElem? (i := 877) (by decide +kernel), List.mem_of_getElem? (i := 875) (by decide +kernel), List.mem_of_getElem? (i := 876) (by decide +kernel), List.mem_of_getElem? (i := 63) (by decide +kernel), by decide +kernel⟩
theorem mf_X9_worthOf : MF yX9_worthOf cX9_worthOf 5 (some .int) 1 := ⟨List.mem_of_getElem? (i := 941) (by decide +kernel), List.mem_of_getElem? (i := 940) (by decide +kernel), List.mem_of_getElem? (i := 31) (by decide +kernel), List.mem_of_getElem? (i := 63) (by decide +kernel), by decide +kernel⟩
theorem mf_X9_year : MF yX9_year cX9_year 11 (some .int) 3 := ⟨List.mem_of_getElem? (i := 1095) (by decide +kernel), List.mem_of_getElem? (i := 1093) (by decide +kernel), List.mem_of_getElem? (i := 1094) (by decide +kernel), List.mem_of_getElem? (i := 63) (by decide +kernel), by decide +kernel⟩
def shX : List Sh := [.inr (.inl (8, [some (some (some 1)), some (some (some 6)), some (some (some 8)), some (some (some 14)), some (some (some 20)), some (some (some 24)), some (some (some 26)), some (some (some 27)), some (some (some 33)), some (some (some 44))])), .inr (.inl (0, [none, none, none, none, some (some (some 2)), some (some (some 3)), some (some (some 4)), some (some (some 5))])), .inl (0, 12), .inl (0, 12), .inl (0, 6), .inl (0, 8), .inr (.inl (4, [some (some (some 7)), none])), .inl (0, 60), .inr (.inl (3, [some (some (some 9)), none, none, none, none, none, none, none])), .inr (.inl (0, [none, none, none, none, some (some (some 10)), some (some (some 11)), some (some (some 12)), some (some (some 13))])), .inl (0, 12), .inl (0, 12), .inl (0, 6), .inl (0, 8), .inr (.inl (2, [none, none, none, none, some (some (some 15)), some (some (some 16)), some (some (some 17)), some (some (some 18)), some (some (some 19))])), .inl (0, 64), .inl (0, 64), .inl (1, 64), .inl (1, 64), .inl (1, 64), .inr (.inl (6, [none, none, none, some (some (some 21)), some (some (some 22)), some (some (some 23))])), .inl (0, 61), .inl (0, 61), .inl (0, 8), .inr (.inl (1, [some (some (some 25)), none, some none])), .inl (1, 13), .inr (.inl (5, [none, none, none])), .inr (.inl (7, [some (some (some 28)), none, none])), .inr (.inl (0, [none, none, none, none, some (some (some 29)), some (some (some 30)), some (some (some 31)), some (some (some 32))])), .inl (0, 12), .inl (0, 12), .inl (0, 6), .inl (0, 8), .inr (.inr [some 34, some 39]), .inr (.inl (0, [none, none, none, none, some (some (some 35)), some (some (some 36)), some (some (some 37)), some (some (some 38))])), .inl (0, 12), .inl (0, 12), .inl (0, 6), .inl (0, 8), .inr (.inl (0, [none, none, none, none, some (some (some 40)), some (some (some 41)), some (some (some 42)), some (some (some 43))])), .inl (0, 12), .inl (0, 12), .inl (0, 6), .inl (0, 8), .inl (2, 2)]
theorem sx_0 {G : Rg} (hG : gS G = shX) : (gS G)[0]? = some (.inr (.inl (8, [some (some (some 1)), some (some (some 6)), some (some (some 8)), some (some (some 14)), some (some (some 20)), some (some (some 24)), some (some (some 26)), some (some (some 27)), some (some (some 33)), some (some (some 44))]))) := by rw [hG]; rfl
theorem sx_1 {G : Rg} (hG : gS G = shX) : (gS G)[1]? = some (.inr (.inl (0, [none, none, none, none, some (some (some 2)), some (some (some 3)), some (some (some 4)), some (some (some 5))]))) := by rw [hG]; rfl
theorem sx_2 {G : Rg} (hG : gS G = shX) : (gS G)[2]? = some (.inl (0, 12)) := by rw [hG]; rfl
theorem sx_3 {G : Rg} (hG : gS G = shX) : (gS G)[3]? = some (.inl (0, 12)) := by rw [hG]; rfl
theorem sx_4 {G : Rg} (hG : gS G = shX) : (gS G)[4]? = some (.inl (0, 6)) := by rw [hG]; rfl
theorem sx_5 {G : Rg} (hG : gS G = shX) : (gS G)[5]? = some (.inl (0, 8)) := by rw [hG]; rfl
theorem sx_6 {G : Rg} (hG : gS G = shX) : (gS G)[6]? = some (.inr (.inl (4, [some (some (some 7)), none]))) := by rw [hG]; rfl
theorem sx_7 {G : Rg} (hG : gS G = shX) : (gS G)[7]? = some (.inl (0, 60)) := by rw [hG]; rfl
theorem sx_8 {G : Rg} (hG : gS G = shX) : (gS G)[8]? = some (.inr (.inl (3, [some (some (some 9)), none, none, none, none, none, none, none]))) := by rw [hG]; rfl
theorem sx_9 {G : Rg} (hG : gS G = shX) : (gS G)[9]? = some (.inr (.inl (0, [none, none, none, none, some (some (some 10)), some (some (some 11)), some (some (some 12)), some (some (some 13))]))) := by rw [hG]; rfl
theorem sx_10 {G : Rg} (hG : gS G = shX) : (gS G)[10]? = some (.inl (0, 12)) := by rw [hG]; rfl
theorem sx_11 {G : Rg} (hG : gS G = shX) : (gS G)[11]? = some (.inl (0, 12)) := by rw [hG]; rfl
theorem sx_12 {G : Rg} (hG : gS G = shX) : (gS G)[12]? = some (.inl (0, 6)) := by rw [hG]; rfl
theorem sx_13 {G : Rg} (hG : gS G = shX) : (gS G)[13]? = some (.inl (0, 8)) := by rw [hG]; rfl
theorem sx_14 {G : Rg} (hG : gS G = shX) : (gS G)[14]? = some (.inr (.inl (2, [none, none, none, none, some (some (some 15)), some (some (some 16)), some (some (some 17)), some (some (some 18)), some (some (some 19))]))) := by rw [hG]; rfl
theorem sx_15 {G : Rg} (hG : gS G = shX) : (gS G)[15]? = some (.inl (0, 64)) := by rw [hG]; rfl
theorem sx_16 {G : Rg} (hG : gS G = shX) : (gS G)[16]? = some (.inl (0, 64)) := by rw [hG]; rfl
theorem sx_17 {G : Rg} (hG : gS G = shX) : (gS G)[17]? = some (.inl (1, 64)) := by rw [hG]; rfl
theorem sx_18 {G : Rg} (hG : gS G = shX) : (gS G)[18]? = some (.inl (1, 64)) := by rw [hG]; rfl
theorem sx_19 {G : Rg} (hG : gS G = shX) : (gS G)[19]? = some (.inl (1, 64)) := by rw [hG]; rfl
theorem sx_20 {G : Rg} (hG : gS G = shX) : (gS G)[20]? = some (.inr (.inl (6, [none, none, none, some (some (some 21)), some (some (some 22)), some (some (some 23))]))) := by rw [hG]; rfl
theorem sx_21 {G : Rg} (hG : gS G = shX) : (gS G)[21]? = some (.inl (0, 61)) := by rw [hG]; rfl
theorem sx_22 {G : Rg} (hG : gS G = shX) : (gS G)[22]? = some (.inl (0, 61)) := by rw [hG]; rfl
theorem sx_23 {G : Rg} (hG : gS G = shX) : (gS G)[23]? = some (.inl (0, 8)) := by rw [hG]; rfl
theorem sx_24 {G : Rg} (hG : gS G = shX) : (gS G)[24]? = some (.inr (.inl (1, [some (some (some 25)), none, some none]))) := by rw [hG]; rfl
theorem sx_25 {G : Rg} (hG : gS G = shX) : (gS G)[25]? = some (.inl (1, 13)) := by rw [hG]; rfl
theorem sx_26 {G : Rg} (hG : gS G = shX) : (gS G)[26]? = some (.inr (.inl (5, [none, none, none]))) := by rw [hG]; rfl
theorem sx_27 {G : Rg} (hG : gS G = shX) : (gS G)[27]? = some (.inr (.inl (7, [some (some (some 28)), none, none]))) := by rw [hG]; rfl
theorem sx_28 {G : Rg} (hG : gS G = shX) : (gS G)[28]? = some (.inr (.inl (0, [none, none, none, none, some (some (some 29)), some (some (some 30)), some (some (some 31)), some (some (some 32))]))) := by rw [hG]; rfl
theorem sx_29 {G : Rg} (hG : gS G = shX) : (gS G)[29]? = some (.inl (0, 12)) := by rw [hG]; rfl
theorem sx_30 {G : Rg} (hG : gS G = shX) : (gS G)[30]? = some (.inl (0, 12)) := by rw [hG]; rfl
theorem sx_31 {G : Rg} (hG : gS G = shX) : (gS G)[31]? = some (.inl (0, 6)) := by rw [hG]; rfl
theorem sx_32 {G : Rg} (hG : gS G = shX) : (gS G)[32]? = some (.inl (0, 8)) := by rw [hG]; rfl
theorem sx_33 {G : Rg} (hG : gS G = shX) : (gS G)[33]? = some (.inr (.inr [some 34, some 39])) := by rw [hG]; rfl
theorem sx_34 {G : Rg} (hG : gS G = shX) : (gS G)[34]? = some (.inr (.inl (0, [none, none, none, none, some (some (some 35)), some (some (some 36)), some (some (some 37)), some (some (some 38))]))) := by rw [hG]; rfl
theorem sx_35 {G : Rg} (hG : gS G = shX) : (gS G)[35]? = some (.inl (0, 12)) := by rw [hG]; rfl
theorem sx_36 {G : Rg} (hG : gS G = shX) : (gS G)[36]? = some (.inl (0, 12)) := by rw [hG]; rfl
theorem sx_37 {G : Rg} (hG : gS G = shX) : (gS G)[37]? = some (.inl (0, 6)) := by rw [hG]; rfl
theorem sx_38 {G : Rg} (hG : gS G = shX) : (gS G)[38]? = some (.inl (0, 8)) := by rw [hG]; rfl
theorem sx_39 {G : Rg} (hG : gS G = shX) : (gS G)[39]? = some (.inr (.inl (0, [none, none, none, none, some (some (some 40)), some (some (some 41)), some (some (some 42)), some (some (some 43))]))) := by rw [hG]; rfl
theorem sx_40 {G : Rg} (hG : gS G = shX) : (gS G)[40]? = some (.inl (0, 12)) := by rw [hG]; rfl
theorem sx_41 {G : Rg} (hG : gS G = shX) : (gS G)[41]? = some (.inl (0, 12)) := by rw [hG]; rfl
theorem sx_42 {G : Rg} (hG : gS G = shX) : (gS G)[42]? = some (.inl (0, 6)) := by rw [hG]; rfl
theorem sx_43 {G : Rg} (hG : gS G = shX) : (gS G)[43]? = some (.inl (0, 8)) := by rw [hG]; rfl
theorem sx_44 {G : Rg} (hG : gS G = shX) : (gS G)[44]? = some (.inl (2, 2)) := by rw [hG]; rfl
def shM : List Sh := [.inr (.inl (9, [none, none, some (some (some 1)), some (some (some 2)), some (some (some 3)), some (some (some 4)), some (some (some 5)), some (some (some 6)), none, some (some (some 7)), none, some (some (some 8)), some (some (some 9)), some (some (some 10)), none, none, none, some (some (some 11)), some (some (some 12)), none, none, none, none, none, none, some (some (some 13)), some (some (some 14)), none, some (some (some 15)), some (some (some 16)), some (some (some 17)), none, none])), .inl (0, 12), .inl (0, 12), .inl (0, 6), .inl (0, 8), .inl (0, 8), .inl (0, 8), .inl (0, 60), .inl (0, 60), .inl (0, 60), .inl (0, 60), .inl (0, 25), .inl (0, 25), .inl (0, 4096), .inl (0, 73), .inl (1, 13), .inl (0, 140), .inl (2, 2)]
theorem sm_0 {G : Rg} (hG : gS G = shM) : (gS G)[0]? = some (.inr (.inl (9, [none, none, some (some (some 1)), some (some (some 2)), some (some (some 3)), some (some (some 4)), some (some (some 5)), some (some (some 6)), none, some (some (some 7)), none, some (some (some 8)), some (some (some 9)), some (some (some 10)), none, none, none, some (some (some 11)), some (some (some 12)), none, none, none, none, none, none, some (some (some 13)), some (some (some 14)), none, some (some (some 15)), some (some (some 16)), some (some (some 17)), none, none]))) := by rw [hG]; rfl
theorem sm_1 {G : Rg} (hG : gS G = shM) : (gS G)[1]? = some (.inl (0, 12)) := by rw [hG]; rfl
theorem sm_2 {G : Rg} (hG : gS G = shM) : (gS G)[2]? = some (.inl (0, 12)) := by rw [hG]; rfl
theorem sm_3 {G : Rg} (hG : gS G = shM) : (gS G)[3]? = some (.inl (0, 6)) := by rw [hG]; rfl
theorem sm_4 {G : Rg} (hG : gS G = shM) : (gS G)[4]? = some (.inl (0, 8)) := by rw [hG]; rfl
theorem sm_5 {G : Rg} (hG : gS G = shM) : (gS G)[5]? = some (.inl (0, 8)) := by rw [hG]; rfl
theorem sm_6 {G : Rg} (hG : gS G = shM) : (gS G)[6]? = some (.inl (0, 8)) := by rw [hG]; rfl
theorem sm_7 {G : Rg} (hG : gS G = shM) : (gS G)[7]? = some (.inl (0, 60)) := by rw [hG]; rfl
theorem sm_8 {G : Rg} (hG : gS G = shM) : (gS G)[8]? = some (.inl (0, 60)) := by rw [hG]; rfl
theorem sm_9 {G : Rg} (hG : gS G = shM) : (gS G)[9]? = some (.inl (0, 60)) := by rw [hG]; rfl
theorem sm_10 {G : Rg} (hG : gS G = shM) : (gS G)[10]? = some (.inl (0, 60)) := by rw [hG]; rfl
theorem sm_11 {G : Rg} (hG : gS G = shM) : (gS G)[11]? = some (.inl (0, 25)) := by rw [hG]; rfl
theorem sm_12 {G : Rg} (hG : gS G = shM) : (gS G)[12]? = some (.inl (0, 25)) := by rw [hG]; rfl
theorem sm_13 {G : Rg} (hG : gS G = shM) : (gS G)[13]? = some (.inl (0, 4096)) := by rw [hG]; rfl
theorem sm_14 {G : Rg} (hG : gS G = shM) : (gS G)[14]? = some (.inl (0, 73)) := by rw [hG]; rfl
theorem sm_15 {G : Rg} (hG : gS G = shM) : (gS G)[15]? = some (.inl (1, 13)) := by rw [hG]; rfl
theorem sm_16 {G : Rg} (hG : gS G = shM) : (gS G)[16]? = some (.inl (0, 140)) := by rw [hG]; rfl
theorem sm_17 {G : Rg} (hG : gS G = shM) : (gS G)[17]? = some (.inl (2, 2)) := by rw [hG]; rfl
theorem bx_1 {G : Rg} (hG : gS G = shX) : isB G 1 := ⟨sx_1 hG, sx_2 hG, sx_3 hG, sx_4 hG, sx_5 hG⟩
theorem bx_9 {G : Rg} (hG : gS G = shX) : isB G 9 := ⟨sx_9 hG, sx_10 hG, sx_11 hG, sx_12 hG, sx_13 hG⟩
theorem bx_28 {G : Rg} (hG : gS G = shX) : isB G 28 := ⟨sx_28 hG, sx_29 hG, sx_30 hG, sx_31 hG, sx_32 hG⟩
theorem bx_34 {G : Rg} (hG : gS G = shX) : isB G 34 := ⟨sx_34 hG, sx_35 hG, sx_36 hG, sx_37 hG, sx_38 hG⟩
theorem bx_39 {G : Rg} (hG : gS G = shX) : isB G 39 := ⟨sx_39 hG, sx_40 hG, sx_41 hG, sx_42 hG, sx_43 hG⟩
def imgC (i : Int32) : Nat := if i = 0 then 34 else 39
theorem img_B {G : Rg} (hG : gS G = shX) (i : Int32) : isB G (imgC i) := by
  unfold imgC
  split
  · exact bx_34 hG
  · exact bx_39 hG
theorem img_at {i : Int32} (h : inb i 2 = true) : ([some 34, some 39] : List (Option Nat))[i.toNatClampNeg]? = some (some (imgC i)) := by
  obtain ⟨j, hj, rfl⟩ := vp_in_of (inb_in h) (by decide)
  match j, hj with
  | 0, _ => rfl
  | 1, _ => rfl
