theorem wM_L_100 : Cond.methodLink RL 100 yX9_rank ∈ lw_tbl := List.mem_of_getElem? (i := 1062) (by decide +kernel)
theorem wM_L_101 : Cond.methodLink RL 101 yX8_weigh ∈ lw_tbl := List.mem_of_getElem? (i := 630) (by decide +kernel)
theorem wM_L_104 : Cond.methodLink RL 104 yX9_weigh ∈ lw_tbl := List.mem_of_getElem? (i := 1066) (by decide +kernel)
theorem wM_L_105 : Cond.methodLink RL 105 yX8_broken ∈ lw_tbl := List.mem_of_getElem? (i := 651) (by decide +kernel)
theorem wM_L_109 : Cond.methodLink RL 109 yX9_broken ∈ lw_tbl := List.mem_of_getElem? (i := 1074) (by decide +kernel)
theorem wM_L_110 : Cond.methodLink RL 110 yX8_rests ∈ lw_tbl := List.mem_of_getElem? (i := 679) (by decide +kernel)
theorem wM_L_114 : Cond.methodLink RL 114 yX9_rests ∈ lw_tbl := List.mem_of_getElem? (i := 1088) (by decide +kernel)
theorem wM_L_115 : Cond.methodLink RL 115 yX8_year ∈ lw_tbl := List.mem_of_getElem? (i := 687) (by decide +kernel)
theorem wM_L_119 : Cond.methodLink RL 119 yX9_year ∈ lw_tbl := List.mem_of_getElem? (i := 1092) (by decide +kernel)
theorem wM_L_120 : Cond.methodLink RL 120 yX8_image ∈ lw_tbl := List.mem_of_getElem? (i := 713) (by decide +kernel)
theorem wM_L_123 : Cond.methodLink RL 123 yX9_image ∈ lw_tbl := List.mem_of_getElem? (i := 1100) (by decide +kernel)
theorem wM_L_124 : Cond.methodLink RL 124 yX8_restore ∈ lw_tbl := List.mem_of_getElem? (i := 717) (by decide +kernel)
theorem wM_L_127 : Cond.methodLink RL 127 yX9_restore ∈ lw_tbl := List.mem_of_getElem? (i := 1112) (by decide +kernel)
theorem wM_L_128 : Cond.methodLink RL 128 yX8_told ∈ lw_tbl := List.mem_of_getElem? (i := 721) (by decide +kernel)
theorem wM_L_13 : Cond.methodLink RL 13 yX8_officer ∈ lw_tbl := List.mem_of_getElem? (i := 326) (by decide +kernel)
theorem wM_L_131 : Cond.methodLink RL 131 yX9_told ∈ lw_tbl := List.mem_of_getElem? (i := 1116) (by decide +kernel)
theorem wM_L_17 : Cond.methodLink RL 17 yX9_officer ∈ lw_tbl := List.mem_of_getElem? (i := 835) (by decide +kernel)
theorem wM_L_18 : Cond.methodLink RL 18 yX8_leave ∈ lw_tbl := List.mem_of_getElem? (i := 343) (by decide +kernel)
theorem wM_L_22 : Cond.methodLink RL 22 yX9_leave ∈ lw_tbl := List.mem_of_getElem? (i := 850) (by decide +kernel)
theorem wM_L_23 : Cond.methodLink RL 23 yX8_rate ∈ lw_tbl := List.mem_of_getElem? (i := 351) (by decide +kernel)
theorem wM_L_26 : Cond.methodLink RL 26 yX9_rate ∈ lw_tbl := List.mem_of_getElem? (i := 858) (by decide +kernel)
theorem wM_L_27 : Cond.methodLink RL 27 yX8_trust ∈ lw_tbl := List.mem_of_getElem? (i := 355) (by decide +kernel)
theorem wM_L_30 : Cond.methodLink RL 30 yX9_trust ∈ lw_tbl := List.mem_of_getElem? (i := 863) (by decide +kernel)
theorem wM_L_31 : Cond.methodLink RL 31 yX8_say ∈ lw_tbl := List.mem_of_getElem? (i := 359) (by decide +kernel)
theorem wM_L_34 : Cond.methodLink RL 34 yX9_say ∈ lw_tbl := List.mem_of_getElem? (i := 868) (by decide +kernel)
theorem wM_L_35 : Cond.methodLink RL 35 yX8_wipe ∈ lw_tbl := List.mem_of_getElem? (i := 367) (by decide +kernel)
theorem wM_L_39 : Cond.methodLink RL 39 yX9_wipe ∈ lw_tbl := List.mem_of_getElem? (i := 874) (by decide +kernel)
theorem wM_L_40 : Cond.methodLink RL 40 yX8_fault ∈ lw_tbl := List.mem_of_getElem? (i := 371) (by decide +kernel)
theorem wM_L_43 : Cond.methodLink RL 43 yX9_fault ∈ lw_tbl := List.mem_of_getElem? (i := 878) (by decide +kernel)
theorem wM_L_44 : Cond.methodLink RL 44 yX8_judge ∈ lw_tbl := List.mem_of_getElem? (i := 389) (by decide +kernel)
theorem wM_L_47 : Cond.methodLink RL 47 yX9_judge ∈ lw_tbl := List.mem_of_getElem? (i := 908) (by decide +kernel)
theorem wM_L_48 : Cond.methodLink RL 48 yX8_behind ∈ lw_tbl := List.mem_of_getElem? (i := 472) (by decide +kernel)
theorem wM_L_51 : Cond.methodLink RL 51 yX9_behind ∈ lw_tbl := List.mem_of_getElem? (i := 977) (by decide +kernel)
theorem wM_L_52 : Cond.methodLink RL 52 yX8_ledger ∈ lw_tbl := List.mem_of_getElem? (i := 476) (by decide +kernel)
theorem wM_L_55 : Cond.methodLink RL 55 yX9_ledger ∈ lw_tbl := List.mem_of_getElem? (i := 981) (by decide +kernel)
theorem wM_L_56 : Cond.methodLink RL 56 yX8_done ∈ lw_tbl := List.mem_of_getElem? (i := 485) (by decide +kernel)
theorem wM_L_59 : Cond.methodLink RL 59 yX9_done ∈ lw_tbl := List.mem_of_getElem? (i := 985) (by decide +kernel)
theorem wM_L_60 : Cond.methodLink RL 60 yX8_owed ∈ lw_tbl := List.mem_of_getElem? (i := 490) (by decide +kernel)
theorem wM_L_63 : Cond.methodLink RL 63 yX9_owed ∈ lw_tbl := List.mem_of_getElem? (i := 989) (by decide +kernel)
theorem wM_L_64 : Cond.methodLink RL 64 yX8_home ∈ lw_tbl := List.mem_of_getElem? (i := 494) (by decide +kernel)
theorem wM_L_67 : Cond.methodLink RL 67 yX9_home ∈ lw_tbl := List.mem_of_getElem? (i := 993) (by decide +kernel)
theorem wM_L_68 : Cond.methodLink RL 68 yX8_bring ∈ lw_tbl := List.mem_of_getElem? (i := 532) (by decide +kernel)
theorem wM_L_71 : Cond.methodLink RL 71 yX9_bring ∈ lw_tbl := List.mem_of_getElem? (i := 1009) (by decide +kernel)
theorem wM_L_72 : Cond.methodLink RL 72 yX8_lots ∈ lw_tbl := List.mem_of_getElem? (i := 540) (by decide +kernel)
theorem wM_L_75 : Cond.methodLink RL 75 yX9_lots ∈ lw_tbl := List.mem_of_getElem? (i := 1013) (by decide +kernel)
theorem wM_L_76 : Cond.methodLink RL 76 yX8_even ∈ lw_tbl := List.mem_of_getElem? (i := 570) (by decide +kernel)
theorem wM_L_79 : Cond.methodLink RL 79 yX9_even ∈ lw_tbl := List.mem_of_getElem? (i := 1017) (by decide +kernel)
theorem wM_L_80 : Cond.methodLink RL 80 yX8_fair ∈ lw_tbl := List.mem_of_getElem? (i := 579) (by decide +kernel)
theorem wM_L_83 : Cond.methodLink RL 83 yX9_fair ∈ lw_tbl := List.mem_of_getElem? (i := 1029) (by decide +kernel)
theorem wM_L_84 : Cond.methodLink RL 84 yX8_seen ∈ lw_tbl := List.mem_of_getElem? (i := 587) (by decide +kernel)
theorem wM_L_88 : Cond.methodLink RL 88 yX9_seen ∈ lw_tbl := List.mem_of_getElem? (i := 1033) (by decide +kernel)
theorem wM_L_89 : Cond.methodLink RL 89 yX8_forget ∈ lw_tbl := List.mem_of_getElem? (i := 599) (by decide +kernel)
theorem wM_L_92 : Cond.methodLink RL 92 yX9_forget ∈ lw_tbl := List.mem_of_getElem? (i := 1038) (by decide +kernel)
theorem wM_L_93 : Cond.methodLink RL 93 yX8_forged ∈ lw_tbl := List.mem_of_getElem? (i := 603) (by decide +kernel)
theorem wM_L_96 : Cond.methodLink RL 96 yX9_forged ∈ lw_tbl := List.mem_of_getElem? (i := 1042) (by decide +kernel)
theorem wM_L_97 : Cond.methodLink RL 97 yX8_rank ∈ lw_tbl := List.mem_of_getElem? (i := 622) (by decide +kernel)
def Op_officer (Rl : Mm → Mm → Prop) : Prop := ∀ (a1 : Int32) (a2 : Int32) (Mx M_ : Mm), Rl Mx M_ → ∃ (r : Int32) (Mx1 M1 : Mm), fX8_officer a1 a2 Mx = some (r, Mx1) ∧ fX9_officer a1 a2 M_ = some (r, M1) ∧ Rl Mx1 M1
def Op_leave (Rl : Mm → Mm → Prop) : Prop := ∀ (a1 : Int32) (Mx M_ : Mm), Rl Mx M_ → ∃ (r : Int32) (Mx1 M1 : Mm), fX8_leave a1 Mx = some (r, Mx1) ∧ fX9_leave a1 M_ = some (r, M1) ∧ Rl Mx1 M1
def Op_rate (Rl : Mm → Mm → Prop) : Prop := ∀ (a1 : Int32) (a2 : Int32) (Mx M_ : Mm), Rl Mx M_ → ∃ (r : Int32) (Mx1 M1 : Mm), fX8_rate a1 a2 Mx = some (r, Mx1) ∧ fX9_rate a1 a2 M_ = some (r, M1) ∧ Rl Mx1 M1
def Op_trust (Rl : Mm → Mm → Prop) : Prop := ∀ (a1 : Int32) (Mx M_ : Mm), Rl Mx M_ → ∃ (r : Int32) (Mx1 M1 : Mm), fX8_trust a1 Mx = some (r, Mx1) ∧ fX9_trust a1 M_ = some (r, M1) ∧ Rl Mx1 M1
def Op_say (Rl : Mm → Mm → Prop) : Prop := ∀ (a1 : Int32) (Mx M_ : Mm), Rl Mx M_ → ∃ (r : Int32) (Mx1 M1 : Mm), fX8_say a1 Mx = some (r, Mx1) ∧ fX9_say a1 M_ = some (r, M1) ∧ Rl Mx1 M1
def Op_wipe (Rl : Mm → Mm → Prop) : Prop := ∀ (Mx M_ : Mm), Rl Mx M_ → ∃ (r : Int32) (Mx1 M1 : Mm), fX8_wipe Mx = some (r, Mx1) ∧ fX9_wipe M_ = some (r, M1) ∧ Rl Mx1 M1
def Op_fault (Rl : Mm → Mm → Prop) : Prop := ∀ (Mx M_ : Mm), Rl Mx M_ → ∃ (r : Int32) (Mx1 M1 : Mm), fX8_fault Mx = some (r, Mx1) ∧ fX9_fault M_ = some (r, M1) ∧ Rl Mx1 M1
def Op_judge (Rl : Mm → Mm → Prop) : Prop := ∀ (a1 : Int32) (Mx M_ : Mm), Rl Mx M_ → ∃ (r : Int32) (Mx1 M1 : Mm), fX8_judge a1 Mx = some (r, Mx1) ∧ fX9_judge a1 M_ = some (r, M1) ∧ Rl Mx1 M1
def Op_behind (Rl : Mm → Mm → Prop) : Prop := ∀ (a1 : Int32) (a2 : Int32) (Mx M_ : Mm), Rl Mx M_ → ∃ (r : Int32) (Mx1 M1 : Mm), fX8_behind a1 a2 Mx = some (r, Mx1) ∧ fX9_behind a1 a2 M_ = some (r, M1) ∧ Rl Mx1 M1
def Op_ledger (Rl : Mm → Mm → Prop) : Prop := ∀ (a1 : Int32) (Mx M_ : Mm), Rl Mx M_ → ∃ (r : Int32) (Mx1 M1 : Mm), fX8_ledger a1 Mx = some (r, Mx1) ∧ fX9_ledger a1 M_ = some (r, M1) ∧ Rl Mx1 M1
def Op_done (Rl : Mm → Mm → Prop) : Prop := ∀ (Mx M_ : Mm), Rl Mx M_ → ∃ (r : Int32) (Mx1 M1 : Mm), fX8_done Mx = some (r, Mx1) ∧ fX9_done M_ = some (r, M1) ∧ Rl Mx1 M1
def Op_owed (Rl : Mm → Mm → Prop) : Prop := ∀ (Mx M_ : Mm), Rl Mx M_ → ∃ (r : Int32) (Mx1 M1 : Mm), fX8_owed Mx = some (r, Mx1) ∧ fX9_owed M_ = some (r, M1) ∧ Rl Mx1 M1
def Op_home (Rl : Mm → Mm → Prop) : Prop := ∀ (a1 : Int32) (Mx M_ : Mm), Rl Mx M_ → ∃ (r : Int32) (Mx1 M1 : Mm), fX8_home a1 Mx = some (r, Mx1) ∧ fX9_home a1 M_ = some (r, M1) ∧ Rl Mx1 M1
def Op_bring (Rl : Mm → Mm → Prop) : Prop := ∀ (a1 : Int32) (a2 : Int32) (Mx M_ : Mm), Rl Mx M_ → ∃ (r : Int32) (Mx1 M1 : Mm), fX8_bring a1 a2 Mx = some (r, Mx1) ∧ fX9_bring a1 a2 M_ = some (r, M1) ∧ Rl Mx1 M1
def Op_lots (Rl : Mm → Mm → Prop) : Prop := ∀ (Mx M_ : Mm), Rl Mx M_ → ∃ (r : Int32) (Mx1 M1 : Mm), fX8_lots Mx = some (r, Mx1) ∧ fX9_lots M_ = some (r, M1) ∧ Rl Mx1 M1
def Op_even (Rl : Mm → Mm → Prop) : Prop := ∀ (Mx M_ : Mm), Rl Mx M_ → ∃ (r : Int32) (Mx1 M1 : Mm), fX8_even Mx = some (r, Mx1) ∧ fX9_even M_ = some (r, M1) ∧ Rl Mx1 M1
def Op_fair (Rl : Mm → Mm → Prop) : Prop := ∀ (a1 : Int32) (Mx M_ : Mm), Rl Mx M_ → ∃ (r : Int32) (Mx1 M1 : Mm), fX8_fair a1 Mx = some (r, Mx1) ∧ fX9_fair a1 M_ = some (r, M1) ∧ Rl Mx1 M1
def Op_seen (Rl : Mm → Mm → Prop) : Prop := ∀ (a1 : Int32) (a2 : Int32) (a3 : Int32) (Mx M_ : Mm), (a3 = 0 ∨ a3 = 1) → Rl Mx M_ → ∃ (r : Int32) (Mx1 M1 : Mm), fX8_seen a1 a2 a3 Mx = some (r, Mx1) ∧ fX9_seen a1 a2 a3 M_ = some (r, M1) ∧ Rl Mx1 M1
def Op_forget (Rl : Mm → Mm → Prop) : Prop := ∀ (Mx M_ : Mm), Rl Mx M_ → ∃ (r : Int32) (Mx1 M1 : Mm), fX8_forget Mx = some (r, Mx1) ∧ fX9_forget M_ = some (r, M1) ∧ Rl Mx1 M1
def Op_forged (Rl : Mm → Mm → Prop) : Prop := ∀ (a1 : Int32) (Mx M_ : Mm), Rl Mx M_ → ∃ (r : Int32) (Mx1 M1 : Mm), fX8_forged a1 Mx = some (r, Mx1) ∧ fX9_forged a1 M_ = some (r, M1) ∧ Rl Mx1 M1
def Op_rank (Rl : Mm → Mm → Prop) : Prop := ∀ (a1 : Int32) (Mx M_ : Mm), Rl Mx M_ → ∃ (r : Int32) (Mx1 M1 : Mm), fX8_rank a1 Mx = some (r, Mx1) ∧ fX9_rank a1 M_ = some (r, M1) ∧ Rl Mx1 M1
def Op_weigh (Rl : Mm → Mm → Prop) : Prop := ∀ (a1 : Int32) (Mx M_ : Mm), Rl Mx M_ → ∃ (r : Int32) (Mx1 M1 : Mm), fX8_weigh a1 Mx = some (r, Mx1) ∧ fX9_weigh a1 M_ = some (r, M1) ∧ Rl Mx1 M1
def Op_broken (Rl : Mm → Mm → Prop) : Prop := ∀ (a1 : Int32) (a2 : Int32) (a3 : Int32) (Mx M_ : Mm), Rl Mx M_ → ∃ (r : Int64) (Mx1 M1 : Mm), fX8_broken a1 a2 a3 Mx = some (r, Mx1) ∧ fX9_broken a1 a2 a3 M_ = some (r, M1) ∧ Rl Mx1 M1
def Op_rests (Rl : Mm → Mm → Prop) : Prop := ∀ (a1 : Int32) (a2 : Int32) (a3 : Int32) (a4 : Int32) (Mx M_ : Mm), Rl Mx M_ → ∃ (r : Int32) (Mx1 M1 : Mm), fX8_rests a1 a2 a3 a4 Mx = some (r, Mx1) ∧ fX9_rests a1 a2 a3 a4 M_ = some (r, M1) ∧ Rl Mx1 M1
def Op_year (Rl : Mm → Mm → Prop) : Prop := ∀ (a1 : Int32) (a2 : Int32) (a3 : Int32) (Mx M_ : Mm), Rl Mx M_ → ∃ (r : Int32) (Mx1 M1 : Mm), fX8_year a1 a2 a3 Mx = some (r, Mx1) ∧ fX9_year a1 a2 a3 M_ = some (r, M1) ∧ Rl Mx1 M1
def Op_image (Rl : Mm → Mm → Prop) : Prop := ∀ (a1 : Int32) (Mx M_ : Mm), Rl Mx M_ → ∃ (r : Int32) (Mx1 M1 : Mm), fX8_image a1 Mx = some (r, Mx1) ∧ fX9_image a1 M_ = some (r, M1) ∧ Rl Mx1 M1
def Op_restore (Rl : Mm → Mm → Prop) : Prop := ∀ (a1 : Int32) (Mx M_ : Mm), Rl Mx M_ → ∃ (r : Int32) (Mx1 M1 : Mm), fX8_restore a1 Mx = some (r, Mx1) ∧ fX9_restore a1 M_ = some (r, M1) ∧ Rl Mx1 M1
def Op_told (Rl : Mm → Mm → Prop) : Prop := ∀ (a1 : Int32) (Mx M_ : Mm), Rl Mx M_ → ∃ (r : Int32) (Mx1 M1 : Mm), fX8_told a1 Mx = some (r, Mx1) ∧ fX9_told a1 M_ = some (r, M1) ∧ Rl Mx1 M1
def Sim (Rl : Mm → Mm → Prop) : Prop := Op_officer Rl ∧ Op_leave Rl ∧ Op_rate Rl ∧ Op_trust Rl ∧ Op_say Rl ∧ Op_wipe Rl ∧ Op_fault Rl ∧ Op_judge Rl ∧ Op_behind Rl ∧ Op_ledger Rl ∧ Op_done Rl ∧ Op_owed Rl ∧ Op_home Rl ∧ Op_bring Rl ∧ Op_lots Rl ∧ Op_even Rl ∧ Op_fair Rl ∧ Op_seen Rl ∧ Op_forget Rl ∧ Op_forged Rl ∧ Op_rank Rl ∧ Op_weigh Rl ∧ Op_broken Rl ∧ Op_rests Rl ∧ Op_year Rl ∧ Op_image Rl ∧ Op_restore Rl ∧ Op_told Rl
theorem lw_i0 {i L : Nat} (h : i + 5 ≤ L) (hL : L ≤ 320) : vp_in (nI i) L := vp_in_nI (by omega) (by omega)
theorem lw_i1 {i L : Nat} (h : i + 5 ≤ L) (hL : L ≤ 320) : vp_in (nI i + (1 : Int32)) L := by
  have e : nI i + (1 : Int32) = nI (i + 1) := nI_add i 1
  rw [e]; exact vp_in_nI (by omega) (by omega)
theorem lw_i2 {i L : Nat} (h : i + 5 ≤ L) (hL : L ≤ 320) : vp_in (nI i + (2 : Int32)) L := by
  have e : nI i + (2 : Int32) = nI (i + 2) := nI_add i 2
  rw [e]; exact vp_in_nI (by omega) (by omega)
theorem lw_i3 {i L : Nat} (h : i + 5 ≤ L) (hL : L ≤ 320) : vp_in (nI i + (3 : Int32)) L := by
  have e : nI i + (3 : Int32) = nI (i + 3) := nI_add i 3
  rw [e]; exact vp_in_nI (by omega) (by omega)
theorem lw_i4 {i L : Nat} (h : i + 5 ≤ L) (hL : L ≤ 320) : vp_in (nI i + (4 : Int32)) L := by
  have e : nI i + (4 : Int32) = nI (i + 4) := nI_add i 4
  rw [e]; exact vp_in_nI (by omega) (by omega)
set_option maxHeartbeats 4000000 in
set_option maxRecDepth 100000 in
theorem law_c0 {Gx Gm : Rg} {X : Ct} {b L : Nat} {xs : Nat → Int32} (C : CL Gx Gm X b L xs) (hGx : gS Gx = shX) (hGm : gS Gm = shM) {i : Nat} (hi5 : i + 5 ≤ L) (hL : L ≤ 320) {Rl : Mm → Mm → Prop} (O : Op_officer Rl) {Mx M_ : Mm} (hR : Rl Mx M_) (hk : ∀ Mx1 M1, Rl Mx1 M1 → VL Gx Gm X 881 [(0, .ref b), (1, .ref (gA Gx 0)), (2, .ref (gA Gm 0)), (3, .int (nI i))] [] Mx1 M1) : VL Gx Gm X 160 [(0, .ref b), (1, .ref (gA Gx 0)), (2, .ref (gA Gm 0)), (3, .int (nI i))] [] Mx M_ := by
  obtain ⟨r, Mx1, M1, e1, e2, hR1⟩ := O (xs (nI i + (1 : Int32)).toNatClampNeg) (xs (nI i + (2 : Int32)).toNatClampNeg) Mx M_ hR
  refine VL.aload_n (pc := 160) C 1 rfl dL_law_160 ?_
  refine VL.aload_n (pc := 161) C 0 rfl dL_law_161 ?_
  refine VL.iload_n (pc := 162) C 3 rfl dL_law_162 ?_
  refine VL.iconst (pc := 163) C (1 : Int32) (by decide) dL_law_163 ?_
  refine VL.iadd (pc := 164) C dL_law_164 ?_
  refine VL.sld (pc := 165) C (lw_i1 hi5 hL) dL_law_165 ?_
  refine VL.aload_n (pc := 166) C 0 rfl dL_law_166 ?_
  refine VL.iload_n (pc := 167) C 3 rfl dL_law_167 ?_
  refine VL.iconst (pc := 168) C (2 : Int32) (by decide) dL_law_168 ?_
  refine VL.iadd (pc := 169) C dL_law_169 ?_
  refine VL.sld (pc := 170) C (lw_i2 hi5 hL) dL_law_170 ?_
  refine VL.callX (pc := 171) (As := [.int (xs (nI i + (1 : Int32)).toNatClampNeg), .int (xs (nI i + (2 : Int32)).toNatClampNeg)]) (rest := []) C (mX8_officer X.2.1 hGx e1) mf_X8_officer clX8 (sx_0 hGx) wM_L_13 rfl rfl ⟨by decide, by decide⟩ (Nat.le_of_ble_eq_true rfl) dL_law_171 ?_
  show VL Gx Gm X 174 [(0, .ref b), (1, .ref (gA Gx 0)), (2, .ref (gA Gm 0)), (3, .int (nI i))] [.int r] Mx1 M_
  refine VL.aload_n (pc := 174) C 2 rfl dL_law_174 ?_
  refine VL.aload_n (pc := 175) C 0 rfl dL_law_175 ?_
  refine VL.iload_n (pc := 176) C 3 rfl dL_law_176 ?_
  refine VL.iconst (pc := 177) C (1 : Int32) (by decide) dL_law_177 ?_
  refine VL.iadd (pc := 178) C dL_law_178 ?_
  refine VL.sld (pc := 179) C (lw_i1 hi5 hL) dL_law_179 ?_
  refine VL.aload_n (pc := 180) C 0 rfl dL_law_180 ?_
  refine VL.iload_n (pc := 181) C 3 rfl dL_law_181 ?_
  refine VL.iconst (pc := 182) C (2 : Int32) (by decide) dL_law_182 ?_
  refine VL.iadd (pc := 183) C dL_law_183 ?_
  refine VL.sld (pc := 184) C (lw_i2 hi5 hL) dL_law_184 ?_
  refine VL.callM (pc := 185) (As := [.int (xs (nI i + (1 : Int32)).toNatClampNeg), .int (xs (nI i + (2 : Int32)).toNatClampNeg)]) (rest := [.int r]) C (mX9_officer X.2.1 hGm e2) mf_X9_officer clX9 (sm_0 hGm) wM_L_17 rfl rfl ⟨by decide, by decide⟩ (Nat.le_of_ble_eq_true rfl) dL_law_185 ?_
  show VL Gx Gm X 188 [(0, .ref b), (1, .ref (gA Gx 0)), (2, .ref (gA Gm 0)), (3, .int (nI i))] [.int r, .int r] Mx1 M1
  refine VL.iceqT (pc := 188) C 881 (by decide) dL_law_188 ?_
  exact hk Mx1 M1 hR1
set_option maxHeartbeats 4000000 in
set_option maxRecDepth 100000 in
theorem law_c1 {Gx Gm : Rg} {X : Ct} {b L : Nat} {xs : Nat → Int32} (C : CL Gx Gm X b L xs) (hGx : gS Gx = shX) (hGm : gS Gm = shM) {i : Nat} (hi5 : i + 5 ≤ L) (hL : L ≤ 320) {Rl : Mm → Mm → Prop} (O : Op_leave Rl) {Mx M_ : Mm} (hR : Rl Mx M_) (hk : ∀ Mx1 M1, Rl Mx1 M1 → VL Gx Gm X 881 [(0, .ref b), (1, .ref (gA Gx 0)), (2, .ref (gA Gm 0)), (3, .int (nI i))] [] Mx1 M1) : VL Gx Gm X 193 [(0, .ref b), (1, .ref (gA Gx 0)), (2, .ref (gA Gm 0)), (3, .int (nI i))] [] Mx M_ := by
  obtain ⟨r, Mx1, M1, e1, e2, hR1⟩ := O (xs (nI i + (1 : Int32)).toNatClampNeg) Mx M_ hR
  refine VL.aload_n (pc := 193) C 1 rfl dL_law_193 ?_
  refine VL.aload_n (pc := 194) C 0 rfl dL_law_194 ?_
  refine VL.iload_n (pc := 195) C 3 rfl dL_law_195 ?_
  refine VL.iconst (pc := 196) C (1 : Int32) (by decide) dL_law_196 ?_
  refine VL.iadd (pc := 197) C dL_law_197 ?_
  refine VL.sld (pc := 198) C (lw_i1 hi5 hL) dL_law_198 ?_
  refine VL.callX (pc := 199) (As := [.int (xs (nI i + (1 : Int32)).toNatClampNeg)]) (rest := []) C (mX8_leave X.2.1 hGx e1) mf_X8_leave clX8 (sx_0 hGx) wM_L_18 rfl rfl ⟨by decide, by decide⟩ (Nat.le_of_ble_eq_true rfl) dL_law_199 ?_
  show VL Gx Gm X 202 [(0, .ref b), (1, .ref (gA Gx 0)), (2, .ref (gA Gm 0)), (3, .int (nI i))] [.int r] Mx1 M_
  refine VL.aload_n (pc := 202) C 2 rfl dL_law_202 ?_
  refine VL.aload_n (pc := 203) C 0 rfl dL_law_203 ?_
  refine VL.iload_n (pc := 204) C 3 rfl dL_law_204 ?_
  refine VL.iconst (pc := 205) C (1 : Int32) (by decide) dL_law_205 ?_
  refine VL.iadd (pc := 206) C dL_law_206 ?_
  refine VL.sld (pc := 207) C (lw_i1 hi5 hL) dL_law_207 ?_
  refine VL.callM (pc := 208) (As := [.int (xs (nI i + (1 : Int32)).toNatClampNeg)]) (rest := [.int r]) C (mX9_leave X.2.1 hGm e2) mf_X9_leave clX9 (sm_0 hGm) wM_L_22 rfl rfl ⟨by decide, by decide⟩ (Nat.le_of_ble_eq_true rfl) dL_law_208 ?_
  show VL Gx Gm X 211 [(0, .ref b), (1, .ref (gA Gx 0)), (2, .ref (gA Gm 0)), (3, .int (nI i))] [.int r, .int r] Mx1 M1
  refine VL.iceqT (pc := 211) C 881 (by decide) dL_law_211 ?_
  exact hk Mx1 M1 hR1
set_option maxHeartbeats 4000000 in
set_option maxRecDepth 100000 in
theorem law_c2 {Gx Gm : Rg} {X : Ct} {b L : Nat} {xs : Nat → Int32} (C : CL Gx Gm X b L xs) (hGx : gS Gx = shX) (hGm : gS Gm = shM) {i : Nat} (hi5 : i + 5 ≤ L) (hL : L ≤ 320) {Rl : Mm → Mm → Prop} (O : Op_rate Rl) {Mx M_ : Mm} (hR : Rl Mx M_) (hk : ∀ Mx1 M1, Rl Mx1 M1 → VL Gx Gm X 881 [(0, .ref b), (1, .ref (gA Gx 0)), (2, .ref (gA Gm 0)), (3, .int (nI i))] [] Mx1 M1) : VL Gx Gm X 216 [(0, .ref b), (1, .ref (gA Gx 0)), (2, .ref (gA Gm 0)), (3, .int (nI i))] [] Mx M_ := by
  obtain ⟨r, Mx1, M1, e1, e2, hR1⟩ := O (xs (nI i + (1 : Int32)).toNatClampNeg) (xs (nI i + (2 : Int32)).toNatClampNeg) Mx M_ hR
  refine VL.aload_n (pc := 216) C 1 rfl dL_law_216 ?_
  refine VL.aload_n (pc := 217) C 0 rfl dL_law_217 ?_
  refine VL.iload_n (pc := 218) C 3 rfl dL_law_218 ?_
  refine VL.iconst (pc := 219) C (1 : Int32) (by decide) dL_law_219 ?_
  refine VL.iadd (pc := 220) C dL_law_220 ?_
  refine VL.sld (pc := 221) C (lw_i1 hi5 hL) dL_law_221 ?_
  refine VL.aload_n (pc := 222) C 0 rfl dL_law_222 ?_
  refine VL.iload_n (pc := 223) C 3 rfl dL_law_223 ?_
  refine VL.iconst (pc := 224) C (2 : Int32) (by decide) dL_law_224 ?_
  refine VL.iadd (pc := 225) C dL_law_225 ?_
  refine VL.sld (pc := 226) C (lw_i2 hi5 hL) dL_law_226 ?_
  refine VL.callX (pc := 227) (As := [.int (xs (nI i + (1 : Int32)).toNatClampNeg), .int (xs (nI i + (2 : Int32)).toNatClampNeg)]) (rest := []) C (mX8_rate X.2.1 hGx e1) mf_X8_rate clX8 (sx_0 hGx) wM_L_23 rfl rfl ⟨by decide, by decide⟩ (Nat.le_of_ble_eq_true rfl) dL_law_227 ?_
  show VL Gx Gm X 230 [(0, .ref b), (1, .ref (gA Gx 0)), (2, .ref (gA Gm 0)), (3, .int (nI i))] [.int r] Mx1 M_
  refine VL.aload_n (pc := 230) C 2 rfl dL_law_230 ?_
  refine VL.aload_n (pc := 231) C 0 rfl dL_law_231 ?_
  refine VL.iload_n (pc := 232) C 3 rfl dL_law_232 ?_
  refine VL.iconst (pc := 233) C (1 : Int32) (by decide) dL_law_233 ?_
  refine VL.iadd (pc := 234) C dL_law_234 ?_
  refine VL.sld (pc := 235) C (lw_i1 hi5 hL) dL_law_235 ?_
  refine VL.aload_n (pc := 236) C 0 rfl dL_law_236 ?_
  refine VL.iload_n (pc := 237) C 3 rfl dL_law_237 ?_
  refine VL.iconst (pc := 238) C (2 : Int32) (by decide) dL_law_238 ?_
  refine VL.iadd (pc := 239) C dL_law_239 ?_
  refine VL.sld (pc := 240) C (lw_i2 hi5 hL) dL_law_240 ?_
  refine VL.callM (pc := 241) (As := [.int (xs (nI i + (1 : Int32)).toNatClampNeg), .int (xs (nI i + (2 : Int32)).toNatClampNeg)]) (rest := [.int r]) C (mX9_rate X.2.1 hGm e2) mf_X9_rate clX9 (sm_0 hGm) wM_L_26 rfl rfl ⟨by decide, by decide⟩ (Nat.le_of_ble_eq_true rfl) dL_law_241 ?_
  show VL Gx Gm X 244 [(0, .ref b), (1, .ref (gA Gx 0)), (2, .ref (gA Gm 0)), (3, .int (nI i))] [.int r, .int r] Mx1 M1
  refine VL.iceqT (pc := 244) C 881 (by decide) dL_law_244 ?_
  exact hk Mx1 M1 hR1
set_option maxHeartbeats 4000000 in
set_option maxRecDepth 100000 in
theorem law_c3 {Gx Gm : Rg} {X : Ct} {b L : Nat} {xs : Nat → Int32} (C : CL Gx Gm X b L xs) (hGx : gS Gx = shX) (hGm : gS Gm = shM) {i : Nat} (hi5 : i + 5 ≤ L) (hL : L ≤ 320) {Rl : Mm → Mm → Prop} (O : Op_trust Rl) {Mx M_ : Mm} (hR : Rl Mx M_) (hk : ∀ Mx1 M1, Rl Mx1 M1 → VL Gx Gm X 881 [(0, .ref b), (1, .ref (gA Gx 0)), (2, .ref (gA Gm 0)), (3, .int (nI i))] [] Mx1 M1) : VL Gx Gm X 249 [(0, .ref b), (1, .ref (gA Gx 0)), (2, .ref (gA Gm 0)), (3, .int (nI i))] [] Mx M_ := by
  obtain ⟨r, Mx1, M1, e1, e2, hR1⟩ := O (xs (nI i + (1 : Int32)).toNatClampNeg) Mx M_ hR
  refine VL.aload_n (pc := 249) C 1 rfl dL_law_249 ?_
  refine VL.aload_n (pc := 250) C 0 rfl dL_law_250 ?_
  refine VL.iload_n (pc := 251) C 3 rfl dL_law_251 ?_
  refine VL.iconst (pc := 252) C (1 : Int32) (by decide) dL_law_252 ?_
  refine VL.iadd (pc := 253) C dL_law_253 ?_
  refine VL.sld (pc := 254) C (lw_i1 hi5 hL) dL_law_254 ?_
  refine VL.callX (pc := 255) (As := [.int (xs (nI i + (1 : Int32)).toNatClampNeg)]) (rest := []) C (mX8_trust X.2.1 hGx e1) mf_X8_trust clX8 (sx_0 hGx) wM_L_27 rfl rfl ⟨by decide, by decide⟩ (Nat.le_of_ble_eq_true rfl) dL_law_255 ?_
  show VL Gx Gm X 258 [(0, .ref b), (1, .ref (gA Gx 0)), (2, .ref (gA Gm 0)), (3, .int (nI i))] [.int r] Mx1 M_
  refine VL.aload_n (pc := 258) C 2 rfl dL_law_258 ?_
  refine VL.aload_n (pc := 259) C 0 rfl dL_law_259 ?_
  refine VL.iload_n (pc := 260) C 3 rfl dL_law_260 ?_
  refine VL.iconst (pc := 261) C (1 : Int32) (by decide) dL_law_261 ?_
  refine VL.iadd (pc := 262) C dL_law_262 ?_
  refine VL.sld (pc := 263) C (lw_i1 hi5 hL) dL_law_263 ?_
  refine VL.callM (pc := 264) (As := [.int (xs (nI i + (1 : Int32)).toNatClampNeg)]) (rest := [.int r]) C (mX9_trust X.2.1 hGm e2) mf_X9_trust clX9 (sm_0 hGm) wM_L_30 rfl rfl ⟨by decide, by decide⟩ (Nat.le_of_ble_eq_true rfl) dL_law_264 ?_
  show VL Gx Gm X 267 [(0, .ref b), (1, .ref (gA Gx 0)), (2, .ref (gA Gm 0)), (3, .int (nI i))] [.int r, .int r] Mx1 M1
  refine VL.iceqT (pc := 267) C 881 (by decide) dL_law_267 ?_
  exact hk Mx1 M1 hR1
set_option maxHeartbeats 4000000 in
set_option maxRecDepth 100000 in
theorem law_c4 {Gx Gm : Rg} {X : Ct} {b L : Nat} {xs : Nat → Int32} (C : CL Gx Gm X b L xs) (hGx : gS Gx = shX) (hGm : gS Gm = shM) {i : Nat} (hi5 : i + 5 ≤ L) (hL : L ≤ 320) {Rl : Mm → Mm → Prop} (O : Op_say Rl) {Mx M_ : Mm} (hR : Rl Mx M_) (hk : ∀ Mx1 M1, Rl Mx1 M1 → VL Gx Gm X 881 [(0, .ref b), (1, .ref (gA Gx 0)), (2, .ref (gA Gm 0)), (3, .int (nI i))] [] Mx1 M1) : VL Gx Gm X 272 [(0, .ref b), (1, .ref (gA Gx 0)), (2, .ref (gA Gm 0)), (3, .int (nI i))] [] Mx M_ := by
  obtain ⟨r, Mx1, M1, e1, e2, hR1⟩ := O (xs (nI i + (1 : Int32)).toNatClampNeg) Mx M_ hR
  refine VL.aload_n (pc := 272) C 1 rfl dL_law_272 ?_
  refine VL.aload_n (pc := 273) C 0 rfl dL_law_273 ?_
  refine VL.iload_n (pc := 274) C 3 rfl dL_law_274 ?_
  refine VL.iconst (pc := 275) C (1 : Int32) (by decide) dL_law_275 ?_
  refine VL.iadd (pc := 276) C dL_law_276 ?_
  refine VL.sld (pc := 277) C (lw_i1 hi5 hL) dL_law_277 ?_
  refine VL.callX (pc := 278) (As := [.int (xs (nI i + (1 : Int32)).toNatClampNeg)]) (rest := []) C (mX8_say X.2.1 hGx e1) mf_X8_say clX8 (sx_0 hGx) wM_L_31 rfl rfl ⟨by decide, by decide⟩ (Nat.le_of_ble_eq_true rfl) dL_law_278 ?_
  show VL Gx Gm X 281 [(0, .ref b), (1, .ref (gA Gx 0)), (2, .ref (gA Gm 0)), (3, .int (nI i))] [.int r] Mx1 M_
  refine VL.aload_n (pc := 281) C 2 rfl dL_law_281 ?_
  refine VL.aload_n (pc := 282) C 0 rfl dL_law_282 ?_
  refine VL.iload_n (pc := 283) C 3 rfl dL_law_283 ?_
  refine VL.iconst (pc := 284) C (1 : Int32) (by decide) dL_law_284 ?_
  refine VL.iadd (pc := 285) C dL_law_285 ?_
  refine VL.sld (pc := 286) C (lw_i1 hi5 hL) dL_law_286 ?_
  refine VL.callM (pc := 287) (As := [.int (xs (nI i + (1 : Int32)).toNatClampNeg)]) (rest := [.int r]) C (mX9_say X.2.1 hGm e2) mf_X9_say clX9 (sm_0 hGm) wM_L_34 rfl rfl ⟨by decide, by decide⟩ (Nat.le_of_ble_eq_true rfl) dL_law_287 ?_
  show VL Gx Gm X 290 [(0, .ref b), (1, .ref (gA Gx 0)), (2, .ref (gA Gm 0)), (3, .int (nI i))] [.int r, .int r] Mx1 M1
  refine VL.iceqT (pc := 290) C 881 (by decide) dL_law_290 ?_
  exact hk Mx1 M1 hR1
set_option maxHeartbeats 4000000 in
set_option maxRecDepth 100000 in
theorem law_c5 {Gx Gm : Rg} {X : Ct} {b L : Nat} {xs : Nat → Int32} (C : CL Gx Gm X b L xs) (hGx : gS Gx = shX) (hGm : gS Gm = shM) {i : Nat} (hi5 : i + 5 ≤ L) (hL : L ≤ 320) {Rl : Mm → Mm → Prop} (O : Op_wipe Rl) {Mx M_ : Mm} (hR : Rl Mx M_) (hk : ∀ Mx1 M1, Rl Mx1 M1 → VL Gx Gm X 881 [(0, .ref b), (1, .ref (gA Gx 0)), (2, .ref (gA Gm 0)), (3, .int (nI i))] [] Mx1 M1) : VL Gx Gm X 295 [(0, .ref b), (1, .ref (gA Gx 0)), (2, .ref (gA Gm 0)), (3, .int (nI i))] [] Mx M_ := by
  obtain ⟨r, Mx1, M1, e1, e2, hR1⟩ := O  Mx M_ hR
  refine VL.aload_n (pc := 295) C 1 rfl dL_law_295 ?_
  refine VL.callX (pc := 296) (As := []) (rest := []) C (mX8_wipe X.2.1 hGx e1) mf_X8_wipe clX8 (sx_0 hGx) wM_L_35 rfl rfl ⟨by decide, by decide⟩ (Nat.le_of_ble_eq_true rfl) dL_law_296 ?_
  show VL Gx Gm X 299 [(0, .ref b), (1, .ref (gA Gx 0)), (2, .ref (gA Gm 0)), (3, .int (nI i))] [.int r] Mx1 M_
  refine VL.aload_n (pc := 299) C 2 rfl dL_law_299 ?_
  refine VL.callM (pc := 300) (As := []) (rest := [.int r]) C (mX9_wipe X.2.1 hGm e2) mf_X9_wipe clX9 (sm_0 hGm) wM_L_39 rfl rfl ⟨by decide, by decide⟩ (Nat.le_of_ble_eq_true rfl) dL_law_300 ?_
  show VL Gx Gm X 303 [(0, .ref b), (1, .ref (gA Gx 0)), (2, .ref (gA Gm 0)), (3, .int (nI i))] [.int r, .int r] Mx1 M1
  refine VL.iceqT (pc := 303) C 881 (by decide) dL_law_303 ?_
  exact hk Mx1 M1 hR1
set_option maxHeartbeats 4000000 in
set_option maxRecDepth 100000 in
theorem law_c6 {Gx Gm : Rg} {X : Ct} {b L : Nat} {xs : Nat → Int32} (C : CL Gx Gm X b L xs) (hGx : gS Gx = shX) (hGm : gS Gm = shM) {i : Nat} (hi5 : i + 5 ≤ L) (hL : L ≤ 320) {Rl : Mm → Mm → Prop} (O : Op_fault Rl) {Mx M_ : Mm} (hR : Rl Mx M_) (hk : ∀ Mx1 M1, Rl Mx1 M1 → VL Gx Gm X 881 [(0, .ref b), (1, .ref (gA Gx 0)), (2, .ref (gA Gm 0)), (3, .int (nI i))] [] Mx1 M1) : VL Gx Gm X 308 [(0, .ref b), (1, .ref (gA Gx 0)), (2, .ref (gA Gm 0)), (3, .int (nI i))] [] Mx M_ := by
  obtain ⟨r, Mx1, M1, e1, e2, hR1⟩ := O  Mx M_ hR
  refine VL.aload_n (pc := 308) C 1 rfl dL_law_308 ?_
  refine VL.callX (pc := 309) (As := []) (rest := []) C (mX8_fault X.2.1 hGx e1) mf_X8_fault clX8 (sx_0 hGx) wM_L_40 rfl rfl ⟨by decide, by decide⟩ (Nat.le_of_ble_eq_true rfl) dL_law_309 ?_
  show VL Gx Gm X 312 [(0, .ref b), (1, .ref (gA Gx 0)), (2, .ref (gA Gm 0)), (3, .int (nI i))] [.int r] Mx1 M_
  refine VL.aload_n (pc := 312) C 2 rfl dL_law_312 ?_
  refine VL.callM (pc := 313) (As := []) (rest := [.int r]) C (mX9_fault X.2.1 hGm e2) mf_X9_fault clX9 (sm_0 hGm) wM_L_43 rfl rfl ⟨by decide, by decide⟩ (Nat.le_of_ble_eq_true rfl) dL_law_313 ?_
  show VL Gx Gm X 316 [(0, .ref b), (1, .ref (gA Gx 0)), (2, .ref (gA Gm 0)), (3, .int (nI i))] [.int r, .int r] Mx1 M1
  refine VL.iceqT (pc := 316) C 881 (by decide) dL_law_316 ?_
  exact hk Mx1 M1 hR1
set_option maxHeartbeats 4000000 in
set_option maxRecDepth 100000 in
theorem law_c7 {Gx Gm : Rg} {X : Ct} {b L : Nat} {xs : Nat → Int32} (C : CL Gx Gm X b L xs) (hGx : gS Gx = shX) (hGm : gS Gm = shM) {i : Nat} (hi5 : i + 5 ≤ L) (hL : L ≤ 320) {Rl : Mm → Mm → Prop} (O : Op_judge Rl) {Mx M_ : Mm} (hR : Rl Mx M_) (hk : ∀ Mx1 M1, Rl Mx1 M1 → VL Gx Gm X 881 [(0, .ref b), (1, .ref (gA Gx 0)), (2, .ref (gA Gm 0)), (3, .int (nI i))] [] Mx1 M1) : VL Gx Gm X 321 [(0, .ref b), (1, .ref (gA Gx 0)), (2, .ref (gA Gm 0)), (3, .int (nI i))] [] Mx M_ := by
  obtain ⟨r, Mx1, M1, e1, e2, hR1⟩ := O (xs (nI i + (1 : Int32)).toNatClampNeg) Mx M_ hR
  refine VL.aload_n (pc := 321) C 1 rfl dL_law_321 ?_
  refine VL.aload_n (pc := 322) C 0 rfl dL_law_322 ?_
  refine VL.iload_n (pc := 323) C 3 rfl dL_law_323 ?_
  refine VL.iconst (pc := 324) C (1 : Int32) (by decide) dL_law_324 ?_
  refine VL.iadd (pc := 325) C dL_law_325 ?_
  refine VL.sld (pc := 326) C (lw_i1 hi5 hL) dL_law_326 ?_
  refine VL.callX (pc := 327) (As := [.int (xs (nI i + (1 : Int32)).toNatClampNeg)]) (rest := []) C (mX8_judge X.2.1 hGx e1) mf_X8_judge clX8 (sx_0 hGx) wM_L_44 rfl rfl ⟨by decide, by decide⟩ (Nat.le_of_ble_eq_true rfl) dL_law_327 ?_
  show VL Gx Gm X 330 [(0, .ref b), (1, .ref (gA Gx 0)), (2, .ref (gA Gm 0)), (3, .int (nI i))] [.int r] Mx1 M_
  refine VL.aload_n (pc := 330) C 2 rfl dL_law_330 ?_
  refine VL.aload_n (pc := 331) C 0 rfl dL_law_331 ?_
  refine VL.iload_n (pc := 332) C 3 rfl dL_law_332 ?_
  refine VL.iconst (pc := 333) C (1 : Int32) (by decide) dL_law_333 ?_
  refine VL.iadd (pc := 334) C dL_law_334 ?_
  refine VL.sld (pc := 335) C (lw_i1 hi5 hL) dL_law_335 ?_
  refine VL.callM (pc := 336) (As := [.int (xs (nI i + (1 : Int32)).toNatClampNeg)]) (rest := [.int r]) C (mX9_judge X.2.1 hGm e2) mf_X9_judge clX9 (sm_0 hGm) wM_L_47 rfl rfl ⟨by decide, by decide⟩ (Nat.le_of_ble_eq_true rfl) dL_law_336 ?_
  show VL Gx Gm X 339 [(0, .ref b), (1, .ref (gA Gx 0)), (2, .ref (gA Gm 0)), (3, .int (nI i))] [.int r, .int r] Mx1 M1
  refine VL.iceqT (pc := 339) C 881 (by decide) dL_law_339 ?_
  exact hk Mx1 M1 hR1
set_option maxHeartbeats 4000000 in
set_option maxRecDepth 100000 in
theorem law_c8 {Gx Gm : Rg} {X : Ct} {b L : Nat} {xs : Nat → Int32} (C : CL Gx Gm X b L xs) (hGx : gS Gx = shX) (hGm : gS Gm = shM) {i : Nat} (hi5 : i + 5 ≤ L) (hL : L ≤ 320) {Rl : Mm → Mm → Prop} (O : Op_behind Rl) {Mx M_ : Mm} (hR : Rl Mx M_) (hk : ∀ Mx1 M1, Rl Mx1 M1 → VL Gx Gm X 881 [(0, .ref b), (1, .ref (gA Gx 0)), (2, .ref (gA Gm 0)), (3, .int (nI i))] [] Mx1 M1) : VL Gx Gm X 344 [(0, .ref b), (1, .ref (gA Gx 0)), (2, .ref (gA Gm 0)), (3, .int (nI i))] [] Mx M_ := by
  obtain ⟨r, Mx1, M1, e1, e2, hR1⟩ := O (xs (nI i + (1 : Int32)).toNatClampNeg) (xs (nI i + (2 : Int32)).toNatClampNeg) Mx M_ hR
  refine VL.aload_n (pc := 344) C 1 rfl dL_law_344 ?_
  refine VL.aload_n (pc := 345) C 0 rfl dL_law_345 ?_
  refine VL.iload_n (pc := 346) C 3 rfl dL_law_346 ?_
  refine VL.iconst (pc := 347) C (1 : Int32) (by decide) dL_law_347 ?_
  refine VL.iadd (pc := 348) C dL_law_348 ?_
  refine VL.sld (pc := 349) C (lw_i1 hi5 hL) dL_law_349 ?_
  refine VL.aload_n (pc := 350) C 0 rfl dL_law_350 ?_
  refine VL.iload_n (pc := 351) C 3 rfl dL_law_351 ?_
  refine VL.iconst (pc := 352) C (2 : Int32) (by decide) dL_law_352 ?_
  refine VL.iadd (pc := 353) C dL_law_353 ?_
  refine VL.sld (pc := 354) C (lw_i2 hi5 hL) dL_law_354 ?_
  refine VL.callX (pc := 355) (As := [.int (xs (nI i + (1 : Int32)).toNatClampNeg), .int (xs (nI i + (2 : Int32)).toNatClampNeg)]) (rest := []) C (mX8_behind X.2.1 hGx e1) mf_X8_behind clX8 (sx_0 hGx) wM_L_48 rfl rfl ⟨by decide, by decide⟩ (Nat.le_of_ble_eq_true rfl) dL_law_355 ?_
  show VL Gx Gm X 358 [(0, .ref b), (1, .ref (gA Gx 0)), (2, .ref (gA Gm 0)), (3, .int (nI i))] [.int r] Mx1 M_
  refine VL.aload_n (pc := 358) C 2 rfl dL_law_358 ?_
  refine VL.aload_n (pc := 359) C 0 rfl dL_law_359 ?_
  refine VL.iload_n (pc := 360) C 3 rfl dL_law_360 ?_
  refine VL.iconst (pc := 361) C (1 : Int32) (by decide) dL_law_361 ?_
  refine VL.iadd (pc := 362) C dL_law_362 ?_
  refine VL.sld (pc := 363) C (lw_i1 hi5 hL) dL_law_363 ?_
  refine VL.aload_n (pc := 364) C 0 rfl dL_law_364 ?_
  refine VL.iload_n (pc := 365) C 3 rfl dL_law_365 ?_
  refine VL.iconst (pc := 366) C (2 : Int32) (by decide) dL_law_366 ?_
  refine VL.iadd (pc := 367) C dL_law_367 ?_
  refine VL.sld (pc := 368) C (lw_i2 hi5 hL) dL_law_368 ?_
  refine VL.callM (pc := 369) (As := [.int (xs (nI i + (1 : Int32)).toNatClampNeg), .int (xs (nI i + (2 : Int32)).toNatClampNeg)]) (rest := [.int r]) C (mX9_behind X.2.1 hGm e2) mf_X9_behind clX9 (sm_0 hGm) wM_L_51 rfl rfl ⟨by decide, by decide⟩ (Nat.le_of_ble_eq_true rfl) dL_law_369 ?_
  show VL Gx Gm X 372 [(0, .ref b), (1, .ref (gA Gx 0)), (2, .ref (gA Gm 0)), (3, .int (nI i))] [.int r, .int r] Mx1 M1
  refine VL.iceqT (pc := 372) C 881 (by decide) dL_law_372 ?_
  exact hk Mx1 M1 hR1
set_option maxHeartbeats 4000000 in
set_option maxRecDepth 100000 in
theorem law_c9 {Gx Gm : Rg} {X : Ct} {b L : Nat} {xs : Nat → Int32} (C : CL Gx Gm X b L xs) (hGx : gS Gx = shX) (hGm : gS Gm = shM) {i : Nat} (hi5 : i + 5 ≤ L) (hL : L ≤ 320) {Rl : Mm → Mm → Prop} (O : Op_ledger Rl) {Mx M_ : Mm} (hR : Rl Mx M_) (hk : ∀ Mx1 M1, Rl Mx1 M1 → VL Gx Gm X 881 [(0, .ref b), (1, .ref (gA Gx 0)), (2, .ref (gA Gm 0)), (3, .int (nI i))] [] Mx1 M1) : VL Gx Gm X 377 [(0, .ref b), (1, .ref (gA Gx 0)), (2, .ref (gA Gm 0)), (3, .int (nI i))] [] Mx M_ := by
  obtain ⟨r, Mx1, M1, e1, e2, hR1⟩ := O (xs (nI i + (1 : Int32)).toNatClampNeg) Mx M_ hR
  refine VL.aload_n (pc := 377) C 1 rfl dL_law_377 ?_
  refine VL.aload_n (pc := 378) C 0 rfl dL_law_378 ?_
  refine VL.iload_n (pc := 379) C 3 rfl dL_law_379 ?_
  refine VL.iconst (pc := 380) C (1 : Int32) (by decide) dL_law_380 ?_
  refine VL.iadd (pc := 381) C dL_law_381 ?_
  refine VL.sld (pc := 382) C (lw_i1 hi5 hL) dL_law_382 ?_
  refine VL.callX (pc := 383) (As := [.int (xs (nI i + (1 : Int32)).toNatClampNeg)]) (rest := []) C (mX8_ledger X.2.1 hGx e1) mf_X8_ledger clX8 (sx_0 hGx) wM_L_52 rfl rfl ⟨by decide, by decide⟩ (Nat.le_of_ble_eq_true rfl) dL_law_383 ?_
  show VL Gx Gm X 386 [(0, .ref b), (1, .ref (gA Gx 0)), (2, .ref (gA Gm 0)), (3, .int (nI i))] [.int r] Mx1 M_
  refine VL.aload_n (pc := 386) C 2 rfl dL_law_386 ?_
  refine VL.aload_n (pc := 387) C 0 rfl dL_law_387 ?_
  refine VL.iload_n (pc := 388) C 3 rfl dL_law_388 ?_
  refine VL.iconst (pc := 389) C (1 : Int32) (by decide) dL_law_389 ?_
  refine VL.iadd (pc := 390) C dL_law_390 ?_
  refine VL.sld (pc := 391) C (lw_i1 hi5 hL) dL_law_391 ?_
  refine VL.callM (pc := 392) (As := [.int (xs (nI i + (1 : Int32)).toNatClampNeg)]) (rest := [.int r]) C (mX9_ledger X.2.1 hGm e2) mf_X9_ledger clX9 (sm_0 hGm) wM_L_55 rfl rfl ⟨by decide, by decide⟩ (Nat.le_of_ble_eq_true rfl) dL_law_392 ?_
  show VL Gx Gm X 395 [(0, .ref b), (1, .ref (gA Gx 0)), (2, .ref (gA Gm 0)), (3, .int (nI i))] [.int r, .int r] Mx1 M1
  refine VL.iceqT (pc := 395) C 881 (by decide) dL_law_395 ?_
  exact hk Mx1 M1 hR1
set_option maxHeartbeats 4000000 in
set_option maxRecDepth 100000 in
theorem law_c10 {Gx Gm : Rg} {X : Ct} {b L : Nat} {xs : Nat → Int32} (C : CL Gx Gm X b L xs) (hGx : gS Gx = shX) (hGm : gS Gm = shM) {i : Nat} (hi5 : i + 5 ≤ L) (hL : L ≤ 320) {Rl : Mm → Mm → Prop} (O : Op_done Rl) {Mx M_ : Mm} (hR : Rl Mx M_) (hk : ∀ Mx1 M1, Rl Mx1 M1 → VL Gx Gm X 881 [(0, .ref b), (1, .ref (gA Gx 0)), (2, .ref (gA Gm 0)), (3, .int (nI i))] [] Mx1 M1) : VL Gx Gm X 400 [(0, .ref b), (1, .ref (gA Gx 0)), (2, .ref (gA Gm 0)), (3, .int (nI i))] [] Mx M_ := by
  obtain ⟨r, Mx1, M1, e1, e2, hR1⟩ := O  Mx M_ hR
  refine VL.aload_n (pc := 400) C 1 rfl dL_law_400 ?_
  refine VL.callX (pc := 401) (As := []) (rest := []) C (mX8_done X.2.1 hGx e1) mf_X8_done clX8 (sx_0 hGx) wM_L_56 rfl rfl ⟨by decide, by decide⟩ (Nat.le_of_ble_eq_true rfl) dL_law_401 ?_
  show VL Gx Gm X 404 [(0, .ref b), (1, .ref (gA Gx 0)), (2, .ref (gA Gm 0)), (3, .int (nI i))] [.int r] Mx1 M_
  refine VL.aload_n (pc := 404) C 2 rfl dL_law_404 ?_
  refine VL.callM (pc := 405) (As := []) (rest := [.int r]) C (mX9_done X.2.1 hGm e2) mf_X9_done clX9 (sm_0 hGm) wM_L_59 rfl rfl ⟨by decide, by decide⟩ (Nat.le_of_ble_eq_true rfl) dL_law_405 ?_
  show VL Gx Gm X 408 [(0, .ref b), (1, .ref (gA Gx 0)), (2, .ref (gA Gm 0)), (3, .int (nI i))] [.int r, .int r] Mx1 M1
  refine VL.iceqT (pc := 408) C 881 (by decide) dL_law_408 ?_
  exact hk Mx1 M1 hR1
set_option maxHeartbeats 4000000 in
set_option maxRecDepth 100000 in
theorem law_c11 {Gx Gm : Rg} {X : Ct} {b L : Nat} {xs : Nat → Int32} (C : CL Gx Gm X b L xs) (hGx : gS Gx = shX) (hGm : gS Gm = shM) {i : Nat} (hi5 : i + 5 ≤ L) (hL : L ≤ 320) {Rl : Mm → Mm → Prop} (O : Op_owed Rl) {Mx M_ : Mm} (hR : Rl Mx M_) (hk : ∀ Mx1 M1, Rl Mx1 M1 → VL Gx Gm X 881 [(0, .ref b), (1, .ref (gA Gx 0)), (2, .ref (gA Gm 0)), (3, .int (nI i))] [] Mx1 M1) : VL Gx Gm X 413 [(0, .ref b), (1, .ref (gA Gx 0)), (2, .ref (gA Gm 0)), (3, .int (nI i))] [] Mx M_ := by
  obtain ⟨r, Mx1, M1, e1, e2, hR1⟩ := O  Mx M_ hR
  refine VL.aload_n (pc := 413) C 1 rfl dL_law_413 ?_
  refine VL.callX (pc := 414) (As := []) (rest := []) C (mX8_owed X.2.1 hGx e1) mf_X8_owed clX8 (sx_0 hGx) wM_L_60 rfl rfl ⟨by decide, by decide⟩ (Nat.le_of_ble_eq_true rfl) dL_law_414 ?_
  show VL Gx Gm X 417 [(0, .ref b), (1, .ref (gA Gx 0)), (2, .ref (gA Gm 0)), (3, .int (nI i))] [.int r] Mx1 M_
  refine VL.aload_n (pc := 417) C 2 rfl dL_law_417 ?_
  refine VL.callM (pc := 418) (As := []) (rest := [.int r]) C (mX9_owed X.2.1 hGm e2) mf_X9_owed clX9 (sm_0 hGm) wM_L_63 rfl rfl ⟨by decide, by decide⟩ (Nat.le_of_ble_eq_true rfl) dL_law_418 ?_
  show VL Gx Gm X 421 [(0, .ref b), (1, .ref (gA Gx 0)), (2, .ref (gA Gm 0)), (3, .int (nI i))] [.int r, .int r] Mx1 M1
  refine VL.iceqT (pc := 421) C 881 (by decide) dL_law_421 ?_
  exact hk Mx1 M1 hR1
set_option maxHeartbeats 4000000 in
set_option maxRecDepth 100000 in
theorem law_c12 {Gx Gm : Rg} {X : Ct} {b L : Nat} {xs : Nat → Int32} (C : CL Gx Gm X b L xs) (hGx : gS Gx = shX) (hGm : gS Gm = shM) {i : Nat} (hi5 : i + 5 ≤ L) (hL : L ≤ 320) {Rl : Mm → Mm → Prop} (O : Op_home Rl) {Mx M_ : Mm} (hR : Rl Mx M_) (hk : ∀ Mx1 M1, Rl Mx1 M1 → VL Gx Gm X 881 [(0, .ref b), (1, .ref (gA Gx 0)), (2, .ref (gA Gm 0)), (3, .int (nI i))] [] Mx1 M1) : VL Gx Gm X 426 [(0, .ref b), (1, .ref (gA Gx 0)), (2, .ref (gA Gm 0)), (3, .int (nI i))] [] Mx M_ := by
  obtain ⟨r, Mx1, M1, e1, e2, hR1⟩ := O (xs (nI i + (1 : Int32)).toNatClampNeg) Mx M_ hR
  refine VL.aload_n (pc := 426) C 1 rfl dL_law_426 ?_
  refine VL.aload_n (pc := 427) C 0 rfl dL_law_427 ?_
  refine VL.iload_n (pc := 428) C 3 rfl dL_law_428 ?_
  refine VL.iconst (pc := 429) C (1 : Int32) (by decide) dL_law_429 ?_
  refine VL.iadd (pc := 430) C dL_law_430 ?_
  refine VL.sld (pc := 431) C (lw_i1 hi5 hL) dL_law_431 ?_
  refine VL.callX (pc := 432) (As := [.int (xs (nI i + (1 : Int32)).toNatClampNeg)]) (rest := []) C (mX8_home X.2.1 hGx e1) mf_X8_home clX8 (sx_0 hGx) wM_L_64 rfl rfl ⟨by decide, by decide⟩ (Nat.le_of_ble_eq_true rfl) dL_law_432 ?_
  show VL Gx Gm X 435 [(0, .ref b), (1, .ref (gA Gx 0)), (2, .ref (gA Gm 0)), (3, .int (nI i))] [.int r] Mx1 M_
  refine VL.aload_n (pc := 435) C 2 rfl dL_law_435 ?_
  refine VL.aload_n (pc := 436) C 0 rfl dL_law_436 ?_
  refine VL.iload_n (pc := 437) C 3 rfl dL_law_437 ?_
  refine VL.iconst (pc := 438) C (1 : Int32) (by decide) dL_law_438 ?_
  refine VL.iadd (pc := 439) C dL_law_439 ?_
  refine VL.sld (pc := 440) C (lw_i1 hi5 hL) dL_law_440 ?_
  refine VL.callM (pc := 441) (As := [.int (xs (nI i + (1 : Int32)).toNatClampNeg)]) (rest := [.int r]) C (mX9_home X.2.1 hGm e2) mf_X9_home clX9 (sm_0 hGm) wM_L_67 rfl rfl ⟨by decide, by decide⟩ (Nat.le_of_ble_eq_true rfl) dL_law_441 ?_
  show VL Gx Gm X 444 [(0, .ref b), (1, .ref (gA Gx 0)), (2, .ref (gA Gm 0)), (3, .int (nI i))] [.int r, .int r] Mx1 M1
  refine VL.iceqT (pc := 444) C 881 (by decide) dL_law_444 ?_
  exact hk Mx1 M1 hR1
set_option maxHeartbeats 4000000 in
set_option maxRecDepth 100000 in
theorem law_c13 {Gx Gm : Rg} {X : Ct} {b L : Nat} {xs : Nat → Int32} (C : CL Gx Gm X b L xs) (hGx : gS Gx = shX) (hGm : gS Gm = shM) {i : Nat} (hi5 : i + 5 ≤ L) (hL : L ≤ 320) {Rl : Mm → Mm → Prop} (O : Op_bring Rl) {Mx M_ : Mm} (hR : Rl Mx M_) (hk : ∀ Mx1 M1, Rl Mx1 M1 → VL Gx Gm X 881 [(0, .ref b), (1, .ref (gA Gx 0)), (2, .ref (gA Gm 0)), (3, .int (nI i))] [] Mx1 M1) : VL Gx Gm X 449 [(0, .ref b), (1, .ref (gA Gx 0)), (2, .ref (gA Gm 0)), (3, .int (nI i))] [] Mx M_ := by
  obtain ⟨r, Mx1, M1, e1, e2, hR1⟩ := O (xs (nI i + (1 : Int32)).toNatClampNeg) (xs (nI i + (2 : Int32)).toNatClampNeg) Mx M_ hR
  refine VL.aload_n (pc := 449) C 1 rfl dL_law_449 ?_
  refine VL.aload_n (pc := 450) C 0 rfl dL_law_450 ?_
  refine VL.iload_n (pc := 451) C 3 rfl dL_law_451 ?_
  refine VL.iconst (pc := 452) C (1 : Int32) (by decide) dL_law_452 ?_
  refine VL.iadd (pc := 453) C dL_law_453 ?_
  refine VL.sld (pc := 454) C (lw_i1 hi5 hL) dL_law_454 ?_
  refine VL.aload_n (pc := 455) C 0 rfl dL_law_455 ?_
  refine VL.iload_n (pc := 456) C 3 rfl dL_law_456 ?_
  refine VL.iconst (pc := 457) C (2 : Int32) (by decide) dL_law_457 ?_
  refine VL.iadd (pc := 458) C dL_law_458 ?_
  refine VL.sld (pc := 459) C (lw_i2 hi5 hL) dL_law_459 ?_
  refine VL.callX (pc := 460) (As := [.int (xs (nI i + (1 : Int32)).toNatClampNeg), .int (xs (nI i + (2 : Int32)).toNatClampNeg)]) (rest := []) C (mX8_bring X.2.1 hGx e1) mf_X8_bring clX8 (sx_0 hGx) wM_L_68 rfl rfl ⟨by decide, by decide⟩ (Nat.le_of_ble_eq_true rfl) dL_law_460 ?_
  show VL Gx Gm X 463 [(0, .ref b), (1, .ref (gA Gx 0)), (2, .ref (gA Gm 0)), (3, .int (nI i))] [.int r] Mx1 M_
  refine VL.aload_n (pc := 463) C 2 rfl dL_law_463 ?_
  refine VL.aload_n (pc := 464) C 0 rfl dL_law_464 ?_
  refine VL.iload_n (pc := 465) C 3 rfl dL_law_465 ?_
  refine VL.iconst (pc := 466) C (1 : Int32) (by decide) dL_law_466 ?_
  refine VL.iadd (pc := 467) C dL_law_467 ?_
  refine VL.sld (pc := 468) C (lw_i1 hi5 hL) dL_law_468 ?_
  refine VL.aload_n (pc := 469) C 0 rfl dL_law_469 ?_
  refine VL.iload_n (pc := 470) C 3 rfl dL_law_470 ?_
  refine VL.iconst (pc := 471) C (2 : Int32) (by decide) dL_law_471 ?_
  refine VL.iadd (pc := 472) C dL_law_472 ?_
  refine VL.sld (pc := 473) C (lw_i2 hi5 hL) dL_law_473 ?_
  refine VL.callM (pc := 474) (As := [.int (xs (nI i + (1 : Int32)).toNatClampNeg), .int (xs (nI i + (2 : Int32)).toNatClampNeg)]) (rest := [.int r]) C (mX9_bring X.2.1 hGm e2) mf_X9_bring clX9 (sm_0 hGm) wM_L_71 rfl rfl ⟨by decide, by decide⟩ (Nat.le_of_ble_eq_true rfl) dL_law_474 ?_
  show VL Gx Gm X 477 [(0, .ref b), (1, .ref (gA Gx 0)), (2, .ref (gA Gm 0)), (3, .int (nI i))] [.int r, .int r] Mx1 M1
  refine VL.iceqT (pc := 477) C 881 (by decide) dL_law_477 ?_
  exact hk Mx1 M1 hR1
set_option maxHeartbeats 4000000 in
set_option maxRecDepth 100000 in
theorem law_c14 {Gx Gm : Rg} {X : Ct} {b L : Nat} {xs : Nat → Int32} (C : CL Gx Gm X b L xs) (hGx : gS Gx = shX) (hGm : gS Gm = shM) {i : Nat} (hi5 : i + 5 ≤ L) (hL : L ≤ 320) {Rl : Mm → Mm → Prop} (O : Op_lots Rl) {Mx M_ : Mm} (hR : Rl Mx M_) (hk : ∀ Mx1 M1, Rl Mx1 M1 → VL Gx Gm X 881 [(0, .ref b), (1, .ref (gA Gx 0)), (2, .ref (gA Gm 0)), (3, .int (nI i))] [] Mx1 M1) : VL Gx Gm X 482 [(0, .ref b), (1, .ref (gA Gx 0)), (2, .ref (gA Gm 0)), (3, .int (nI i))] [] Mx M_ := by
  obtain ⟨r, Mx1, M1, e1, e2, hR1⟩ := O  Mx M_ hR
  refine VL.aload_n (pc := 482) C 1 rfl dL_law_482 ?_
  refine VL.callX (pc := 483) (As := []) (rest := []) C (mX8_lots X.2.1 hGx e1) mf_X8_lots clX8 (sx_0 hGx) wM_L_72 rfl rfl ⟨by decide, by decide⟩ (Nat.le_of_ble_eq_true rfl) dL_law_483 ?_
  show VL Gx Gm X 486 [(0, .ref b), (1, .ref (gA Gx 0)), (2, .ref (gA Gm 0)), (3, .int (nI i))] [.int r] Mx1 M_
  refine VL.aload_n (pc := 486) C 2 rfl dL_law_486 ?_
  refine VL.callM (pc := 487) (As := []) (rest := [.int r]) C (mX9_lots X.2.1 hGm e2) mf_X9_lots clX9 (sm_0 hGm) wM_L_75 rfl rfl ⟨by decide, by decide⟩ (Nat.le_of_ble_eq_true rfl) dL_law_487 ?_
  show VL Gx Gm X 490 [(0, .ref b), (1, .ref (gA Gx 0)), (2, .ref (gA Gm 0)), (3, .int (nI i))] [.int r, .int r] Mx1 M1
  refine VL.iceqT (pc := 490) C 881 (by decide) dL_law_490 ?_
  exact hk Mx1 M1 hR1
set_option maxHeartbeats 4000000 in
set_option maxRecDepth 100000 in
theorem law_c15 {Gx Gm : Rg} {X : Ct} {b L : Nat} {xs : Nat → Int32} (C : CL Gx Gm X b L xs) (hGx : gS Gx = shX) (hGm : gS Gm = shM) {i : Nat} (hi5 : i + 5 ≤ L) (hL : L ≤ 320) {Rl : Mm → Mm → Prop} (O : Op_even Rl) {Mx M_ : Mm} (hR : Rl Mx M_) (hk : ∀ Mx1 M1, Rl Mx1 M1 → VL Gx Gm X 881 [(0, .ref b), (1, .ref (gA Gx 0)), (2, .ref (gA Gm 0)), (3, .int (nI i))] [] Mx1 M1) : VL Gx Gm X 495 [(0, .ref b), (1, .ref (gA Gx 0)), (2, .ref (gA Gm 0)), (3, .int (nI i))] [] Mx M_ := by
  obtain ⟨r, Mx1, M1, e1, e2, hR1⟩ := O  Mx M_ hR
  refine VL.aload_n (pc := 495) C 1 rfl dL_law_495 ?_
  refine VL.callX (pc := 496) (As := []) (rest := []) C (mX8_even X.2.1 hGx e1) mf_X8_even clX8 (sx_0 hGx) wM_L_76 rfl rfl ⟨by decide, by decide⟩ (Nat.le_of_ble_eq_true rfl) dL_law_496 ?_
  show VL Gx Gm X 499 [(0, .ref b), (1, .ref (gA Gx 0)), (2, .ref (gA Gm 0)), (3, .int (nI i))] [.int r] Mx1 M_
  refine VL.aload_n (pc := 499) C 2 rfl dL_law_499 ?_
  refine VL.callM (pc := 500) (As := []) (rest := [.int r]) C (mX9_even X.2.1 hGm e2) mf_X9_even clX9 (sm_0 hGm) wM_L_79 rfl rfl ⟨by decide, by decide⟩ (Nat.le_of_ble_eq_true rfl) dL_law_500 ?_
  show VL Gx Gm X 503 [(0, .ref b), (1, .ref (gA Gx 0)), (2, .ref (gA Gm 0)), (3, .int (nI i))] [.int r, .int r] Mx1 M1
  refine VL.iceqT (pc := 503) C 881 (by decide) dL_law_503 ?_
  exact hk Mx1 M1 hR1
set_option maxHeartbeats 4000000 in
set_option maxRecDepth 100000 in
theorem law_c16 {Gx Gm : Rg} {X : Ct} {b L : Nat} {xs : Nat → Int32} (C : CL Gx Gm X b L xs) (hGx : gS Gx = shX) (hGm : gS Gm = shM) {i : Nat} (hi5 : i + 5 ≤ L) (hL : L ≤ 320) {Rl : Mm → Mm → Prop} (O : Op_fair Rl) {Mx M_ : Mm} (hR : Rl Mx M_) (hk : ∀ Mx1 M1, Rl Mx1 M1 → VL Gx Gm X 881 [(0, .ref b), (1, .ref (gA Gx 0)), (2, .ref (gA Gm 0)), (3, .int (nI i))] [] Mx1 M1) : VL Gx Gm X 508 [(0, .ref b), (1, .ref (gA Gx 0)), (2, .ref (gA Gm 0)), (3, .int (nI i))] [] Mx M_ := by
  obtain ⟨r, Mx1, M1, e1, e2, hR1⟩ := O (xs (nI i + (1 : Int32)).toNatClampNeg) Mx M_ hR
  refine VL.aload_n (pc := 508) C 1 rfl dL_law_508 ?_
  refine VL.aload_n (pc := 509) C 0 rfl dL_law_509 ?_
  refine VL.iload_n (pc := 510) C 3 rfl dL_law_510 ?_
  refine VL.iconst (pc := 511) C (1 : Int32) (by decide) dL_law_511 ?_
  refine VL.iadd (pc := 512) C dL_law_512 ?_
  refine VL.sld (pc := 513) C (lw_i1 hi5 hL) dL_law_513 ?_
  refine VL.callX (pc := 514) (As := [.int (xs (nI i + (1 : Int32)).toNatClampNeg)]) (rest := []) C (mX8_fair X.2.1 hGx e1) mf_X8_fair clX8 (sx_0 hGx) wM_L_80 rfl rfl ⟨by decide, by decide⟩ (Nat.le_of_ble_eq_true rfl) dL_law_514 ?_
  show VL Gx Gm X 517 [(0, .ref b), (1, .ref (gA Gx 0)), (2, .ref (gA Gm 0)), (3, .int (nI i))] [.int r] Mx1 M_
  refine VL.aload_n (pc := 517) C 2 rfl dL_law_517 ?_
  refine VL.aload_n (pc := 518) C 0 rfl dL_law_518 ?_
  refine VL.iload_n (pc := 519) C 3 rfl dL_law_519 ?_
  refine VL.iconst (pc := 520) C (1 : Int32) (by decide) dL_law_520 ?_
  refine VL.iadd (pc := 521) C dL_law_521 ?_
  refine VL.sld (pc := 522) C (lw_i1 hi5 hL) dL_law_522 ?_
  refine VL.callM (pc := 523) (As := [.int (xs (nI i + (1 : Int32)).toNatClampNeg)]) (rest := [.int r]) C (mX9_fair X.2.1 hGm e2) mf_X9_fair clX9 (sm_0 hGm) wM_L_83 rfl rfl ⟨by decide, by decide⟩ (Nat.le_of_ble_eq_true rfl) dL_law_523 ?_
  show VL Gx Gm X 526 [(0, .ref b), (1, .ref (gA Gx 0)), (2, .ref (gA Gm 0)), (3, .int (nI i))] [.int r, .int r] Mx1 M1
  refine VL.iceqT (pc := 526) C 881 (by decide) dL_law_526 ?_
  exact hk Mx1 M1 hR1
set_option maxHeartbeats 4000000 in
set_option maxRecDepth 100000 in
theorem law_c17 {Gx Gm : Rg} {X : Ct} {b L : Nat} {xs : Nat → Int32} (C : CL Gx Gm X b L xs) (hGx : gS Gx = shX) (hGm : gS Gm = shM) {i : Nat} (hi5 : i + 5 ≤ L) (hL : L ≤ 320) {Rl : Mm → Mm → Prop} (O : Op_seen Rl) {Mx M_ : Mm} (hR : Rl Mx M_) (hk : ∀ Mx1 M1, Rl Mx1 M1 → VL Gx Gm X 881 [(0, .ref b), (1, .ref (gA Gx 0)), (2, .ref (gA Gm 0)), (3, .int (nI i))] [] Mx1 M1) : VL Gx Gm X 531 [(0, .ref b), (1, .ref (gA Gx 0)), (2, .ref (gA Gm 0)), (3, .int (nI i))] [] Mx M_ := by
  by_cases hz : xs (nI i + (3 : Int32)).toNatClampNeg = 0
  · obtain ⟨r, Mx1, M1, e1, e2, hR1⟩ := O (xs (nI i + (1 : Int32)).toNatClampNeg) (xs (nI i + (2 : Int32)).toNatClampNeg) (0 : Int32) Mx M_ (Or.inl rfl) hR
    refine VL.aload_n (pc := 531) C 1 rfl dL_law_531 ?_
    refine VL.aload_n (pc := 532) C 0 rfl dL_law_532 ?_
    refine VL.iload_n (pc := 533) C 3 rfl dL_law_533 ?_
    refine VL.iconst (pc := 534) C (1 : Int32) (by decide) dL_law_534 ?_
    refine VL.iadd (pc := 535) C dL_law_535 ?_
    refine VL.sld (pc := 536) C (lw_i1 hi5 hL) dL_law_536 ?_
    refine VL.aload_n (pc := 537) C 0 rfl dL_law_537 ?_
    refine VL.iload_n (pc := 538) C 3 rfl dL_law_538 ?_
    refine VL.iconst (pc := 539) C (2 : Int32) (by decide) dL_law_539 ?_
    refine VL.iadd (pc := 540) C dL_law_540 ?_
    refine VL.sld (pc := 541) C (lw_i2 hi5 hL) dL_law_541 ?_
    refine VL.aload_n (pc := 542) C 0 rfl dL_law_542 ?_
    refine VL.iload_n (pc := 543) C 3 rfl dL_law_543 ?_
    refine VL.iconst (pc := 544) C (3 : Int32) (by decide) dL_law_544 ?_
    refine VL.iadd (pc := 545) C dL_law_545 ?_
    refine VL.sld (pc := 546) C (lw_i3 hi5 hL) dL_law_546 ?_
    refine VL.ifeqT (pc := 547) C 554 hz (by decide) dL_law_547 ?_
    refine VL.iconst (pc := 554) C (0 : Int32) (by decide) dL_law_554 ?_
    refine VL.callX (pc := 555) (As := [.int (xs (nI i + (1 : Int32)).toNatClampNeg), .int (xs (nI i + (2 : Int32)).toNatClampNeg), .int (0 : Int32)]) (rest := []) C (mX8_seen X.2.1 hGx e1) mf_X8_seen clX8 (sx_0 hGx) wM_L_84 rfl rfl ⟨by decide, by decide⟩ (Nat.le_of_ble_eq_true rfl) dL_law_555 ?_
    show VL Gx Gm X 558 [(0, .ref b), (1, .ref (gA Gx 0)), (2, .ref (gA Gm 0)), (3, .int (nI i))] [.int r] Mx1 M_
    refine VL.aload_n (pc := 558) C 2 rfl dL_law_558 ?_
    refine VL.aload_n (pc := 559) C 0 rfl dL_law_559 ?_
    refine VL.iload_n (pc := 560) C 3 rfl dL_law_560 ?_
    refine VL.iconst (pc := 561) C (1 : Int32) (by decide) dL_law_561 ?_
    refine VL.iadd (pc := 562) C dL_law_562 ?_
    refine VL.sld (pc := 563) C (lw_i1 hi5 hL) dL_law_563 ?_
    refine VL.aload_n (pc := 564) C 0 rfl dL_law_564 ?_
    refine VL.iload_n (pc := 565) C 3 rfl dL_law_565 ?_
    refine VL.iconst (pc := 566) C (2 : Int32) (by decide) dL_law_566 ?_
    refine VL.iadd (pc := 567) C dL_law_567 ?_
    refine VL.sld (pc := 568) C (lw_i2 hi5 hL) dL_law_568 ?_
    refine VL.aload_n (pc := 569) C 0 rfl dL_law_569 ?_
    refine VL.iload_n (pc := 570) C 3 rfl dL_law_570 ?_
    refine VL.iconst (pc := 571) C (3 : Int32) (by decide) dL_law_571 ?_
    refine VL.iadd (pc := 572) C dL_law_572 ?_
    refine VL.sld (pc := 573) C (lw_i3 hi5 hL) dL_law_573 ?_
    refine VL.ifeqT (pc := 574) C 581 hz (by decide) dL_law_574 ?_
    refine VL.iconst (pc := 581) C (0 : Int32) (by decide) dL_law_581 ?_
    refine VL.callM (pc := 582) (As := [.int (xs (nI i + (1 : Int32)).toNatClampNeg), .int (xs (nI i + (2 : Int32)).toNatClampNeg), .int (0 : Int32)]) (rest := [.int r]) C (mX9_seen X.2.1 hGm e2) mf_X9_seen clX9 (sm_0 hGm) wM_L_88 rfl rfl ⟨by decide, by decide⟩ (Nat.le_of_ble_eq_true rfl) dL_law_582 ?_
    show VL Gx Gm X 585 [(0, .ref b), (1, .ref (gA Gx 0)), (2, .ref (gA Gm 0)), (3, .int (nI i))] [.int r, .int r] Mx1 M1
    refine VL.iceqT (pc := 585) C 881 (by decide) dL_law_585 ?_
    exact hk Mx1 M1 hR1
  · obtain ⟨r, Mx1, M1, e1, e2, hR1⟩ := O (xs (nI i + (1 : Int32)).toNatClampNeg) (xs (nI i + (2 : Int32)).toNatClampNeg) (1 : Int32) Mx M_ (Or.inr rfl) hR
    refine VL.aload_n (pc := 531) C 1 rfl dL_law_531 ?_
    refine VL.aload_n (pc := 532) C 0 rfl dL_law_532 ?_
    refine VL.iload_n (pc := 533) C 3 rfl dL_law_533 ?_
    refine VL.iconst (pc := 534) C (1 : Int32) (by decide) dL_law_534 ?_
    refine VL.iadd (pc := 535) C dL_law_535 ?_
    refine VL.sld (pc := 536) C (lw_i1 hi5 hL) dL_law_536 ?_
    refine VL.aload_n (pc := 537) C 0 rfl dL_law_537 ?_
    refine VL.iload_n (pc := 538) C 3 rfl dL_law_538 ?_
    refine VL.iconst (pc := 539) C (2 : Int32) (by decide) dL_law_539 ?_
    refine VL.iadd (pc := 540) C dL_law_540 ?_
    refine VL.sld (pc := 541) C (lw_i2 hi5 hL) dL_law_541 ?_
    refine VL.aload_n (pc := 542) C 0 rfl dL_law_542 ?_
    refine VL.iload_n (pc := 543) C 3 rfl dL_law_543 ?_
    refine VL.iconst (pc := 544) C (3 : Int32) (by decide) dL_law_544 ?_
    refine VL.iadd (pc := 545) C dL_law_545 ?_
    refine VL.sld (pc := 546) C (lw_i3 hi5 hL) dL_law_546 ?_
    refine VL.ifeqF (pc := 547) C 554 hz (by decide) dL_law_547 ?_
    refine VL.iconst (pc := 550) C (1 : Int32) (by decide) dL_law_550 ?_
    refine VL.goto (pc := 551) C 555 (by decide) dL_law_551 ?_
    refine VL.callX (pc := 555) (As := [.int (xs (nI i + (1 : Int32)).toNatClampNeg), .int (xs (nI i + (2 : Int32)).toNatClampNeg), .int (1 : Int32)]) (rest := []) C (mX8_seen X.2.1 hGx e1) mf_X8_seen clX8 (sx_0 hGx) wM_L_84 rfl rfl ⟨by decide, by decide⟩ (Nat.le_of_ble_eq_true rfl) dL_law_555 ?_
    show VL Gx Gm X 558 [(0, .ref b), (1, .ref (gA Gx 0)), (2, .ref (gA Gm 0)), (3, .int (nI i))] [.int r] Mx1 M_
    refine VL.aload_n (pc := 558) C 2 rfl dL_law_558 ?_
    refine VL.aload_n (pc := 559) C 0 rfl dL_law_559 ?_
    refine VL.iload_n (pc := 560) C 3 rfl dL_law_560 ?_
    refine VL.iconst (pc := 561) C (1 : Int32) (by decide) dL_law_561 ?_
    refine VL.iadd (pc := 562) C dL_law_562 ?_
    refine VL.sld (pc := 563) C (lw_i1 hi5 hL) dL_law_563 ?_
    refine VL.aload_n (pc := 564) C 0 rfl dL_law_564 ?_
    refine VL.iload_n (pc := 565) C 3 rfl dL_law_565 ?_
    refine VL.iconst (pc := 566) C (2 : Int32) (by decide) dL_law_566 ?_
    refine VL.iadd (pc := 567) C dL_law_567 ?_
    refine VL.sld (pc := 568) C (lw_i2 hi5 hL) dL_law_568 ?_
    refine VL.aload_n (pc := 569) C 0 rfl dL_law_569 ?_
    refine VL.iload_n (pc := 570) C 3 rfl dL_law_570 ?_
    refine VL.iconst (pc := 571) C (3 : Int32) (by decide) dL_law_571 ?_
    refine VL.iadd (pc := 572) C dL_law_572 ?_
    refine VL.sld (pc := 573) C (lw_i3 hi5 hL) dL_law_573 ?_
    refine VL.ifeqF (pc := 574) C 581 hz (by decide) dL_law_574 ?_
    refine VL.iconst (pc := 577) C (1 : Int32) (by decide) dL_law_577 ?_
    refine VL.goto (pc := 578) C 582 (by decide) dL_law_578 ?_
    refine VL.callM (pc := 582) (As := [.int (xs (nI i + (1 : Int32)).toNatClampNeg), .int (xs (nI i + (2 : Int32)).toNatClampNeg), .int (1 : Int32)]) (rest := [.int r]) C (mX9_seen X.2.1 hGm e2) mf_X9_seen clX9 (sm_0 hGm) wM_L_88 rfl rfl ⟨by decide, by decide⟩ (Nat.le_of_ble_eq_true rfl) dL_law_582 ?_
    show VL Gx Gm X 585 [(0, .ref b), (1, .ref (gA Gx 0)), (2, .ref (gA Gm 0)), (3, .int (nI i))] [.int r, .int r] Mx1 M1
    refine VL.iceqT (pc := 585) C 881 (by decide) dL_law_585 ?_
    exact hk Mx1 M1 hR1
set_option maxHeartbeats 4000000 in
set_option maxRecDepth 100000 in
theorem law_c18 {Gx Gm : Rg} {X : Ct} {b L : Nat} {xs : Nat → Int32} (C : CL Gx Gm X b L xs) (hGx : gS Gx = shX) (hGm : gS Gm = shM) {i : Nat} (hi5 : i + 5 ≤ L) (hL : L ≤ 320) {Rl : Mm → Mm → Prop} (O : Op_forget Rl) {Mx M_ : Mm} (hR : Rl Mx M_) (hk : ∀ Mx1 M1, Rl Mx1 M1 → VL Gx Gm X 881 [(0, .ref b), (1, .ref (gA Gx 0)), (2, .ref (gA Gm 0)), (3, .int (nI i))] [] Mx1 M1) : VL Gx Gm X 590 [(0, .ref b), (1, .ref (gA Gx 0)), (2, .ref (gA Gm 0)), (3, .int (nI i))] [] Mx M_ := by
  obtain ⟨r, Mx1, M1, e1, e2, hR1⟩ := O  Mx M_ hR
  refine VL.aload_n (pc := 590) C 1 rfl dL_law_590 ?_
  refine VL.callX (pc := 591) (As := []) (rest := []) C (mX8_forget X.2.1 hGx e1) mf_X8_forget clX8 (sx_0 hGx) wM_L_89 rfl rfl ⟨by decide, by decide⟩ (Nat.le_of_ble_eq_true rfl) dL_law_591 ?_
  show VL Gx Gm X 594 [(0, .ref b), (1, .ref (gA Gx 0)), (2, .ref (gA Gm 0)), (3, .int (nI i))] [.int r] Mx1 M_
  refine VL.aload_n (pc := 594) C 2 rfl dL_law_594 ?_
  refine VL.callM (pc := 595) (As := []) (rest := [.int r]) C (mX9_forget X.2.1 hGm e2) mf_X9_forget clX9 (sm_0 hGm) wM_L_92 rfl rfl ⟨by decide, by decide⟩ (Nat.le_of_ble_eq_true rfl) dL_law_595 ?_
  show VL Gx Gm X 598 [(0, .ref b), (1, .ref (gA Gx 0)), (2, .ref (gA Gm 0)), (3, .int (nI i))] [.int r, .int r] Mx1 M1
  refine VL.iceqT (pc := 598) C 881 (by decide) dL_law_598 ?_
  exact hk Mx1 M1 hR1
set_option maxHeartbeats 4000000 in
set_option maxRecDepth 100000 in
theorem law_c19 {Gx Gm : Rg} {X : Ct} {b L : Nat} {xs : Nat → Int32} (C : CL Gx Gm X b L xs) (hGx : gS Gx = shX) (hGm : gS Gm = shM) {i : Nat} (hi5 : i + 5 ≤ L) (hL : L ≤ 320) {Rl : Mm → Mm → Prop} (O : Op_forged Rl) {Mx M_ : Mm} (hR : Rl Mx M_) (hk : ∀ Mx1 M1, Rl Mx1 M1 → VL Gx Gm X 881 [(0, .ref b), (1, .ref (gA Gx 0)), (2, .ref (gA Gm 0)), (3, .int (nI i))] [] Mx1 M1) : VL Gx Gm X 603 [(0, .ref b), (1, .ref (gA Gx 0)), (2, .ref (gA Gm 0)), (3, .int (nI i))] [] Mx M_ := by
  obtain ⟨r, Mx1, M1, e1, e2, hR1⟩ := O (xs (nI i + (1 : Int32)).toNatClampNeg) Mx M_ hR
  refine VL.aload_n (pc := 603) C 1 rfl dL_law_603 ?_
  refine VL.aload_n (pc := 604) C 0 rfl dL_law_604 ?_
  refine VL.iload_n (pc := 605) C 3 rfl dL_law_605 ?_
  refine VL.iconst (pc := 606) C (1 : Int32) (by decide) dL_law_606 ?_
  refine VL.iadd (pc := 607) C dL_law_607 ?_
  refine VL.sld (pc := 608) C (lw_i1 hi5 hL) dL_law_608 ?_
  refine VL.callX (pc := 609) (As := [.int (xs (nI i + (1 : Int32)).toNatClampNeg)]) (rest := []) C (mX8_forged X.2.1 hGx e1) mf_X8_forged clX8 (sx_0 hGx) wM_L_93 rfl rfl ⟨by decide, by decide⟩ (Nat.le_of_ble_eq_true rfl) dL_law_609 ?_
  show VL Gx Gm X 612 [(0, .ref b), (1, .ref (gA Gx 0)), (2, .ref (gA Gm 0)), (3, .int (nI i))] [.int r] Mx1 M_
  refine VL.aload_n (pc := 612) C 2 rfl dL_law_612 ?_
  refine VL.aload_n (pc := 613) C 0 rfl dL_law_613 ?_
  refine VL.iload_n (pc := 614) C 3 rfl dL_law_614 ?_
  refine VL.iconst (pc := 615) C (1 : Int32) (by decide) dL_law_615 ?_
  refine VL.iadd (pc := 616) C dL_law_616 ?_
  refine VL.sld (pc := 617) C (lw_i1 hi5 hL) dL_law_617 ?_
  refine VL.callM (pc := 618) (As := [.int (xs (nI i + (1 : Int32)).toNatClampNeg)]) (rest := [.int r]) C (mX9_forged X.2.1 hGm e2) mf_X9_forged clX9 (sm_0 hGm) wM_L_96 rfl rfl ⟨by decide, by decide⟩ (Nat.le_of_ble_eq_true rfl) dL_law_618 ?_
  show VL Gx Gm X 621 [(0, .ref b), (1, .ref (gA Gx 0)), (2, .ref (gA Gm 0)), (3, .int (nI i))] [.int r, .int r] Mx1 M1
  refine VL.iceqT (pc := 621) C 881 (by decide) dL_law_621 ?_
  exact hk Mx1 M1 hR1
set_option maxHeartbeats 4000000 in
set_option maxRecDepth 100000 in
theorem law_c20 {Gx Gm : Rg} {X : Ct} {b L : Nat} {xs : Nat → Int32} (C : CL Gx Gm X b L xs) (hGx : gS Gx = shX) (hGm : gS Gm = shM) {i : Nat} (hi5 : i + 5 ≤ L) (hL : L ≤ 320) {Rl : Mm → Mm → Prop} (O : Op_rank Rl) {Mx M_ : Mm} (hR : Rl Mx M_) (hk : ∀ Mx1 M1, Rl Mx1 M1 → VL Gx Gm X 881 [(0, .ref b), (1, .ref (gA Gx 0)), (2, .ref (gA Gm 0)), (3, .int (nI i))] [] Mx1 M1) : VL Gx Gm X 626 [(0, .ref b), (1, .ref (gA Gx 0)), (2, .ref (gA Gm 0)), (3, .int (nI i))] [] Mx M_ := by
  obtain ⟨r, Mx1, M1, e1, e2, hR1⟩ := O (xs (nI i + (1 : Int32)).toNatClampNeg) Mx M_ hR
  refine VL.aload_n (pc := 626) C 1 rfl dL_law_626 ?_
  refine VL.aload_n (pc := 627) C 0 rfl dL_law_627 ?_
  refine VL.iload_n (pc := 628) C 3 rfl dL_law_628 ?_
  refine VL.iconst (pc := 629) C (1 : Int32) (by decide) dL_law_629 ?_
  refine VL.iadd (pc := 630) C dL_law_630 ?_
  refine VL.sld (pc := 631) C (lw_i1 hi5 hL) dL_law_631 ?_
  refine VL.callX (pc := 632) (As := [.int (xs (nI i + (1 : Int32)).toNatClampNeg)]) (rest := []) C (mX8_rank X.2.1 hGx e1) mf_X8_rank clX8 (sx_0 hGx) wM_L_97 rfl rfl ⟨by decide, by decide⟩ (Nat.le_of_ble_eq_true rfl) dL_law_632 ?_
  show VL Gx Gm X 635 [(0, .ref b), (1, .ref (gA Gx 0)), (2, .ref (gA Gm 0)), (3, .int (nI i))] [.int r] Mx1 M_
  refine VL.aload_n (pc := 635) C 2 rfl dL_law_635 ?_
  refine VL.aload_n (pc := 636) C 0 rfl dL_law_636 ?_
  refine VL.iload_n (pc := 637) C 3 rfl dL_law_637 ?_
  refine VL.iconst (pc := 638) C (1 : Int32) (by decide) dL_law_638 ?_
  refine VL.iadd (pc := 639) C dL_law_639 ?_
  refine VL.sld (pc := 640) C (lw_i1 hi5 hL) dL_law_640 ?_
  refine VL.callM (pc := 641) (As := [.int (xs (nI i + (1 : Int32)).toNatClampNeg)]) (rest := [.int r]) C (mX9_rank X.2.1 hGm e2) mf_X9_rank clX9 (sm_0 hGm) wM_L_100 rfl rfl ⟨by decide, by decide⟩ (Nat.le_of_ble_eq_true rfl) dL_law_641 ?_
  show VL Gx Gm X 644 [(0, .ref b), (1, .ref (gA Gx 0)), (2, .ref (gA Gm 0)), (3, .int (nI i))] [.int r, .int r] Mx1 M1
  refine VL.iceqT (pc := 644) C 881 (by decide) dL_law_644 ?_
  exact hk Mx1 M1 hR1
set_option maxHeartbeats 4000000 in
set_option maxRecDepth 100000 in
theorem law_c21 {Gx Gm : Rg} {X : Ct} {b L : Nat} {xs : Nat → Int32} (C : CL Gx Gm X b L xs) (hGx : gS Gx = shX) (hGm : gS Gm = shM) {i : Nat} (hi5 : i + 5 ≤ L) (hL : L ≤ 320) {Rl : Mm → Mm → Prop} (O : Op_weigh Rl) {Mx M_ : Mm} (hR : Rl Mx M_) (hk : ∀ Mx1 M1, Rl Mx1 M1 → VL Gx Gm X 881 [(0, .ref b), (1, .ref (gA Gx 0)), (2, .ref (gA Gm 0)), (3, .int (nI i))] [] Mx1 M1) : VL Gx Gm X 649 [(0, .ref b), (1, .ref (gA Gx 0)), (2, .ref (gA Gm 0)), (3, .int (nI i))] [] Mx M_ := by
  obtain ⟨r, Mx1, M1, e1, e2, hR1⟩ := O (xs (nI i + (1 : Int32)).toNatClampNeg) Mx M_ hR
  refine VL.aload_n (pc := 649) C 1 rfl dL_law_649 ?_
  refine VL.aload_n (pc := 650) C 0 rfl dL_law_650 ?_
  refine VL.iload_n (pc := 651) C 3 rfl dL_law_651 ?_
  refine VL.iconst (pc := 652) C (1 : Int32) (by decide) dL_law_652 ?_
  refine VL.iadd (pc := 653) C dL_law_653 ?_
  refine VL.sld (pc := 654) C (lw_i1 hi5 hL) dL_law_654 ?_
  refine VL.callX (pc := 655) (As := [.int (xs (nI i + (1 : Int32)).toNatClampNeg)]) (rest := []) C (mX8_weigh X.2.1 hGx e1) mf_X8_weigh clX8 (sx_0 hGx) wM_L_101 rfl rfl ⟨by decide, by decide⟩ (Nat.le_of_ble_eq_true rfl) dL_law_655 ?_
  show VL Gx Gm X 658 [(0, .ref b), (1, .ref (gA Gx 0)), (2, .ref (gA Gm 0)), (3, .int (nI i))] [.int r] Mx1 M_
  refine VL.aload_n (pc := 658) C 2 rfl dL_law_658 ?_
  refine VL.aload_n (pc := 659) C 0 rfl dL_law_659 ?_
  refine VL.iload_n (pc := 660) C 3 rfl dL_law_660 ?_
  refine VL.iconst (pc := 661) C (1 : Int32) (by decide) dL_law_661 ?_
  refine VL.iadd (pc := 662) C dL_law_662 ?_
  refine VL.sld (pc := 663) C (lw_i1 hi5 hL) dL_law_663 ?_
  refine VL.callM (pc := 664) (As := [.int (xs (nI i + (1 : Int32)).toNatClampNeg)]) (rest := [.int r]) C (mX9_weigh X.2.1 hGm e2) mf_X9_weigh clX9 (sm_0 hGm) wM_L_104 rfl rfl ⟨by decide, by decide⟩ (Nat.le_of_ble_eq_true rfl) dL_law_664 ?_
  show VL Gx Gm X 667 [(0, .ref b), (1, .ref (gA Gx 0)), (2, .ref (gA Gm 0)), (3, .int (nI i))] [.int r, .int r] Mx1 M1
  refine VL.iceqT (pc := 667) C 881 (by decide) dL_law_667 ?_
  exact hk Mx1 M1 hR1
set_option maxHeartbeats 4000000 in
set_option maxRecDepth 100000 in
theorem law_c22 {Gx Gm : Rg} {X : Ct} {b L : Nat} {xs : Nat → Int32} (C : CL Gx Gm X b L xs) (hGx : gS Gx = shX) (hGm : gS Gm = shM) {i : Nat} (hi5 : i + 5 ≤ L) (hL : L ≤ 320) {Rl : Mm → Mm → Prop} (O : Op_broken Rl) {Mx M_ : Mm} (hR : Rl Mx M_) (hk : ∀ Mx1 M1, Rl Mx1 M1 → VL Gx Gm X 881 [(0, .ref b), (1, .ref (gA Gx 0)), (2, .ref (gA Gm 0)), (3, .int (nI i))] [] Mx1 M1) : VL Gx Gm X 672 [(0, .ref b), (1, .ref (gA Gx 0)), (2, .ref (gA Gm 0)), (3, .int (nI i))] [] Mx M_ := by
  obtain ⟨r, Mx1, M1, e1, e2, hR1⟩ := O (xs (nI i + (1 : Int32)).toNatClampNeg) (xs (nI i + (2 : Int32)).toNatClampNeg) (xs (nI i + (3 : Int32)).toNatClampNeg) Mx M_ hR
  refine VL.aload_n (pc := 672) C 1 rfl dL_law_672 ?_
  refine VL.aload_n (pc := 673) C 0 rfl dL_law_673 ?_
  refine VL.iload_n (pc := 674) C 3 rfl dL_law_674 ?_
  refine VL.iconst (pc := 675) C (1 : Int32) (by decide) dL_law_675 ?_
  refine VL.iadd (pc := 676) C dL_law_676 ?_
  refine VL.sld (pc := 677) C (lw_i1 hi5 hL) dL_law_677 ?_
  refine VL.aload_n (pc := 678) C 0 rfl dL_law_678 ?_
  refine VL.iload_n (pc := 679) C 3 rfl dL_law_679 ?_
  refine VL.iconst (pc := 680) C (2 : Int32) (by decide) dL_law_680 ?_
  refine VL.iadd (pc := 681) C dL_law_681 ?_
  refine VL.sld (pc := 682) C (lw_i2 hi5 hL) dL_law_682 ?_
  refine VL.aload_n (pc := 683) C 0 rfl dL_law_683 ?_
  refine VL.iload_n (pc := 684) C 3 rfl dL_law_684 ?_
  refine VL.iconst (pc := 685) C (3 : Int32) (by decide) dL_law_685 ?_
  refine VL.iadd (pc := 686) C dL_law_686 ?_
  refine VL.sld (pc := 687) C (lw_i3 hi5 hL) dL_law_687 ?_
  refine VL.callX (pc := 688) (As := [.int (xs (nI i + (1 : Int32)).toNatClampNeg), .int (xs (nI i + (2 : Int32)).toNatClampNeg), .int (xs (nI i + (3 : Int32)).toNatClampNeg)]) (rest := []) C (mX8_broken X.2.1 hGx e1) mf_X8_broken clX8 (sx_0 hGx) wM_L_105 rfl rfl ⟨by decide, by decide⟩ (Nat.le_of_ble_eq_true rfl) dL_law_688 ?_
  show VL Gx Gm X 691 [(0, .ref b), (1, .ref (gA Gx 0)), (2, .ref (gA Gm 0)), (3, .int (nI i))] [.long r] Mx1 M_
  refine VL.aload_n (pc := 691) C 2 rfl dL_law_691 ?_
  refine VL.aload_n (pc := 692) C 0 rfl dL_law_692 ?_
  refine VL.iload_n (pc := 693) C 3 rfl dL_law_693 ?_
  refine VL.iconst (pc := 694) C (1 : Int32) (by decide) dL_law_694 ?_
  refine VL.iadd (pc := 695) C dL_law_695 ?_
  refine VL.sld (pc := 696) C (lw_i1 hi5 hL) dL_law_696 ?_
  refine VL.aload_n (pc := 697) C 0 rfl dL_law_697 ?_
  refine VL.iload_n (pc := 698) C 3 rfl dL_law_698 ?_
  refine VL.iconst (pc := 699) C (2 : Int32) (by decide) dL_law_699 ?_
  refine VL.iadd (pc := 700) C dL_law_700 ?_
  refine VL.sld (pc := 701) C (lw_i2 hi5 hL) dL_law_701 ?_
  refine VL.aload_n (pc := 702) C 0 rfl dL_law_702 ?_
  refine VL.iload_n (pc := 703) C 3 rfl dL_law_703 ?_
  refine VL.iconst (pc := 704) C (3 : Int32) (by decide) dL_law_704 ?_
  refine VL.iadd (pc := 705) C dL_law_705 ?_
  refine VL.sld (pc := 706) C (lw_i3 hi5 hL) dL_law_706 ?_
  refine VL.callM (pc := 707) (As := [.int (xs (nI i + (1 : Int32)).toNatClampNeg), .int (xs (nI i + (2 : Int32)).toNatClampNeg), .int (xs (nI i + (3 : Int32)).toNatClampNeg)]) (rest := [.long r]) C (mX9_broken X.2.1 hGm e2) mf_X9_broken clX9 (sm_0 hGm) wM_L_109 rfl rfl ⟨by decide, by decide⟩ (Nat.le_of_ble_eq_true rfl) dL_law_707 ?_
  show VL Gx Gm X 710 [(0, .ref b), (1, .ref (gA Gx 0)), (2, .ref (gA Gm 0)), (3, .int (nI i))] [.long r, .long r] Mx1 M1
  refine VL.lcmp (pc := 710) C dL_law_710 ?_
  refine VL.ifeqT (pc := 711) C 881 (by simp [lg_cmp]) (by decide) dL_law_711 ?_
  exact hk Mx1 M1 hR1
set_option maxHeartbeats 4000000 in
set_option maxRecDepth 100000 in
theorem law_c23 {Gx Gm : Rg} {X : Ct} {b L : Nat} {xs : Nat → Int32} (C : CL Gx Gm X b L xs) (hGx : gS Gx = shX) (hGm : gS Gm = shM) {i : Nat} (hi5 : i + 5 ≤ L) (hL : L ≤ 320) {Rl : Mm → Mm → Prop} (O : Op_rests Rl) {Mx M_ : Mm} (hR : Rl Mx M_) (hk : ∀ Mx1 M1, Rl Mx1 M1 → VL Gx Gm X 881 [(0, .ref b), (1, .ref (gA Gx 0)), (2, .ref (gA Gm 0)), (3, .int (nI i))] [] Mx1 M1) : VL Gx Gm X 716 [(0, .ref b), (1, .ref (gA Gx 0)), (2, .ref (gA Gm 0)), (3, .int (nI i))] [] Mx M_ := by
  obtain ⟨r, Mx1, M1, e1, e2, hR1⟩ := O (xs (nI i + (1 : Int32)).toNatClampNeg) (xs (nI i + (2 : Int32)).toNatClampNeg) (xs (nI i + (3 : Int32)).toNatClampNeg) (xs (nI i + (4 : Int32)).toNatClampNeg) Mx M_ hR
  refine VL.aload_n (pc := 716) C 1 rfl dL_law_716 ?_
  refine VL.aload_n (pc := 717) C 0 rfl dL_law_717 ?_
  refine VL.iload_n (pc := 718) C 3 rfl dL_law_718 ?_
  refine VL.iconst (pc := 719) C (1 : Int32) (by decide) dL_law_719 ?_
  refine VL.iadd (pc := 720) C dL_law_720 ?_
  refine VL.sld (pc := 721) C (lw_i1 hi5 hL) dL_law_721 ?_
  refine VL.aload_n (pc := 722) C 0 rfl dL_law_722 ?_
  refine VL.iload_n (pc := 723) C 3 rfl dL_law_723 ?_
  refine VL.iconst (pc := 724) C (2 : Int32) (by decide) dL_law_724 ?_
  refine VL.iadd (pc := 725) C dL_law_725 ?_
  refine VL.sld (pc := 726) C (lw_i2 hi5 hL) dL_law_726 ?_
  refine VL.aload_n (pc := 727) C 0 rfl dL_law_727 ?_
  refine VL.iload_n (pc := 728) C 3 rfl dL_law_728 ?_
  refine VL.iconst (pc := 729) C (3 : Int32) (by decide) dL_law_729 ?_
  refine VL.iadd (pc := 730) C dL_law_730 ?_
  refine VL.sld (pc := 731) C (lw_i3 hi5 hL) dL_law_731 ?_
  refine VL.aload_n (pc := 732) C 0 rfl dL_law_732 ?_
  refine VL.iload_n (pc := 733) C 3 rfl dL_law_733 ?_
  refine VL.iconst (pc := 734) C (4 : Int32) (by decide) dL_law_734 ?_
  refine VL.iadd (pc := 735) C dL_law_735 ?_
  refine VL.sld (pc := 736) C (lw_i4 hi5 hL) dL_law_736 ?_
  refine VL.callX (pc := 737) (As := [.int (xs (nI i + (1 : Int32)).toNatClampNeg), .int (xs (nI i + (2 : Int32)).toNatClampNeg), .int (xs (nI i + (3 : Int32)).toNatClampNeg), .int (xs (nI i + (4 : Int32)).toNatClampNeg)]) (rest := []) C (mX8_rests X.2.1 hGx e1) mf_X8_rests clX8 (sx_0 hGx) wM_L_110 rfl rfl ⟨by decide, by decide⟩ (Nat.le_of_ble_eq_true rfl) dL_law_737 ?_
  show VL Gx Gm X 740 [(0, .ref b), (1, .ref (gA Gx 0)), (2, .ref (gA Gm 0)), (3, .int (nI i))] [.int r] Mx1 M_
  refine VL.aload_n (pc := 740) C 2 rfl dL_law_740 ?_
  refine VL.aload_n (pc := 741) C 0 rfl dL_law_741 ?_
  refine VL.iload_n (pc := 742) C 3 rfl dL_law_742 ?_
  refine VL.iconst (pc := 743) C (1 : Int32) (by decide) dL_law_743 ?_
  refine VL.iadd (pc := 744) C dL_law_744 ?_
  refine VL.sld (pc := 745) C (lw_i1 hi5 hL) dL_law_745 ?_
  refine VL.aload_n (pc := 746) C 0 rfl dL_law_746 ?_
  refine VL.iload_n (pc := 747) C 3 rfl dL_law_747 ?_
  refine VL.iconst (pc := 748) C (2 : Int32) (by decide) dL_law_748 ?_
  refine VL.iadd (pc := 749) C dL_law_749 ?_
  refine VL.sld (pc := 750) C (lw_i2 hi5 hL) dL_law_750 ?_
  refine VL.aload_n (pc := 751) C 0 rfl dL_law_751 ?_
  refine VL.iload_n (pc := 752) C 3 rfl dL_law_752 ?_
  refine VL.iconst (pc := 753) C (3 : Int32) (by decide) dL_law_753 ?_
  refine VL.iadd (pc := 754) C dL_law_754 ?_
  refine VL.sld (pc := 755) C (lw_i3 hi5 hL) dL_law_755 ?_
  refine VL.aload_n (pc := 756) C 0 rfl dL_law_756 ?_
  refine VL.iload_n (pc := 757) C 3 rfl dL_law_757 ?_
  refine VL.iconst (pc := 758) C (4 : Int32) (by decide) dL_law_758 ?_
  refine VL.iadd (pc := 759) C dL_law_759 ?_
  refine VL.sld (pc := 760) C (lw_i4 hi5 hL) dL_law_760 ?_
  refine VL.callM (pc := 761) (As := [.int (xs (nI i + (1 : Int32)).toNatClampNeg), .int (xs (nI i + (2 : Int32)).toNatClampNeg), .int (xs (nI i + (3 : Int32)).toNatClampNeg), .int (xs (nI i + (4 : Int32)).toNatClampNeg)]) (rest := [.int r]) C (mX9_rests X.2.1 hGm e2) mf_X9_rests clX9 (sm_0 hGm) wM_L_114 rfl rfl ⟨by decide, by decide⟩ (Nat.le_of_ble_eq_true rfl) dL_law_761 ?_
  show VL Gx Gm X 764 [(0, .ref b), (1, .ref (gA Gx 0)), (2, .ref (gA Gm 0)), (3, .int (nI i))] [.int r, .int r] Mx1 M1
  refine VL.iceqT (pc := 764) C 881 (by decide) dL_law_764 ?_
  exact hk Mx1 M1 hR1
set_option maxHeartbeats 4000000 in
set_option maxRecDepth 100000 in
theorem law_c24 {Gx Gm : Rg} {X : Ct} {b L : Nat} {xs : Nat → Int32} (C : CL Gx Gm X b L xs) (hGx : gS Gx = shX) (hGm : gS Gm = shM) {i : Nat} (hi5 : i + 5 ≤ L) (hL : L ≤ 320) {Rl : Mm → Mm → Prop} (O : Op_year Rl) {Mx M_ : Mm} (hR : Rl Mx M_) (hk : ∀ Mx1 M1, Rl Mx1 M1 → VL Gx Gm X 881 [(0, .ref b), (1, .ref (gA Gx 0)), (2, .ref (gA Gm 0)), (3, .int (nI i))] [] Mx1 M1) : VL Gx Gm X 769 [(0, .ref b), (1, .ref (gA Gx 0)), (2, .ref (gA Gm 0)), (3, .int (nI i))] [] Mx M_ := by
  obtain ⟨r, Mx1, M1, e1, e2, hR1⟩ := O (xs (nI i + (1 : Int32)).toNatClampNeg) (xs (nI i + (2 : Int32)).toNatClampNeg) (xs (nI i + (3 : Int32)).toNatClampNeg) Mx M_ hR
  refine VL.aload_n (pc := 769) C 1 rfl dL_law_769 ?_
  refine VL.aload_n (pc := 770) C 0 rfl dL_law_770 ?_
  refine VL.iload_n (pc := 771) C 3 rfl dL_law_771 ?_
  refine VL.iconst (pc := 772) C (1 : Int32) (by decide) dL_law_772 ?_
  refine VL.iadd (pc := 773) C dL_law_773 ?_
  refine VL.sld (pc := 774) C (lw_i1 hi5 hL) dL_law_774 ?_
  refine VL.aload_n (pc := 775) C 0 rfl dL_law_775 ?_
  refine VL.iload_n (pc := 776) C 3 rfl dL_law_776 ?_
  refine VL.iconst (pc := 777) C (2 : Int32) (by decide) dL_law_777 ?_
  refine VL.iadd (pc := 778) C dL_law_778 ?_
  refine VL.sld (pc := 779) C (lw_i2 hi5 hL) dL_law_779 ?_
  refine VL.aload_n (pc := 780) C 0 rfl dL_law_780 ?_
  refine VL.iload_n (pc := 781) C 3 rfl dL_law_781 ?_
  refine VL.iconst (pc := 782) C (3 : Int32) (by decide) dL_law_782 ?_
  refine VL.iadd (pc := 783) C dL_law_783 ?_
  refine VL.sld (pc := 784) C (lw_i3 hi5 hL) dL_law_784 ?_
  refine VL.callX (pc := 785) (As := [.int (xs (nI i + (1 : Int32)).toNatClampNeg), .int (xs (nI i + (2 : Int32)).toNatClampNeg), .int (xs (nI i + (3 : Int32)).toNatClampNeg)]) (rest := []) C (mX8_year X.2.1 hGx e1) mf_X8_year clX8 (sx_0 hGx) wM_L_115 rfl rfl ⟨by decide, by decide⟩ (Nat.le_of_ble_eq_true rfl) dL_law_785 ?_
  show VL Gx Gm X 788 [(0, .ref b), (1, .ref (gA Gx 0)), (2, .ref (gA Gm 0)), (3, .int (nI i))] [.int r] Mx1 M_
  refine VL.aload_n (pc := 788) C 2 rfl dL_law_788 ?_
  refine VL.aload_n (pc := 789) C 0 rfl dL_law_789 ?_
  refine VL.iload_n (pc := 790) C 3 rfl dL_law_790 ?_
  refine VL.iconst (pc := 791) C (1 : Int32) (by decide) dL_law_791 ?_
  refine VL.iadd (pc := 792) C dL_law_792 ?_
  refine VL.sld (pc := 793) C (lw_i1 hi5 hL) dL_law_793 ?_
  refine VL.aload_n (pc := 794) C 0 rfl dL_law_794 ?_
  refine VL.iload_n (pc := 795) C 3 rfl dL_law_795 ?_
  refine VL.iconst (pc := 796) C (2 : Int32) (by decide) dL_law_796 ?_
  refine VL.iadd (pc := 797) C dL_law_797 ?_
  refine VL.sld (pc := 798) C (lw_i2 hi5 hL) dL_law_798 ?_
  refine VL.aload_n (pc := 799) C 0 rfl dL_law_799 ?_
  refine VL.iload_n (pc := 800) C 3 rfl dL_law_800 ?_
  refine VL.iconst (pc := 801) C (3 : Int32) (by decide) dL_law_801 ?_
  refine VL.iadd (pc := 802) C dL_law_802 ?_
  refine VL.sld (pc := 803) C (lw_i3 hi5 hL) dL_law_803 ?_
  refine VL.callM (pc := 804) (As := [.int (xs (nI i + (1 : Int32)).toNatClampNeg), .int (xs (nI i + (2 : Int32)).toNatClampNeg), .int (xs (nI i + (3 : Int32)).toNatClampNeg)]) (rest := [.int r]) C (mX9_year X.2.1 hGm e2) mf_X9_year clX9 (sm_0 hGm) wM_L_119 rfl rfl ⟨by decide, by decide⟩ (Nat.le_of_ble_eq_true rfl) dL_law_804 ?_
  show VL Gx Gm X 807 [(0, .ref b), (1, .ref (gA Gx 0)), (2, .ref (gA Gm 0)), (3, .int (nI i))] [.int r, .int r] Mx1 M1
  refine VL.iceqT (pc := 807) C 881 (by decide) dL_law_807 ?_
  exact hk Mx1 M1 hR1
set_option maxHeartbeats 4000000 in
set_option maxRecDepth 100000 in
theorem law_c25 {Gx Gm : Rg} {X : Ct} {b L : Nat} {xs : Nat → Int32} (C : CL Gx Gm X b L xs) (hGx : gS Gx = shX) (hGm : gS Gm = shM) {i : Nat} (hi5 : i + 5 ≤ L) (hL : L ≤ 320) {Rl : Mm → Mm → Prop} (O : Op_image Rl) {Mx M_ : Mm} (hR : Rl Mx M_) (hk : ∀ Mx1 M1, Rl Mx1 M1 → VL Gx Gm X 881 [(0, .ref b), (1, .ref (gA Gx 0)), (2, .ref (gA Gm 0)), (3, .int (nI i))] [] Mx1 M1) : VL Gx Gm X 812 [(0, .ref b), (1, .ref (gA Gx 0)), (2, .ref (gA Gm 0)), (3, .int (nI i))] [] Mx M_ := by
  obtain ⟨r, Mx1, M1, e1, e2, hR1⟩ := O (xs (nI i + (1 : Int32)).toNatClampNeg) Mx M_ hR
  refine VL.aload_n (pc := 812) C 1 rfl dL_law_812 ?_
  refine VL.aload_n (pc := 813) C 0 rfl dL_law_813 ?_
  refine VL.iload_n (pc := 814) C 3 rfl dL_law_814 ?_
  refine VL.iconst (pc := 815) C (1 : Int32) (by decide) dL_law_815 ?_
  refine VL.iadd (pc := 816) C dL_law_816 ?_
  refine VL.sld (pc := 817) C (lw_i1 hi5 hL) dL_law_817 ?_
  refine VL.callX (pc := 818) (As := [.int (xs (nI i + (1 : Int32)).toNatClampNeg)]) (rest := []) C (mX8_image X.2.1 hGx e1) mf_X8_image clX8 (sx_0 hGx) wM_L_120 rfl rfl ⟨by decide, by decide⟩ (Nat.le_of_ble_eq_true rfl) dL_law_818 ?_
  show VL Gx Gm X 821 [(0, .ref b), (1, .ref (gA Gx 0)), (2, .ref (gA Gm 0)), (3, .int (nI i))] [.int r] Mx1 M_
  refine VL.aload_n (pc := 821) C 2 rfl dL_law_821 ?_
  refine VL.aload_n (pc := 822) C 0 rfl dL_law_822 ?_
  refine VL.iload_n (pc := 823) C 3 rfl dL_law_823 ?_
  refine VL.iconst (pc := 824) C (1 : Int32) (by decide) dL_law_824 ?_
  refine VL.iadd (pc := 825) C dL_law_825 ?_
  refine VL.sld (pc := 826) C (lw_i1 hi5 hL) dL_law_826 ?_
  refine VL.callM (pc := 827) (As := [.int (xs (nI i + (1 : Int32)).toNatClampNeg)]) (rest := [.int r]) C (mX9_image X.2.1 hGm e2) mf_X9_image clX9 (sm_0 hGm) wM_L_123 rfl rfl ⟨by decide, by decide⟩ (Nat.le_of_ble_eq_true rfl) dL_law_827 ?_
  show VL Gx Gm X 830 [(0, .ref b), (1, .ref (gA Gx 0)), (2, .ref (gA Gm 0)), (3, .int (nI i))] [.int r, .int r] Mx1 M1
  refine VL.iceqT (pc := 830) C 881 (by decide) dL_law_830 ?_
  exact hk Mx1 M1 hR1
set_option maxHeartbeats 4000000 in
set_option maxRecDepth 100000 in
theorem law_c26 {Gx Gm : Rg} {X : Ct} {b L : Nat} {xs : Nat → Int32} (C : CL Gx Gm X b L xs) (hGx : gS Gx = shX) (hGm : gS Gm = shM) {i : Nat} (hi5 : i + 5 ≤ L) (hL : L ≤ 320) {Rl : Mm → Mm → Prop} (O : Op_restore Rl) {Mx M_ : Mm} (hR : Rl Mx M_) (hk : ∀ Mx1 M1, Rl Mx1 M1 → VL Gx Gm X 881 [(0, .ref b), (1, .ref (gA Gx 0)), (2, .ref (gA Gm 0)), (3, .int (nI i))] [] Mx1 M1) : VL Gx Gm X 835 [(0, .ref b), (1, .ref (gA Gx 0)), (2, .ref (gA Gm 0)), (3, .int (nI i))] [] Mx M_ := by
  obtain ⟨r, Mx1, M1, e1, e2, hR1⟩ := O (xs (nI i + (1 : Int32)).toNatClampNeg) Mx M_ hR
  refine VL.aload_n (pc := 835) C 1 rfl dL_law_835 ?_
  refine VL.aload_n (pc := 836) C 0 rfl dL_law_836 ?_
  refine VL.iload_n (pc := 837) C 3 rfl dL_law_837 ?_
  refine VL.iconst (pc := 838) C (1 : Int32) (by decide) dL_law_838 ?_
  refine VL.iadd (pc := 839) C dL_law_839 ?_
  refine VL.sld (pc := 840) C (lw_i1 hi5 hL) dL_law_840 ?_
  refine VL.callX (pc := 841) (As := [.int (xs (nI i + (1 : Int32)).toNatClampNeg)]) (rest := []) C (mX8_restore X.2.1 hGx e1) mf_X8_restore clX8 (sx_0 hGx) wM_L_124 rfl rfl ⟨by decide, by decide⟩ (Nat.le_of_ble_eq_true rfl) dL_law_841 ?_
  show VL Gx Gm X 844 [(0, .ref b), (1, .ref (gA Gx 0)), (2, .ref (gA Gm 0)), (3, .int (nI i))] [.int r] Mx1 M_
  refine VL.aload_n (pc := 844) C 2 rfl dL_law_844 ?_
  refine VL.aload_n (pc := 845) C 0 rfl dL_law_845 ?_
  refine VL.iload_n (pc := 846) C 3 rfl dL_law_846 ?_
  refine VL.iconst (pc := 847) C (1 : Int32) (by decide) dL_law_847 ?_
  refine VL.iadd (pc := 848) C dL_law_848 ?_
  refine VL.sld (pc := 849) C (lw_i1 hi5 hL) dL_law_849 ?_
  refine VL.callM (pc := 850) (As := [.int (xs (nI i + (1 : Int32)).toNatClampNeg)]) (rest := [.int r]) C (mX9_restore X.2.1 hGm e2) mf_X9_restore clX9 (sm_0 hGm) wM_L_127 rfl rfl ⟨by decide, by decide⟩ (Nat.le_of_ble_eq_true rfl) dL_law_850 ?_
  show VL Gx Gm X 853 [(0, .ref b), (1, .ref (gA Gx 0)), (2, .ref (gA Gm 0)), (3, .int (nI i))] [.int r, .int r] Mx1 M1
  refine VL.iceqT (pc := 853) C 881 (by decide) dL_law_853 ?_
  exact hk Mx1 M1 hR1
set_option maxHeartbeats 4000000 in
set_option maxRecDepth 100000 in
theorem law_c27 {Gx Gm : Rg} {X : Ct} {b L : Nat} {xs : Nat → Int32} (C : CL Gx Gm X b L xs) (hGx : gS Gx = shX) (hGm : gS Gm = shM) {i : Nat} (hi5 : i + 5 ≤ L) (hL : L ≤ 320) {Rl : Mm → Mm → Prop} (O : Op_told Rl) {Mx M_ : Mm} (hR : Rl Mx M_) (hk : ∀ Mx1 M1, Rl Mx1 M1 → VL Gx Gm X 881 [(0, .ref b), (1, .ref (gA Gx 0)), (2, .ref (gA Gm 0)), (3, .int (nI i))] [] Mx1 M1) : VL Gx Gm X 858 [(0, .ref b), (1, .ref (gA Gx 0)), (2, .ref (gA Gm 0)), (3, .int (nI i))] [] Mx M_ := by
  obtain ⟨r, Mx1, M1, e1, e2, hR1⟩ := O (xs (nI i + (1 : Int32)).toNatClampNeg) Mx M_ hR
  refine VL.aload_n (pc := 858) C 1 rfl dL_law_858 ?_
  refine VL.aload_n (pc := 859) C 0 rfl dL_law_859 ?_
  refine VL.iload_n (pc := 860) C 3 rfl dL_law_860 ?_
  refine VL.iconst (pc := 861) C (1 : Int32) (by decide) dL_law_861 ?_
  refine VL.iadd (pc := 862) C dL_law_862 ?_
  refine VL.sld (pc := 863) C (lw_i1 hi5 hL) dL_law_863 ?_
  refine VL.callX (pc := 864) (As := [.int (xs (nI i + (1 : Int32)).toNatClampNeg)]) (rest := []) C (mX8_told X.2.1 hGx e1) mf_X8_told clX8 (sx_0 hGx) wM_L_128 rfl rfl ⟨by decide, by decide⟩ (Nat.le_of_ble_eq_true rfl) dL_law_864 ?_
  show VL Gx Gm X 867 [(0, .ref b), (1, .ref (gA Gx 0)), (2, .ref (gA Gm 0)), (3, .int (nI i))] [.int r] Mx1 M_
  refine VL.aload_n (pc := 867) C 2 rfl dL_law_867 ?_
  refine VL.aload_n (pc := 868) C 0 rfl dL_law_868 ?_
  refine VL.iload_n (pc := 869) C 3 rfl dL_law_869 ?_
  refine VL.iconst (pc := 870) C (1 : Int32) (by decide) dL_law_870 ?_
  refine VL.iadd (pc := 871) C dL_law_871 ?_
  refine VL.sld (pc := 872) C (lw_i1 hi5 hL) dL_law_872 ?_
  refine VL.callM (pc := 873) (As := [.int (xs (nI i + (1 : Int32)).toNatClampNeg)]) (rest := [.int r]) C (mX9_told X.2.1 hGm e2) mf_X9_told clX9 (sm_0 hGm) wM_L_131 rfl rfl ⟨by decide, by decide⟩ (Nat.le_of_ble_eq_true rfl) dL_law_873 ?_
  show VL Gx Gm X 876 [(0, .ref b), (1, .ref (gA Gx 0)), (2, .ref (gA Gm 0)), (3, .int (nI i))] [.int r, .int r] Mx1 M1
  refine VL.iceqT (pc := 876) C 881 (by decide) dL_law_876 ?_
  exact hk Mx1 M1 hR1
theorem lw_cmp {i L : Nat} (hi : i ≤ L) (hL : L ≤ 320) (h : ¬ (Int32.ofNat L - (5 : Int32)) < nI i) : i + 5 ≤ L := by
  have e1 : (Int32.ofNat L - (5 : Int32)).toInt = (L : Int) - 5 := pk_sub_toInt (a := L) (b := 5) (by omega) (by decide)
  have e2 : (nI i).toInt = (i : Int) := nI_toInt (by omega)
  rw [Int32.lt_iff_toInt_lt, e1, e2] at h
  omega
set_option maxHeartbeats 4000000 in
set_option maxRecDepth 100000 in
theorem law_loop {Gx Gm : Rg} {X : Ct} {b L : Nat} {xs : Nat → Int32} (C : CL Gx Gm X b L xs) (hGx : gS Gx = shX) (hGm : gS Gm = shM) (hL : L ≤ 320) {Rl : Mm → Mm → Prop} (S : Sim Rl) : ∀ (n i : Nat) (Mx M_ : Mm), i ≤ L → L + 1 ≤ i + n → Rl Mx M_ → VL Gx Gm X 18 [(0, .ref b), (1, .ref (gA Gx 0)), (2, .ref (gA Gm 0)), (3, .int (nI i))] [] Mx M_ := by
  intro n
  induction n with
  | zero => intro i Mx M_ h1 h2; exact absurd h2 (by omega)
  | succ n ih =>
    intro i Mx M_ hi hin hR
    refine VL.iload_n (pc := 18) C 3 rfl dL_law_18 ?_
    refine VL.aload_n (pc := 19) C 0 rfl dL_law_19 ?_
    refine VL.slen (pc := 20) C dL_law_20 ?_
    refine VL.iconst (pc := 21) C (5 : Int32) (by decide) dL_law_21 ?_
    refine VL.isub (pc := 22) C dL_law_22 ?_
    refine VL.icgt (pc := 23) C 887 (by decide) dL_law_23 (fun h => ?_) (fun h => ?_)
    · refine VL.iconst (pc := 887) C (1 : Int32) (by decide) dL_law_887 ?_
      exact VL.end1 (pc := 888) C dL_law_888
    · have hi5 := lw_cmp hi hL h
      have hk : ∀ Mx1 M1, Rl Mx1 M1 → VL Gx Gm X 881 [(0, .ref b), (1, .ref (gA Gx 0)), (2, .ref (gA Gm 0)), (3, .int (nI i))] [] Mx1 M1 := by
        intro Mx1 M1 hR1
        refine VL.iinc (pc := 881) (n := 5) (lv' := [(3, .int (nI (i + 5))), (0, .ref b), (1, .ref (gA Gx 0)), (2, .ref (gA Gm 0))]) C (nI (i + 5)) 3 rfl (nI_add i 5) (by decide) rfl dL_law_881 ?_
        refine VL.goto (pc := 884) C 18 (by decide) dL_law_884 ?_
        refine VL.sub C [1, 2, 3, 0] rfl (ih (i + 5) Mx1 M1 (by omega) (by omega) hR1)
      refine VL.aload_n (pc := 26) C 0 rfl dL_law_26 ?_
      refine VL.iload_n (pc := 27) C 3 rfl dL_law_27 ?_
      refine VL.sld (pc := 28) C (lw_i0 hi5 hL) dL_law_28 ?_
      refine VL.bipush (pc := 29) C (31 : Int32) (by decide) dL_law_29 ?_
      refine VL.iand (pc := 31) C dL_law_31 ?_
      obtain ⟨j, hj, ej⟩ := pk_andE (xs (nI i).toNatClampNeg) (m := (31 : Int32)) 5 (by decide)
      rw [ej]
      match j, hj with
      | 0, _ => exact VL.tabIn (pc := 32) (off := 128) C 160 (by decide) (by decide) (by decide) (by decide) dL_law_32 (law_c0 C hGx hGm hi5 hL S.1 hR hk)
      | 1, _ => exact VL.tabIn (pc := 32) (off := 161) C 193 (by decide) (by decide) (by decide) (by decide) dL_law_32 (law_c1 C hGx hGm hi5 hL S.2.1 hR hk)
      | 2, _ => exact VL.tabIn (pc := 32) (off := 184) C 216 (by decide) (by decide) (by decide) (by decide) dL_law_32 (law_c2 C hGx hGm hi5 hL S.2.2.1 hR hk)
      | 3, _ => exact VL.tabIn (pc := 32) (off := 217) C 249 (by decide) (by decide) (by decide) (by decide) dL_law_32 (law_c3 C hGx hGm hi5 hL S.2.2.2.1 hR hk)
      | 4, _ => exact VL.tabIn (pc := 32) (off := 240) C 272 (by decide) (by decide) (by decide) (by decide) dL_law_32 (law_c4 C hGx hGm hi5 hL S.2.2.2.2.1 hR hk)
      | 5, _ => exact VL.tabIn (pc := 32) (off := 263) C 295 (by decide) (by decide) (by decide) (by decide) dL_law_32 (law_c5 C hGx hGm hi5 hL S.2.2.2.2.2.1 hR hk)
      | 6, _ => exact VL.tabIn (pc := 32) (off := 276) C 308 (by decide) (by decide) (by decide) (by decide) dL_law_32 (law_c6 C hGx hGm hi5 hL S.2.2.2.2.2.2.1 hR hk)
      | 7, _ => exact VL.tabIn (pc := 32) (off := 289) C 321 (by decide) (by decide) (by decide) (by decide) dL_law_32 (law_c7 C hGx hGm hi5 hL S.2.2.2.2.2.2.2.1 hR hk)
      | 8, _ => exact VL.tabIn (pc := 32) (off := 312) C 344 (by decide) (by decide) (by decide) (by decide) dL_law_32 (law_c8 C hGx hGm hi5 hL S.2.2.2.2.2.2.2.2.1 hR hk)
      | 9, _ => exact VL.tabIn (pc := 32) (off := 345) C 377 (by decide) (by decide) (by decide) (by decide) dL_law_32 (law_c9 C hGx hGm hi5 hL S.2.2.2.2.2.2.2.2.2.1 hR hk)
      | 10, _ => exact VL.tabIn (pc := 32) (off := 368) C 400 (by decide) (by decide) (by decide) (by decide) dL_law_32 (law_c10 C hGx hGm hi5 hL S.2.2.2.2.2.2.2.2.2.2.1 hR hk)
      | 11, _ => exact VL.tabIn (pc := 32) (off := 381) C 413 (by decide) (by decide) (by decide) (by decide) dL_law_32 (law_c11 C hGx hGm hi5 hL S.2.2.2.2.2.2.2.2.2.2.2.1 hR hk)
      | 12, _ => exact VL.tabIn (pc := 32) (off := 394) C 426 (by decide) (by decide) (by decide) (by decide) dL_law_32 (law_c12 C hGx hGm hi5 hL S.2.2.2.2.2.2.2.2.2.2.2.2.1 hR hk)
      | 13, _ => exact VL.tabIn (pc := 32) (off := 417) C 449 (by decide) (by decide) (by decide) (by decide) dL_law_32 (law_c13 C hGx hGm hi5 hL S.2.2.2.2.2.2.2.2.2.2.2.2.2.1 hR hk)
      | 14, _ => exact VL.tabIn (pc := 32) (off := 450) C 482 (by decide) (by decide) (by decide) (by decide) dL_law_32 (law_c14 C hGx hGm hi5 hL S.2.2.2.2.2.2.2.2.2.2.2.2.2.2.1 hR hk)
      | 15, _ => exact VL.tabIn (pc := 32) (off := 463) C 495 (by decide) (by decide) (by decide) (by decide) dL_law_32 (law_c15 C hGx hGm hi5 hL S.2.2.2.2.2.2.2.2.2.2.2.2.2.2.2.1 hR hk)
      | 16, _ => exact VL.tabIn (pc := 32) (off := 476) C 508 (by decide) (by decide) (by decide) (by decide) dL_law_32 (law_c16 C hGx hGm hi5 hL S.2.2.2.2.2.2.2.2.2.2.2.2.2.2.2.2.1 hR hk)
      | 17, _ => exact VL.tabIn (pc := 32) (off := 499) C 531 (by decide) (by decide) (by decide) (by decide) dL_law_32 (law_c17 C hGx hGm hi5 hL S.2.2.2.2.2.2.2.2.2.2.2.2.2.2.2.2.2.1 hR hk)
      | 18, _ => exact VL.tabIn (pc := 32) (off := 558) C 590 (by decide) (by decide) (by decide) (by decide) dL_law_32 (law_c18 C hGx hGm hi5 hL S.2.2.2.2.2.2.2.2.2.2.2.2.2.2.2.2.2.2.1 hR hk)
      | 19, _ => exact VL.tabIn (pc := 32) (off := 571) C 603 (by decide) (by decide) (by decide) (by decide) dL_law_32 (law_c19 C hGx hGm hi5 hL S.2.2.2.2.2.2.2.2.2.2.2.2.2.2.2.2.2.2.2.1 hR hk)
      | 20, _ => exact VL.tabIn (pc := 32) (off := 594) C 626 (by decide) (by decide) (by decide) (by decide) dL_law_32 (law_c20 C hGx hGm hi5 hL S.2.2.2.2.2.2.2.2.2.2.2.2.2.2.2.2.2.2.2.2.1 hR hk)
      | 21, _ => exact VL.tabIn (pc := 32) (off := 617) C 649 (by decide) (by decide) (by decide) (by decide) dL_law_32 (law_c21 C hGx hGm hi5 hL S.2.2.2.2.2.2.2.2.2.2.2.2.2.2.2.2.2.2.2.2.2.1 hR hk)
      | 22, _ => exact VL.tabIn (pc := 32) (off := 640) C 672 (by decide) (by decide) (by decide) (by decide) dL_law_32 (law_c22 C hGx hGm hi5 hL S.2.2.2.2.2.2.2.2.2.2.2.2.2.2.2.2.2.2.2.2.2.2.1 hR hk)
      | 23, _ => exact VL.tabIn (pc := 32) (off := 684) C 716 (by decide) (by decide) (by decide) (by decide) dL_law_32 (law_c23 C hGx hGm hi5 hL S.2.2.2.2.2.2.2.2.2.2.2.2.2.2.2.2.2.2.2.2.2.2.2.1 hR hk)
      | 24, _ => exact VL.tabIn (pc := 32) (off := 737) C 769 (by decide) (by decide) (by decide) (by decide) dL_law_32 (law_c24 C hGx hGm hi5 hL S.2.2.2.2.2.2.2.2.2.2.2.2.2.2.2.2.2.2.2.2.2.2.2.2.1 hR hk)
      | 25, _ => exact VL.tabIn (pc := 32) (off := 780) C 812 (by decide) (by decide) (by decide) (by decide) dL_law_32 (law_c25 C hGx hGm hi5 hL S.2.2.2.2.2.2.2.2.2.2.2.2.2.2.2.2.2.2.2.2.2.2.2.2.2.1 hR hk)
      | 26, _ => exact VL.tabIn (pc := 32) (off := 803) C 835 (by decide) (by decide) (by decide) (by decide) dL_law_32 (law_c26 C hGx hGm hi5 hL S.2.2.2.2.2.2.2.2.2.2.2.2.2.2.2.2.2.2.2.2.2.2.2.2.2.2.1 hR hk)
      | 27, _ => exact VL.tabIn (pc := 32) (off := 826) C 858 (by decide) (by decide) (by decide) (by decide) dL_law_32 (law_c27 C hGx hGm hi5 hL S.2.2.2.2.2.2.2.2.2.2.2.2.2.2.2.2.2.2.2.2.2.2.2.2.2.2.2 hR hk)
      | 28, _ => exact VL.tabOut (pc := 32) C 881 (by decide) (by decide) dL_law_32 (hk Mx M_ hR)
      | 29, _ => exact VL.tabOut (pc := 32) C 881 (by decide) (by decide) dL_law_32 (hk Mx M_ hR)
      | 30, _ => exact VL.tabOut (pc := 32) C 881 (by decide) (by decide) dL_law_32 (hk Mx M_ hR)
      | 31, _ => exact VL.tabOut (pc := 32) C 881 (by decide) (by decide) dL_law_32 (hk Mx M_ hR)
      | k + 32, h => exact absurd h (by omega)
