theorem dX8_told_0 : decode cX8_told 0 = .ok (.iload_n 1, 1) := by decide +kernel
theorem dX8_told_1 : decode cX8_told 1 = .ok (.iconst 0, 1) := by decide +kernel
theorem dX8_told_2 : decode cX8_told 2 = .ok (.iconst 3, 1) := by decide +kernel
theorem dX8_told_3 : decode cX8_told 3 = .ok (.invokestatic 73, 3) := by decide +kernel
theorem dX8_told_6 : decode cX8_told 6 = .ok (.ifCond .eq 9, 3) := by decide +kernel
theorem dX8_told_9 : decode cX8_told 9 = .ok (.aload_n 0, 1) := by decide +kernel
theorem dX8_told_10 : decode cX8_told 10 = .ok (.iload_n 1, 1) := by decide +kernel
theorem dX8_told_11 : decode cX8_told 11 = .ok (.invokevirtual 251, 3) := by decide +kernel
theorem dX8_told_14 : decode cX8_told 14 = .ok (.ireturn, 1) := by decide +kernel
theorem dX8_told_15 : decode cX8_told 15 = .ok (.iload_n 1, 1) := by decide +kernel
theorem dX8_told_16 : decode cX8_told 16 = .ok (.bipush 10, 2) := by decide +kernel
theorem dX8_told_18 : decode cX8_told 18 = .ok (.bipush 15, 2) := by decide +kernel
theorem dX8_told_20 : decode cX8_told 20 = .ok (.invokestatic 73, 3) := by decide +kernel
theorem dX8_told_23 : decode cX8_told 23 = .ok (.ifCond .eq 16, 3) := by decide +kernel
theorem dX8_told_26 : decode cX8_told 26 = .ok (.aload_n 0, 1) := by decide +kernel
theorem dX8_told_27 : decode cX8_told 27 = .ok (.getfield 12, 3) := by decide +kernel
theorem dX8_told_30 : decode cX8_told 30 = .ok (.getfield 95, 3) := by decide +kernel
theorem dX8_told_33 : decode cX8_told 33 = .ok (.iload_n 1, 1) := by decide +kernel
theorem dX8_told_34 : decode cX8_told 34 = .ok (.bipush 10, 2) := by decide +kernel
theorem dX8_told_36 : decode cX8_told 36 = .ok (.isub, 1) := by decide +kernel
theorem dX8_told_37 : decode cX8_told 37 = .ok (.iaload, 1) := by decide +kernel
theorem dX8_told_38 : decode cX8_told 38 = .ok (.ireturn, 1) := by decide +kernel
theorem dX8_told_39 : decode cX8_told 39 = .ok (.iload_n 1, 1) := by decide +kernel
theorem dX8_told_40 : decode cX8_told 40 = .ok (.bipush 20, 2) := by decide +kernel
theorem dX8_told_42 : decode cX8_told 42 = .ok (.bipush 31, 2) := by decide +kernel
theorem dX8_told_44 : decode cX8_told 44 = .ok (.invokestatic 73, 3) := by decide +kernel
theorem dX8_told_47 : decode cX8_told 47 = .ok (.ifCond .eq 30, 3) := by decide +kernel
theorem dX8_told_50 : decode cX8_told 50 = .ok (.aload_n 0, 1) := by decide +kernel
theorem dX8_told_51 : decode cX8_told 51 = .ok (.getfield 12, 3) := by decide +kernel
theorem dX8_told_54 : decode cX8_told 54 = .ok (.iload_n 1, 1) := by decide +kernel
theorem dX8_told_55 : decode cX8_told 55 = .ok (.bipush 20, 2) := by decide +kernel
theorem dX8_told_57 : decode cX8_told 57 = .ok (.isub, 1) := by decide +kernel
theorem dX8_told_58 : decode cX8_told 58 = .ok (.invokevirtual 91, 3) := by decide +kernel
theorem dX8_told_61 : decode cX8_told 61 = .ok (.ifCond .eq 16, 3) := by decide +kernel
theorem dX8_told_64 : decode cX8_told 64 = .ok (.aload_n 0, 1) := by decide +kernel
theorem dX8_told_65 : decode cX8_told 65 = .ok (.getfield 12, 3) := by decide +kernel
theorem dX8_told_68 : decode cX8_told 68 = .ok (.getfield 131, 3) := by decide +kernel
theorem dX8_told_71 : decode cX8_told 71 = .ok (.iload_n 1, 1) := by decide +kernel
theorem dX8_told_72 : decode cX8_told 72 = .ok (.bipush 20, 2) := by decide +kernel
theorem dX8_told_74 : decode cX8_told 74 = .ok (.isub, 1) := by decide +kernel
theorem dX8_told_75 : decode cX8_told 75 = .ok (.iaload, 1) := by decide +kernel
theorem dX8_told_76 : decode cX8_told 76 = .ok (.ireturn, 1) := by decide +kernel
theorem dX8_told_77 : decode cX8_told 77 = .ok (.iload_n 1, 1) := by decide +kernel
theorem dX8_told_78 : decode cX8_told 78 = .ok (.bipush 40, 2) := by decide +kernel
theorem dX8_told_80 : decode cX8_told 80 = .ok (.bipush 51, 2) := by decide +kernel
theorem dX8_told_82 : decode cX8_told 82 = .ok (.invokestatic 73, 3) := by decide +kernel
theorem dX8_told_85 : decode cX8_told 85 = .ok (.ifCond .eq 30, 3) := by decide +kernel
theorem dX8_told_88 : decode cX8_told 88 = .ok (.aload_n 0, 1) := by decide +kernel
theorem dX8_told_89 : decode cX8_told 89 = .ok (.getfield 12, 3) := by decide +kernel
theorem dX8_told_92 : decode cX8_told 92 = .ok (.iload_n 1, 1) := by decide +kernel
theorem dX8_told_93 : decode cX8_told 93 = .ok (.bipush 40, 2) := by decide +kernel
theorem dX8_told_95 : decode cX8_told 95 = .ok (.isub, 1) := by decide +kernel
theorem dX8_told_96 : decode cX8_told 96 = .ok (.invokevirtual 91, 3) := by decide +kernel
theorem dX8_told_99 : decode cX8_told 99 = .ok (.ifCond .eq 16, 3) := by decide +kernel
theorem dX8_told_102 : decode cX8_told 102 = .ok (.aload_n 0, 1) := by decide +kernel
theorem dX8_told_103 : decode cX8_told 103 = .ok (.getfield 12, 3) := by decide +kernel
theorem dX8_told_106 : decode cX8_told 106 = .ok (.getfield 128, 3) := by decide +kernel
theorem dX8_told_109 : decode cX8_told 109 = .ok (.iload_n 1, 1) := by decide +kernel
theorem dX8_told_110 : decode cX8_told 110 = .ok (.bipush 40, 2) := by decide +kernel
theorem dX8_told_112 : decode cX8_told 112 = .ok (.isub, 1) := by decide +kernel
theorem dX8_told_113 : decode cX8_told 113 = .ok (.iaload, 1) := by decide +kernel
theorem dX8_told_114 : decode cX8_told 114 = .ok (.ireturn, 1) := by decide +kernel
theorem dX8_told_115 : decode cX8_told 115 = .ok (.bipush (-2), 2) := by decide +kernel
theorem dX8_told_117 : decode cX8_told 117 = .ok (.ireturn, 1) := by decide +kernel
abbrev cxX8_told (G : Rg) (X : Ct) : Prop := Cx G X cX8_told 2 RX8 (some .int) 1 22 (Cond.code yX8_told cX8_told 2 (some .int))
def fX8_told_b77   (v1 : Int32) (M : Mm) : Option (Int32 × Mm) :=
bd (fX8_isWithin v1 (nI 40) (nI 51) M) fun r1 M1 =>
if r1 = (nI 0) then
(some ((mI 2), M1))
else
(bd (fX0_isThere 1 (v1 - (nI 40)) M1) fun r3 M3 =>
if r3 = (nI 0) then
(some ((mI 2), M3))
else
(gd (inb (v1 - (nI 40)) 12) (
some ((M3.1 3 (v1 - (nI 40)).toNatClampNeg), M3))))
set_option maxHeartbeats 4000000 in
set_option maxRecDepth 100000 in
theorem vX8_told_b77 {G : Rg} {X : Ct} {r : Int32} {Mf : Mm}   (C : cxX8_told G X) (hG : gS G = shX)   (v1 : Int32) (M : Mm) (hf : fX8_told_b77 v1 M = some (r, Mf)) : V G X 2 (some (.int r)) Mf 77 [(0, .ref (gA G 0)), (1, .int v1)] [] M := by
  rw [fX8_told_b77] at hf
  refine V.iload_n (pc := 77) C 1 rfl dX8_told_77 ?_
  refine V.bipush (pc := 78) C (nI 40) (by decide) dX8_told_78 ?_
  refine V.bipush (pc := 80) C (nI 51) (by decide) dX8_told_80 ?_
  obtain ⟨r1, M1, h1, hf⟩ := bd_some hf
  refine V.callSi (pc := 82) (As := [.int v1, .int (nI 40), .int (nI 51)]) (rest := []) C (mX8_isWithin X.2.1 hG  h1) mf_X8_isWithin wM_X8_73 rfl rfl ⟨by decide, by decide⟩ (Nat.le_of_ble_eq_true rfl) dX8_told_82 ?_
  rcases it_some hf with ⟨h2, hf⟩ | ⟨h2, hf⟩
  · refine V.if_eqT (pc := 85) C 115 h2 (by decide) dX8_told_85 ?_
    refine V.bipush (pc := 115) C (mI 2) (by decide) dX8_told_115 ?_
    exact V.retI (pc := 117) C hf dX8_told_117
  · refine V.if_eqF (pc := 85) C 115 h2 (by decide) dX8_told_85 ?_
    refine V.aload_n (pc := 88) C 0 rfl dX8_told_88 ?_
    refine V.getR (pc := 89) C clX8 inX8 (sx_0 hG) 0 (by decide) wF_X8_12 rfl dX8_told_89 ?_
    refine V.iload_n (pc := 92) C 1 rfl dX8_told_92 ?_
    refine V.bipush (pc := 93) C (nI 40) (by decide) dX8_told_93 ?_
    refine V.isub (pc := 95) C dX8_told_95 ?_
    obtain ⟨r3, M3, h3, hf⟩ := bd_some hf
    refine V.callVi (pc := 96) (As := [.int (v1 - (nI 40))]) (rest := []) C (mX0_isThere X.2.1 hG (bx_1 hG) h3) mf_X0_isThere clX0 (sx_1 hG) wM_X8_91 rfl rfl ⟨by decide, by decide⟩ (Nat.le_of_ble_eq_true rfl) dX8_told_96 ?_
    rcases it_some hf with ⟨h4, hf⟩ | ⟨h4, hf⟩
    · refine V.if_eqT (pc := 99) C 115 h4 (by decide) dX8_told_99 ?_
      refine V.bipush (pc := 115) C (mI 2) (by decide) dX8_told_115 ?_
      exact V.retI (pc := 117) C hf dX8_told_117
    · refine V.if_eqF (pc := 99) C 115 h4 (by decide) dX8_told_99 ?_
      refine V.aload_n (pc := 102) C 0 rfl dX8_told_102 ?_
      refine V.getR (pc := 103) C clX8 inX8 (sx_0 hG) 0 (by decide) wF_X8_12 rfl dX8_told_103 ?_
      refine V.getR (pc := 106) C clX0 inX0 (sx_1 hG) 5 (by decide) wF_X8_128 rfl dX8_told_106 ?_
      refine V.iload_n (pc := 109) C 1 rfl dX8_told_109 ?_
      refine V.bipush (pc := 110) C (nI 40) (by decide) dX8_told_110 ?_
      refine V.isub (pc := 112) C dX8_told_112 ?_
      obtain ⟨g5, hf⟩ := gd_some hf
      refine V.iald (pc := 113) C (sx_3 hG) (inb_in g5) dX8_told_113 ?_
      exact V.retI (pc := 114) C hf dX8_told_114
def fX8_told (x1 : Int32) (M : Mm) : Option (Int32 × Mm) :=
bd (fX8_isWithin x1 (nI 0) (nI 3) M) fun r1 M1 =>
if r1 = (nI 0) then
(bd (fX8_isWithin x1 (nI 10) (nI 15) M1) fun r3 M3 =>
if r3 = (nI 0) then
(bd (fX8_isWithin x1 (nI 20) (nI 31) M3) fun r5 M5 =>
if r5 = (nI 0) then
(fX8_told_b77 x1 M5)
else
(bd (fX0_isThere 1 (x1 - (nI 20)) M5) fun r7 M7 =>
if r7 = (nI 0) then
(fX8_told_b77 x1 M7)
else
(gd (inb (x1 - (nI 20)) 12) (
some ((M7.1 2 (x1 - (nI 20)).toNatClampNeg), M7)))))
else
(gd (inb (x1 - (nI 10)) 6) (
some ((M3.1 4 (x1 - (nI 10)).toNatClampNeg), M3))))
else
(bd (fX8_toldCount x1 M1) fun r11 M11 =>
some (r11, M11))
set_option maxHeartbeats 4000000 in
set_option maxRecDepth 100000 in
theorem mX8_told (l : Launch) {G : Rg} (hG : gS G = shX) {x1 : Int32}  {M Mf : Mm} {r : Int32} (hf : fX8_told x1 M = some (r, Mf)) : Mt l G yX8_told cX8_told 2 (some .int) 1 22 [.ref (gA G 0), .int x1] M (some (.int r)) Mf := by
  refine Mt.of (by decide) (Nat.le_of_ble_eq_true rfl) ?_
  intro X C hX
  subst hX
  have C : cxX8_told G X := C
  show V G X 2 (some (.int r)) Mf 0 [(0, .ref (gA G 0)), (1, .int x1)] [] M
  rw [fX8_told] at hf
  refine V.iload_n (pc := 0) C 1 rfl dX8_told_0 ?_
  refine V.iconst (pc := 1) C (nI 0) (by decide) dX8_told_1 ?_
  refine V.iconst (pc := 2) C (nI 3) (by decide) dX8_told_2 ?_
  obtain ⟨r1, M1, h1, hf⟩ := bd_some hf
  refine V.callSi (pc := 3) (As := [.int x1, .int (nI 0), .int (nI 3)]) (rest := []) C (mX8_isWithin X.2.1 hG  h1) mf_X8_isWithin wM_X8_73 rfl rfl ⟨by decide, by decide⟩ (Nat.le_of_ble_eq_true rfl) dX8_told_3 ?_
  rcases it_some hf with ⟨h2, hf⟩ | ⟨h2, hf⟩
  · refine V.if_eqT (pc := 6) C 15 h2 (by decide) dX8_told_6 ?_
    refine V.iload_n (pc := 15) C 1 rfl dX8_told_15 ?_
    refine V.bipush (pc := 16) C (nI 10) (by decide) dX8_told_16 ?_
    refine V.bipush (pc := 18) C (nI 15) (by decide) dX8_told_18 ?_
    obtain ⟨r3, M3, h3, hf⟩ := bd_some hf
    refine V.callSi (pc := 20) (As := [.int x1, .int (nI 10), .int (nI 15)]) (rest := []) C (mX8_isWithin X.2.1 hG  h3) mf_X8_isWithin wM_X8_73 rfl rfl ⟨by decide, by decide⟩ (Nat.le_of_ble_eq_true rfl) dX8_told_20 ?_
    rcases it_some hf with ⟨h4, hf⟩ | ⟨h4, hf⟩
    · refine V.if_eqT (pc := 23) C 39 h4 (by decide) dX8_told_23 ?_
      refine V.iload_n (pc := 39) C 1 rfl dX8_told_39 ?_
      refine V.bipush (pc := 40) C (nI 20) (by decide) dX8_told_40 ?_
      refine V.bipush (pc := 42) C (nI 31) (by decide) dX8_told_42 ?_
      obtain ⟨r5, M5, h5, hf⟩ := bd_some hf
      refine V.callSi (pc := 44) (As := [.int x1, .int (nI 20), .int (nI 31)]) (rest := []) C (mX8_isWithin X.2.1 hG  h5) mf_X8_isWithin wM_X8_73 rfl rfl ⟨by decide, by decide⟩ (Nat.le_of_ble_eq_true rfl) dX8_told_44 ?_
      rcases it_some hf with ⟨h6, hf⟩ | ⟨h6, hf⟩
      · refine V.if_eqT (pc := 47) C 77 h6 (by decide) dX8_told_47 ?_
        exact vX8_told_b77 C hG    _ _ hf
      · refine V.if_eqF (pc := 47) C 77 h6 (by decide) dX8_told_47 ?_
        refine V.aload_n (pc := 50) C 0 rfl dX8_told_50 ?_
        refine V.getR (pc := 51) C clX8 inX8 (sx_0 hG) 0 (by decide) wF_X8_12 rfl dX8_told_51 ?_
        refine V.iload_n (pc := 54) C 1 rfl dX8_told_54 ?_
        refine V.bipush (pc := 55) C (nI 20) (by decide) dX8_told_55 ?_
        refine V.isub (pc := 57) C dX8_told_57 ?_
        obtain ⟨r7, M7, h7, hf⟩ := bd_some hf
        refine V.callVi (pc := 58) (As := [.int (x1 - (nI 20))]) (rest := []) C (mX0_isThere X.2.1 hG (bx_1 hG) h7) mf_X0_isThere clX0 (sx_1 hG) wM_X8_91 rfl rfl ⟨by decide, by decide⟩ (Nat.le_of_ble_eq_true rfl) dX8_told_58 ?_
        rcases it_some hf with ⟨h8, hf⟩ | ⟨h8, hf⟩
        · refine V.if_eqT (pc := 61) C 77 h8 (by decide) dX8_told_61 ?_
          exact vX8_told_b77 C hG    _ _ hf
        · refine V.if_eqF (pc := 61) C 77 h8 (by decide) dX8_told_61 ?_
          refine V.aload_n (pc := 64) C 0 rfl dX8_told_64 ?_
          refine V.getR (pc := 65) C clX8 inX8 (sx_0 hG) 0 (by decide) wF_X8_12 rfl dX8_told_65 ?_
          refine V.getR (pc := 68) C clX0 inX0 (sx_1 hG) 4 (by decide) wF_X8_131 rfl dX8_told_68 ?_
          refine V.iload_n (pc := 71) C 1 rfl dX8_told_71 ?_
          refine V.bipush (pc := 72) C (nI 20) (by decide) dX8_told_72 ?_
          refine V.isub (pc := 74) C dX8_told_74 ?_
          obtain ⟨g9, hf⟩ := gd_some hf
          refine V.iald (pc := 75) C (sx_2 hG) (inb_in g9) dX8_told_75 ?_
          exact V.retI (pc := 76) C hf dX8_told_76
    · refine V.if_eqF (pc := 23) C 39 h4 (by decide) dX8_told_23 ?_
      refine V.aload_n (pc := 26) C 0 rfl dX8_told_26 ?_
      refine V.getR (pc := 27) C clX8 inX8 (sx_0 hG) 0 (by decide) wF_X8_12 rfl dX8_told_27 ?_
      refine V.getR (pc := 30) C clX0 inX0 (sx_1 hG) 6 (by decide) wF_X8_95 rfl dX8_told_30 ?_
      refine V.iload_n (pc := 33) C 1 rfl dX8_told_33 ?_
      refine V.bipush (pc := 34) C (nI 10) (by decide) dX8_told_34 ?_
      refine V.isub (pc := 36) C dX8_told_36 ?_
      obtain ⟨g10, hf⟩ := gd_some hf
      refine V.iald (pc := 37) C (sx_4 hG) (inb_in g10) dX8_told_37 ?_
      exact V.retI (pc := 38) C hf dX8_told_38
  · refine V.if_eqF (pc := 6) C 15 h2 (by decide) dX8_told_6 ?_
    refine V.aload_n (pc := 9) C 0 rfl dX8_told_9 ?_
    refine V.iload_n (pc := 10) C 1 rfl dX8_told_10 ?_
    obtain ⟨r11, M11, h11, hf⟩ := bd_some hf
    refine V.callVi (pc := 11) (As := [.int x1]) (rest := []) C (mX8_toldCount X.2.1 hG  h11) mf_X8_toldCount clX8 (sx_0 hG) wM_X8_251 rfl rfl ⟨by decide, by decide⟩ (Nat.le_of_ble_eq_true rfl) dX8_told_11 ?_
    exact V.retI (pc := 14) C hf dX8_told_14
