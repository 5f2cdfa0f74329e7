theorem dX0_carryOut_0 : decode cX0_carryOut 0 = .ok (.iload_n 2, 1) := by decide +kernel
theorem dX0_carryOut_1 : decode cX0_carryOut 1 = .ok (.ifCond .ne 13, 3) := by decide +kernel
theorem dX0_carryOut_4 : decode cX0_carryOut 4 = .ok (.aload_n 0, 1) := by decide +kernel
theorem dX0_carryOut_5 : decode cX0_carryOut 5 = .ok (.getfield 19, 3) := by decide +kernel
theorem dX0_carryOut_8 : decode cX0_carryOut 8 = .ok (.iload_n 1, 1) := by decide +kernel
theorem dX0_carryOut_9 : decode cX0_carryOut 9 = .ok (.iconst 1, 1) := by decide +kernel
theorem dX0_carryOut_10 : decode cX0_carryOut 10 = .ok (.iastore, 1) := by decide +kernel
theorem dX0_carryOut_11 : decode cX0_carryOut 11 = .ok (.goto 65, 3) := by decide +kernel
theorem dX0_carryOut_14 : decode cX0_carryOut 14 = .ok (.iload_n 2, 1) := by decide +kernel
theorem dX0_carryOut_15 : decode cX0_carryOut 15 = .ok (.iconst 1, 1) := by decide +kernel
theorem dX0_carryOut_16 : decode cX0_carryOut 16 = .ok (.if_icmp .ne 13, 3) := by decide +kernel
theorem dX0_carryOut_19 : decode cX0_carryOut 19 = .ok (.aload_n 0, 1) := by decide +kernel
theorem dX0_carryOut_20 : decode cX0_carryOut 20 = .ok (.getfield 19, 3) := by decide +kernel
theorem dX0_carryOut_23 : decode cX0_carryOut 23 = .ok (.iload_n 1, 1) := by decide +kernel
theorem dX0_carryOut_24 : decode cX0_carryOut 24 = .ok (.iconst 2, 1) := by decide +kernel
theorem dX0_carryOut_25 : decode cX0_carryOut 25 = .ok (.iastore, 1) := by decide +kernel
theorem dX0_carryOut_26 : decode cX0_carryOut 26 = .ok (.goto 50, 3) := by decide +kernel
theorem dX0_carryOut_29 : decode cX0_carryOut 29 = .ok (.iload_n 2, 1) := by decide +kernel
theorem dX0_carryOut_30 : decode cX0_carryOut 30 = .ok (.iconst 2, 1) := by decide +kernel
theorem dX0_carryOut_31 : decode cX0_carryOut 31 = .ok (.if_icmp .ne 27, 3) := by decide +kernel
theorem dX0_carryOut_34 : decode cX0_carryOut 34 = .ok (.aload_n 0, 1) := by decide +kernel
theorem dX0_carryOut_35 : decode cX0_carryOut 35 = .ok (.getfield 19, 3) := by decide +kernel
theorem dX0_carryOut_38 : decode cX0_carryOut 38 = .ok (.iload_n 1, 1) := by decide +kernel
theorem dX0_carryOut_39 : decode cX0_carryOut 39 = .ok (.iconst 4, 1) := by decide +kernel
theorem dX0_carryOut_40 : decode cX0_carryOut 40 = .ok (.iastore, 1) := by decide +kernel
theorem dX0_carryOut_41 : decode cX0_carryOut 41 = .ok (.aload_n 0, 1) := by decide +kernel
theorem dX0_carryOut_42 : decode cX0_carryOut 42 = .ok (.iconst 0, 1) := by decide +kernel
theorem dX0_carryOut_43 : decode cX0_carryOut 43 = .ok (.aload_n 0, 1) := by decide +kernel
theorem dX0_carryOut_44 : decode cX0_carryOut 44 = .ok (.getfield 9, 3) := by decide +kernel
theorem dX0_carryOut_47 : decode cX0_carryOut 47 = .ok (.iconst 1, 1) := by decide +kernel
theorem dX0_carryOut_48 : decode cX0_carryOut 48 = .ok (.isub, 1) := by decide +kernel
theorem dX0_carryOut_49 : decode cX0_carryOut 49 = .ok (.invokestatic 60, 3) := by decide +kernel
theorem dX0_carryOut_52 : decode cX0_carryOut 52 = .ok (.putfield 9, 3) := by decide +kernel
theorem dX0_carryOut_55 : decode cX0_carryOut 55 = .ok (.goto 21, 3) := by decide +kernel
theorem dX0_carryOut_58 : decode cX0_carryOut 58 = .ok (.aload_n 0, 1) := by decide +kernel
theorem dX0_carryOut_59 : decode cX0_carryOut 59 = .ok (.getfield 15, 3) := by decide +kernel
theorem dX0_carryOut_62 : decode cX0_carryOut 62 = .ok (.iload_n 1, 1) := by decide +kernel
theorem dX0_carryOut_63 : decode cX0_carryOut 63 = .ok (.iconst 5, 1) := by decide +kernel
theorem dX0_carryOut_64 : decode cX0_carryOut 64 = .ok (.aload_n 0, 1) := by decide +kernel
theorem dX0_carryOut_65 : decode cX0_carryOut 65 = .ok (.getfield 15, 3) := by decide +kernel
theorem dX0_carryOut_68 : decode cX0_carryOut 68 = .ok (.iload_n 1, 1) := by decide +kernel
theorem dX0_carryOut_69 : decode cX0_carryOut 69 = .ok (.iaload, 1) := by decide +kernel
theorem dX0_carryOut_70 : decode cX0_carryOut 70 = .ok (.iconst 1, 1) := by decide +kernel
theorem dX0_carryOut_71 : decode cX0_carryOut 71 = .ok (.iadd, 1) := by decide +kernel
theorem dX0_carryOut_72 : decode cX0_carryOut 72 = .ok (.invokestatic 66, 3) := by decide +kernel
theorem dX0_carryOut_75 : decode cX0_carryOut 75 = .ok (.iastore, 1) := by decide +kernel
theorem dX0_carryOut_76 : decode cX0_carryOut 76 = .ok (.return_, 1) := by decide +kernel
abbrev cxX0_carryOut (G : Rg) (X : Ct) : Prop := Cx G X cX0_carryOut 3 RX0 (none) 1 40 (Cond.code yX0_carryOut cX0_carryOut 3 (none))
def fX0_carryOut (c0 : Nat) (x1 : Int32) (x2 : Int32) (M : Mm) : Option (Unit × Mm) :=
if x2 = (nI 0) then
(gd (inb x1 12) (
some ((), (sI M (c0 + 2) x1.toNatClampNeg (nI 1)))))
else
(if x2 = (nI 1) then
(gd (inb x1 12) (
some ((), (sI M (c0 + 2) x1.toNatClampNeg (nI 2)))))
else
(if x2 = (nI 2) then
(gd (inb x1 12) (
some ((), (sI (sI M (c0 + 2) x1.toNatClampNeg (nI 4)) c0 1 (jmax (nI 0) (((sI M (c0 + 2) x1.toNatClampNeg (nI 4)).1 c0 1) - (nI 1)))))))
else
(gd (inb x1 12) (
gd (inb x1 12) (
some ((), (sI M (c0 + 1) x1.toNatClampNeg (jmin (nI 5) ((M.1 (c0 + 1) x1.toNatClampNeg) + (nI 1))))))))))
set_option maxHeartbeats 4000000 in
set_option maxRecDepth 100000 in
theorem mX0_carryOut (l : Launch) {G : Rg} (hG : gS G = shX) {c0 : Nat} {x1 : Int32} {x2 : Int32} (hB0 : isB G c0) {M Mf : Mm} {r : Unit} (hf : fX0_carryOut c0 x1 x2 M = some (r, Mf)) : Mt l G yX0_carryOut cX0_carryOut 3 (none) 1 40 [.ref (gA G c0), .int x1, .int x2] M none Mf := by
  refine Mt.of (by decide) (Nat.le_of_ble_eq_true rfl) ?_
  intro X C hX
  subst hX
  have C : cxX0_carryOut G X := C
  show V G X 3 none Mf 0 [(0, .ref (gA G c0)), (1, .int x1), (2, .int x2)] [] M
  rw [fX0_carryOut] at hf
  refine V.iload_n (pc := 0) C 2 rfl dX0_carryOut_0 ?_
  rcases it_some hf with ⟨h1, hf⟩ | ⟨h1, hf⟩
  · refine V.if_neF (pc := 1) C 14 h1 (by decide) dX0_carryOut_1 ?_
    refine V.aload_n (pc := 4) C 0 rfl dX0_carryOut_4 ?_
    refine V.getR (pc := 5) C clX0 inX0 hB0.1 5 (by decide) wF_X0_19 rfl dX0_carryOut_5 ?_
    refine V.iload_n (pc := 8) C 1 rfl dX0_carryOut_8 ?_
    refine V.iconst (pc := 9) C (nI 1) (by decide) dX0_carryOut_9 ?_
    obtain ⟨g8, hf⟩ := gd_some hf
    refine V.iast (pc := 10) C hB0.2.2.1 (inb_in g8) dX0_carryOut_10 ?_
    refine V.goto (pc := 11) C 76 (by decide) dX0_carryOut_11 ?_
    exact V.retV (pc := 76) C hf dX0_carryOut_76
  · refine V.if_neT (pc := 1) C 14 h1 (by decide) dX0_carryOut_1 ?_
    refine V.iload_n (pc := 14) C 2 rfl dX0_carryOut_14 ?_
    refine V.iconst (pc := 15) C (nI 1) (by decide) dX0_carryOut_15 ?_
    rcases it_some hf with ⟨h2, hf⟩ | ⟨h2, hf⟩
    · refine V.ic_neF (pc := 16) C 29 h2 (by decide) dX0_carryOut_16 ?_
      refine V.aload_n (pc := 19) C 0 rfl dX0_carryOut_19 ?_
      refine V.getR (pc := 20) C clX0 inX0 hB0.1 5 (by decide) wF_X0_19 rfl dX0_carryOut_20 ?_
      refine V.iload_n (pc := 23) C 1 rfl dX0_carryOut_23 ?_
      refine V.iconst (pc := 24) C (nI 2) (by decide) dX0_carryOut_24 ?_
      obtain ⟨g7, hf⟩ := gd_some hf
      refine V.iast (pc := 25) C hB0.2.2.1 (inb_in g7) dX0_carryOut_25 ?_
      refine V.goto (pc := 26) C 76 (by decide) dX0_carryOut_26 ?_
      exact V.retV (pc := 76) C hf dX0_carryOut_76
    · refine V.ic_neT (pc := 16) C 29 h2 (by decide) dX0_carryOut_16 ?_
      refine V.iload_n (pc := 29) C 2 rfl dX0_carryOut_29 ?_
      refine V.iconst (pc := 30) C (nI 2) (by decide) dX0_carryOut_30 ?_
      rcases it_some hf with ⟨h3, hf⟩ | ⟨h3, hf⟩
      · refine V.ic_neF (pc := 31) C 58 h3 (by decide) dX0_carryOut_31 ?_
        refine V.aload_n (pc := 34) C 0 rfl dX0_carryOut_34 ?_
        refine V.getR (pc := 35) C clX0 inX0 hB0.1 5 (by decide) wF_X0_19 rfl dX0_carryOut_35 ?_
        refine V.iload_n (pc := 38) C 1 rfl dX0_carryOut_38 ?_
        refine V.iconst (pc := 39) C (nI 4) (by decide) dX0_carryOut_39 ?_
        obtain ⟨g6, hf⟩ := gd_some hf
        refine V.iast (pc := 40) C hB0.2.2.1 (inb_in g6) dX0_carryOut_40 ?_
        refine V.aload_n (pc := 41) C 0 rfl dX0_carryOut_41 ?_
        refine V.iconst (pc := 42) C (nI 0) (by decide) dX0_carryOut_42 ?_
        refine V.aload_n (pc := 43) C 0 rfl dX0_carryOut_43 ?_
        refine V.getI (pc := 44) C clX0 inX0 hB0.1 1 (by decide) wF_X0_9 rfl dX0_carryOut_44 ?_
        refine V.iconst (pc := 47) C (nI 1) (by decide) dX0_carryOut_47 ?_
        refine V.isub (pc := 48) C dX0_carryOut_48 ?_
        refine V.mmax (pc := 49) C mm_max wM_X0_60 (by decide) (Nat.le_of_ble_eq_true rfl) dX0_carryOut_49 ?_
        refine V.putI (pc := 52) C clX0 inX0 hB0.1 1 (by decide) wF_X0_9 tyX0 tyX0_ok nmX0 rfl (tyX0_ok 1 (by decide)) rfl dX0_carryOut_52 ?_
        refine V.goto (pc := 55) C 76 (by decide) dX0_carryOut_55 ?_
        exact V.retV (pc := 76) C hf dX0_carryOut_76
      · refine V.ic_neT (pc := 31) C 58 h3 (by decide) dX0_carryOut_31 ?_
        refine V.aload_n (pc := 58) C 0 rfl dX0_carryOut_58 ?_
        refine V.getR (pc := 59) C clX0 inX0 hB0.1 4 (by decide) wF_X0_15 rfl dX0_carryOut_59 ?_
        refine V.iload_n (pc := 62) C 1 rfl dX0_carryOut_62 ?_
        refine V.iconst (pc := 63) C (nI 5) (by decide) dX0_carryOut_63 ?_
        refine V.aload_n (pc := 64) C 0 rfl dX0_carryOut_64 ?_
        refine V.getR (pc := 65) C clX0 inX0 hB0.1 4 (by decide) wF_X0_15 rfl dX0_carryOut_65 ?_
        refine V.iload_n (pc := 68) C 1 rfl dX0_carryOut_68 ?_
        obtain ⟨g4, hf⟩ := gd_some hf
        refine V.iald (pc := 69) C hB0.2.1 (inb_in g4) dX0_carryOut_69 ?_
        refine V.iconst (pc := 70) C (nI 1) (by decide) dX0_carryOut_70 ?_
        refine V.iadd (pc := 71) C dX0_carryOut_71 ?_
        refine V.mmin (pc := 72) C mm_min wM_X0_66 (by decide) (Nat.le_of_ble_eq_true rfl) dX0_carryOut_72 ?_
        obtain ⟨g5, hf⟩ := gd_some hf
        refine V.iast (pc := 75) C hB0.2.1 (inb_in g5) dX0_carryOut_75 ?_
        exact V.retV (pc := 76) C hf dX0_carryOut_76
theorem dX3_endDeed_0 : decode cX3_endDeed 0 = .ok (.aload_n 0, 1) := by decide +kernel
theorem dX3_endDeed_1 : decode cX3_endDeed 1 = .ok (.aload_n 0, 1) := by decide +kernel
theorem dX3_endDeed_2 : decode cX3_endDeed 2 = .ok (.getfield 12, 3) := by decide +kernel
theorem dX3_endDeed_5 : decode cX3_endDeed 5 = .ok (.aload_n 0, 1) := by decide +kernel
theorem dX3_endDeed_6 : decode cX3_endDeed 6 = .ok (.getfield 32, 3) := by decide +kernel
theorem dX3_endDeed_9 : decode cX3_endDeed 9 = .ok (.iload_n 1, 1) := by decide +kernel
theorem dX3_endDeed_10 : decode cX3_endDeed 10 = .ok (.invokevirtual 81, 3) := by decide +kernel
theorem dX3_endDeed_13 : decode cX3_endDeed 13 = .ok (.putfield 29, 3) := by decide +kernel
theorem dX3_endDeed_16 : decode cX3_endDeed 16 = .ok (.aload_n 0, 1) := by decide +kernel
theorem dX3_endDeed_17 : decode cX3_endDeed 17 = .ok (.getfield 29, 3) := by decide +kernel
theorem dX3_endDeed_20 : decode cX3_endDeed 20 = .ok (.ifCond .ne 25, 3) := by decide +kernel
theorem dX3_endDeed_23 : decode cX3_endDeed 23 = .ok (.aload_n 0, 1) := by decide +kernel
theorem dX3_endDeed_24 : decode cX3_endDeed 24 = .ok (.getfield 12, 3) := by decide +kernel
theorem dX3_endDeed_27 : decode cX3_endDeed 27 = .ok (.aload_n 0, 1) := by decide +kernel
theorem dX3_endDeed_28 : decode cX3_endDeed 28 = .ok (.getfield 32, 3) := by decide +kernel
theorem dX3_endDeed_31 : decode cX3_endDeed 31 = .ok (.iload_n 1, 1) := by decide +kernel
theorem dX3_endDeed_32 : decode cX3_endDeed 32 = .ok (.invokevirtual 85, 3) := by decide +kernel
theorem dX3_endDeed_35 : decode cX3_endDeed 35 = .ok (.aload_n 0, 1) := by decide +kernel
theorem dX3_endDeed_36 : decode cX3_endDeed 36 = .ok (.dup, 1) := by decide +kernel
theorem dX3_endDeed_37 : decode cX3_endDeed 37 = .ok (.getfield 22, 3) := by decide +kernel
theorem dX3_endDeed_40 : decode cX3_endDeed 40 = .ok (.iconst 1, 1) := by decide +kernel
theorem dX3_endDeed_41 : decode cX3_endDeed 41 = .ok (.iadd, 1) := by decide +kernel
theorem dX3_endDeed_42 : decode cX3_endDeed 42 = .ok (.putfield 22, 3) := by decide +kernel
theorem dX3_endDeed_45 : decode cX3_endDeed 45 = .ok (.return_, 1) := by decide +kernel
abbrev cxX3_endDeed (G : Rg) (X : Ct) : Prop := Cx G X cX3_endDeed 2 RX3 (none) 2 62 (Cond.code yX3_endDeed cX3_endDeed 2 (none))
def fX3_endDeed (x1 : Int32) (M : Mm) : Option (Unit × Mm) :=
bd (fX0_whyNot 9 (M.1 8 4) x1 M) fun r1 M1 =>
if ((sI M1 8 3 r1).1 8 3) = (nI 0) then
(bd (fX0_carryOut 9 ((sI M1 8 3 r1).1 8 4) x1 (sI M1 8 3 r1)) fun _ M3 =>
some ((), (sI M3 8 1 ((M3.1 8 1) + (nI 1)))))
else
(some ((), (sI M1 8 3 r1)))
set_option maxHeartbeats 4000000 in
set_option maxRecDepth 100000 in
theorem mX3_endDeed (l : Launch) {G : Rg} (hG : gS G = shX) {x1 : Int32}  {M Mf : Mm} {r : Unit} (hf : fX3_endDeed x1 M = some (r, Mf)) : Mt l G yX3_endDeed cX3_endDeed 2 (none) 2 62 [.ref (gA G 8), .int x1] M none Mf := by
  refine Mt.of (by decide) (Nat.le_of_ble_eq_true rfl) ?_
  intro X C hX
  subst hX
  have C : cxX3_endDeed G X := C
  show V G X 2 none Mf 0 [(0, .ref (gA G 8)), (1, .int x1)] [] M
  rw [fX3_endDeed] at hf
  refine V.aload_n (pc := 0) C 0 rfl dX3_endDeed_0 ?_
  refine V.aload_n (pc := 1) C 0 rfl dX3_endDeed_1 ?_
  refine V.getR (pc := 2) C clX3 inX3 (sx_8 hG) 0 (by decide) wF_X3_12 rfl dX3_endDeed_2 ?_
  refine V.aload_n (pc := 5) C 0 rfl dX3_endDeed_5 ?_
  refine V.getI (pc := 6) C clX3 inX3 (sx_8 hG) 4 (by decide) wF_X3_32 rfl dX3_endDeed_6 ?_
  refine V.iload_n (pc := 9) C 1 rfl dX3_endDeed_9 ?_
  obtain ⟨r1, M1, h1, hf⟩ := bd_some hf
  refine V.callVi (pc := 10) (As := [.int (M.1 8 4), .int x1]) (rest := [.ref (gA G 8)]) C (mX0_whyNot X.2.1 hG (bx_9 hG) h1) mf_X0_whyNot clX0 (sx_9 hG) wM_X3_81 rfl rfl ⟨by decide, by decide⟩ (Nat.le_of_ble_eq_true rfl) dX3_endDeed_10 ?_
  refine V.putI (pc := 13) C clX3 inX3 (sx_8 hG) 3 (by decide) wF_X3_29 tyX3 tyX3_ok nmX3 rfl (tyX3_ok 3 (by decide)) rfl dX3_endDeed_13 ?_
  refine V.aload_n (pc := 16) C 0 rfl dX3_endDeed_16 ?_
  refine V.getI (pc := 17) C clX3 inX3 (sx_8 hG) 3 (by decide) wF_X3_29 rfl dX3_endDeed_17 ?_
  rcases it_some hf with ⟨h2, hf⟩ | ⟨h2, hf⟩
  · refine V.if_neF (pc := 20) C 45 h2 (by decide) dX3_endDeed_20 ?_
    refine V.aload_n (pc := 23) C 0 rfl dX3_endDeed_23 ?_
    refine V.getR (pc := 24) C clX3 inX3 (sx_8 hG) 0 (by decide) wF_X3_12 rfl dX3_endDeed_24 ?_
    refine V.aload_n (pc := 27) C 0 rfl dX3_endDeed_27 ?_
    refine V.getI (pc := 28) C clX3 inX3 (sx_8 hG) 4 (by decide) wF_X3_32 rfl dX3_endDeed_28 ?_
    refine V.iload_n (pc := 31) C 1 rfl dX3_endDeed_31 ?_
    obtain ⟨_, M3, h3, hf⟩ := bd_some hf
    refine V.callVv (pc := 32) (As := [.int ((sI M1 8 3 r1).1 8 4), .int x1]) (rest := []) C (mX0_carryOut X.2.1 hG (bx_9 hG) h3) mf_X0_carryOut clX0 (sx_9 hG) wM_X3_85 rfl rfl ⟨by decide, by decide⟩ (Nat.le_of_ble_eq_true rfl) dX3_endDeed_32 ?_
    refine V.aload_n (pc := 35) C 0 rfl dX3_endDeed_35 ?_
    refine V.dup (pc := 36) C rfl dX3_endDeed_36 ?_
    refine V.getI (pc := 37) C clX3 inX3 (sx_8 hG) 1 (by decide) wF_X3_22 rfl dX3_endDeed_37 ?_
    refine V.iconst (pc := 40) C (nI 1) (by decide) dX3_endDeed_40 ?_
    refine V.iadd (pc := 41) C dX3_endDeed_41 ?_
    refine V.putI (pc := 42) C clX3 inX3 (sx_8 hG) 1 (by decide) wF_X3_22 tyX3 tyX3_ok nmX3 rfl (tyX3_ok 1 (by decide)) rfl dX3_endDeed_42 ?_
    exact V.retV (pc := 45) C hf dX3_endDeed_45
  · refine V.if_neT (pc := 20) C 45 h2 (by decide) dX3_endDeed_20 ?_
    exact V.retV (pc := 45) C hf dX3_endDeed_45
theorem dX3_take_0 : decode cX3_take 0 = .ok (.iload_n 1, 1) := by decide +kernel
theorem dX3_take_1 : decode cX3_take 1 = .ok (.bipush 40, 2) := by decide +kernel
theorem dX3_take_3 : decode cX3_take 3 = .ok (.if_icmp .ne 21, 3) := by decide +kernel
theorem dX3_take_6 : decode cX3_take 6 = .ok (.aload_n 0, 1) := by decide +kernel
theorem dX3_take_7 : decode cX3_take 7 = .ok (.iconst 1, 1) := by decide +kernel
theorem dX3_take_8 : decode cX3_take 8 = .ok (.putfield 35, 3) := by decide +kernel
theorem dX3_take_11 : decode cX3_take 11 = .ok (.aload_n 0, 1) := by decide +kernel
theorem dX3_take_12 : decode cX3_take 12 = .ok (.iconst 0, 1) := by decide +kernel
theorem dX3_take_13 : decode cX3_take 13 = .ok (.putfield 52, 3) := by decide +kernel
theorem dX3_take_16 : decode cX3_take 16 = .ok (.aload_n 0, 1) := by decide +kernel
theorem dX3_take_17 : decode cX3_take 17 = .ok (.iconst 0, 1) := by decide +kernel
theorem dX3_take_18 : decode cX3_take 18 = .ok (.putfield 55, 3) := by decide +kernel
theorem dX3_take_21 : decode cX3_take 21 = .ok (.goto 70, 3) := by decide +kernel
theorem dX3_take_24 : decode cX3_take 24 = .ok (.iload_n 1, 1) := by decide +kernel
theorem dX3_take_25 : decode cX3_take 25 = .ok (.bipush 41, 2) := by decide +kernel
theorem dX3_take_27 : decode cX3_take 27 = .ok (.if_icmp .ne 15, 3) := by decide +kernel
theorem dX3_take_30 : decode cX3_take 30 = .ok (.aload_n 0, 1) := by decide +kernel
theorem dX3_take_31 : decode cX3_take 31 = .ok (.iconst 0, 1) := by decide +kernel
theorem dX3_take_32 : decode cX3_take 32 = .ok (.putfield 35, 3) := by decide +kernel
theorem dX3_take_35 : decode cX3_take 35 = .ok (.aload_n 0, 1) := by decide +kernel
theorem dX3_take_36 : decode cX3_take 36 = .ok (.invokevirtual 58, 3) := by decide +kernel
theorem dX3_take_39 : decode cX3_take 39 = .ok (.goto 52, 3) := by decide +kernel
theorem dX3_take_42 : decode cX3_take 42 = .ok (.aload_n 0, 1) := by decide +kernel
theorem dX3_take_43 : decode cX3_take 43 = .ok (.getfield 35, 3) := by decide +kernel
theorem dX3_take_46 : decode cX3_take 46 = .ok (.ifCond .eq 14, 3) := by decide +kernel
theorem dX3_take_49 : decode cX3_take 49 = .ok (.aload_n 0, 1) := by decide +kernel
theorem dX3_take_50 : decode cX3_take 50 = .ok (.iload_n 1, 1) := by decide +kernel
theorem dX3_take_51 : decode cX3_take 51 = .ok (.invokestatic 61, 3) := by decide +kernel
theorem dX3_take_54 : decode cX3_take 54 = .ok (.invokevirtual 65, 3) := by decide +kernel
theorem dX3_take_57 : decode cX3_take 57 = .ok (.goto 34, 3) := by decide +kernel
theorem dX3_take_60 : decode cX3_take 60 = .ok (.aload_n 0, 1) := by decide +kernel
theorem dX3_take_61 : decode cX3_take 61 = .ok (.getfield 32, 3) := by decide +kernel
theorem dX3_take_64 : decode cX3_take 64 = .ok (.ifCond .ge 14, 3) := by decide +kernel
theorem dX3_take_67 : decode cX3_take 67 = .ok (.aload_n 0, 1) := by decide +kernel
theorem dX3_take_68 : decode cX3_take 68 = .ok (.iload_n 1, 1) := by decide +kernel
theorem dX3_take_69 : decode cX3_take 69 = .ok (.invokestatic 61, 3) := by decide +kernel
theorem dX3_take_72 : decode cX3_take 72 = .ok (.putfield 32, 3) := by decide +kernel
theorem dX3_take_75 : decode cX3_take 75 = .ok (.goto 16, 3) := by decide +kernel
theorem dX3_take_78 : decode cX3_take 78 = .ok (.aload_n 0, 1) := by decide +kernel
theorem dX3_take_79 : decode cX3_take 79 = .ok (.iload_n 1, 1) := by decide +kernel
theorem dX3_take_80 : decode cX3_take 80 = .ok (.invokestatic 68, 3) := by decide +kernel
theorem dX3_take_83 : decode cX3_take 83 = .ok (.invokevirtual 71, 3) := by decide +kernel
theorem dX3_take_86 : decode cX3_take 86 = .ok (.aload_n 0, 1) := by decide +kernel
theorem dX3_take_87 : decode cX3_take 87 = .ok (.iconst (-1), 1) := by decide +kernel
theorem dX3_take_88 : decode cX3_take 88 = .ok (.putfield 32, 3) := by decide +kernel
theorem dX3_take_91 : decode cX3_take 91 = .ok (.return_, 1) := by decide +kernel
abbrev cxX3_take (G : Rg) (X : Ct) : Prop := Cx G X cX3_take 2 RX3 (none) 4 86 (Cond.code yX3_take cX3_take 2 (none))
def fX3_take (x1 : Int32) (M : Mm) : Option (Unit × Mm) :=
if x1 = (nI 40) then
(some ((), (sI (sI (sI M 8 5 (nI 1)) 8 6 (nI 0)) 8 7 (nI 0))))
else
(if x1 = (nI 41) then
(bd (fX3_endExchange (sI M 8 5 (nI 0))) fun _ M10 =>
some ((), M10))
else
(if (M.1 8 5) = (nI 0) then
(if (nI 0) ≤ (M.1 8 4) then
(bd (fX4_deedOf x1 M) fun r5 M5 =>
bd (fX3_endDeed r5 M5) fun _ M6 =>
some ((), (sI M6 8 4 (mI 1))))
else
(bd (fX4_officerOf x1 M) fun r7 M7 =>
some ((), (sI M7 8 4 r7))))
else
(bd (fX4_officerOf x1 M) fun r8 M8 =>
bd (fX3_gather r8 M8) fun _ M9 =>
some ((), M9))))
set_option maxHeartbeats 4000000 in
set_option maxRecDepth 100000 in
theorem mX3_take (l : Launch) {G : Rg} (hG : gS G = shX) {x1 : Int32}  {M Mf : Mm} {r : Unit} (hf : fX3_take x1 M = some (r, Mf)) : Mt l G yX3_take cX3_take 2 (none) 4 86 [.ref (gA G 8), .int x1] M none Mf := by
  refine Mt.of (by decide) (Nat.le_of_ble_eq_true rfl) ?_
  intro X C hX
  subst hX
  have C : cxX3_take G X := C
  show V G X 2 none Mf 0 [(0, .ref (gA G 8)), (1, .int x1)] [] M
  rw [fX3_take] at hf
  refine V.iload_n (pc := 0) C 1 rfl dX3_take_0 ?_
  refine V.bipush (pc := 1) C (nI 40) (by decide) dX3_take_1 ?_
  rcases it_some hf with ⟨h1, hf⟩ | ⟨h1, hf⟩
  · refine V.ic_neF (pc := 3) C 24 h1 (by decide) dX3_take_3 ?_
    refine V.aload_n (pc := 6) C 0 rfl dX3_take_6 ?_
    refine V.iconst (pc := 7) C (nI 1) (by decide) dX3_take_7 ?_
    refine V.putZ (pc := 8) C clX3 inX3 (sx_8 hG) 5 (by decide) wF_X3_35 tyX3 tyX3_ok nmX3 rfl (tyX3_ok 5 (by decide)) (Or.inr rfl) rfl dX3_take_8 ?_
    refine V.aload_n (pc := 11) C 0 rfl dX3_take_11 ?_
    refine V.iconst (pc := 12) C (nI 0) (by decide) dX3_take_12 ?_
    refine V.putI (pc := 13) C clX3 inX3 (sx_8 hG) 6 (by decide) wF_X3_52 tyX3 tyX3_ok nmX3 rfl (tyX3_ok 6 (by decide)) rfl dX3_take_13 ?_
    refine V.aload_n (pc := 16) C 0 rfl dX3_take_16 ?_
    refine V.iconst (pc := 17) C (nI 0) (by decide) dX3_take_17 ?_
    refine V.putZ (pc := 18) C clX3 inX3 (sx_8 hG) 7 (by decide) wF_X3_55 tyX3 tyX3_ok nmX3 rfl (tyX3_ok 7 (by decide)) (Or.inl rfl) rfl dX3_take_18 ?_
    refine V.goto (pc := 21) C 91 (by decide) dX3_take_21 ?_
    exact V.retV (pc := 91) C hf dX3_take_91
  · refine V.ic_neT (pc := 3) C 24 h1 (by decide) dX3_take_3 ?_
    refine V.iload_n (pc := 24) C 1 rfl dX3_take_24 ?_
    refine V.bipush (pc := 25) C (nI 41) (by decide) dX3_take_25 ?_
    rcases it_some hf with ⟨h2, hf⟩ | ⟨h2, hf⟩
    · refine V.ic_neF (pc := 27) C 42 h2 (by decide) dX3_take_27 ?_
      refine V.aload_n (pc := 30) C 0 rfl dX3_take_30 ?_
      refine V.iconst (pc := 31) C (nI 0) (by decide) dX3_take_31 ?_
      refine V.putZ (pc := 32) C clX3 inX3 (sx_8 hG) 5 (by decide) wF_X3_35 tyX3 tyX3_ok nmX3 rfl (tyX3_ok 5 (by decide)) (Or.inl rfl) rfl dX3_take_32 ?_
      refine V.aload_n (pc := 35) C 0 rfl dX3_take_35 ?_
      obtain ⟨_, M10, h10, hf⟩ := bd_some hf
      refine V.callVv (pc := 36) (As := []) (rest := []) C (mX3_endExchange X.2.1 hG  h10) mf_X3_endExchange clX3 (sx_8 hG) wM_X3_58 rfl rfl ⟨by decide, by decide⟩ (Nat.le_of_ble_eq_true rfl) dX3_take_36 ?_
      refine V.goto (pc := 39) C 91 (by decide) dX3_take_39 ?_
      exact V.retV (pc := 91) C hf dX3_take_91
    · refine V.ic_neT (pc := 27) C 42 h2 (by decide) dX3_take_27 ?_
      refine V.aload_n (pc := 42) C 0 rfl dX3_take_42 ?_
      refine V.getI (pc := 43) C clX3 inX3 (sx_8 hG) 5 (by decide) wF_X3_35 rfl dX3_take_43 ?_
      rcases it_some hf with ⟨h3, hf⟩ | ⟨h3, hf⟩
      · refine V.if_eqT (pc := 46) C 60 h3 (by decide) dX3_take_46 ?_
        refine V.aload_n (pc := 60) C 0 rfl dX3_take_60 ?_
        refine V.getI (pc := 61) C clX3 inX3 (sx_8 hG) 4 (by decide) wF_X3_32 rfl dX3_take_61 ?_
        rcases it_some hf with ⟨h4, hf⟩ | ⟨h4, hf⟩
        · refine V.if_geT (pc := 64) C 78 h4 (by decide) dX3_take_64 ?_
          refine V.aload_n (pc := 78) C 0 rfl dX3_take_78 ?_
          refine V.iload_n (pc := 79) C 1 rfl dX3_take_79 ?_
          obtain ⟨r5, M5, h5, hf⟩ := bd_some hf
          refine V.callSi (pc := 80) (As := [.int x1]) (rest := [.ref (gA G 8)]) C (mX4_deedOf X.2.1 hG  h5) mf_X4_deedOf wM_X3_68 rfl rfl ⟨by decide, by decide⟩ (Nat.le_of_ble_eq_true rfl) dX3_take_80 ?_
          obtain ⟨_, M6, h6, hf⟩ := bd_some hf
          refine V.callVv (pc := 83) (As := [.int r5]) (rest := []) C (mX3_endDeed X.2.1 hG  h6) mf_X3_endDeed clX3 (sx_8 hG) wM_X3_71 rfl rfl ⟨by decide, by decide⟩ (Nat.le_of_ble_eq_true rfl) dX3_take_83 ?_
          refine V.aload_n (pc := 86) C 0 rfl dX3_take_86 ?_
          refine V.iconst (pc := 87) C (mI 1) (by decide) dX3_take_87 ?_
          refine V.putI (pc := 88) C clX3 inX3 (sx_8 hG) 4 (by decide) wF_X3_32 tyX3 tyX3_ok nmX3 rfl (tyX3_ok 4 (by decide)) rfl dX3_take_88 ?_
          exact V.retV (pc := 91) C hf dX3_take_91
        · refine V.if_geF (pc := 64) C 78 h4 (by decide) dX3_take_64 ?_
          refine V.aload_n (pc := 67) C 0 rfl dX3_take_67 ?_
          refine V.iload_n (pc := 68) C 1 rfl dX3_take_68 ?_
          obtain ⟨r7, M7, h7, hf⟩ := bd_some hf
          refine V.callSi (pc := 69) (As := [.int x1]) (rest := [.ref (gA G 8)]) C (mX4_officerOf X.2.1 hG  h7) mf_X4_officerOf wM_X3_61 rfl rfl ⟨by decide, by decide⟩ (Nat.le_of_ble_eq_true rfl) dX3_take_69 ?_
          refine V.putI (pc := 72) C clX3 inX3 (sx_8 hG) 4 (by decide) wF_X3_32 tyX3 tyX3_ok nmX3 rfl (tyX3_ok 4 (by decide)) rfl dX3_take_72 ?_
          refine V.goto (pc := 75) C 91 (by decide) dX3_take_75 ?_
          exact V.retV (pc := 91) C hf dX3_take_91
      · refine V.if_eqF (pc := 46) C 60 h3 (by decide) dX3_take_46 ?_
        refine V.aload_n (pc := 49) C 0 rfl dX3_take_49 ?_
        refine V.iload_n (pc := 50) C 1 rfl dX3_take_50 ?_
        obtain ⟨r8, M8, h8, hf⟩ := bd_some hf
        refine V.callSi (pc := 51) (As := [.int x1]) (rest := [.ref (gA G 8)]) C (mX4_officerOf X.2.1 hG  h8) mf_X4_officerOf wM_X3_61 rfl rfl ⟨by decide, by decide⟩ (Nat.le_of_ble_eq_true rfl) dX3_take_51 ?_
        obtain ⟨_, M9, h9, hf⟩ := bd_some hf
        refine V.callVv (pc := 54) (As := [.int r8]) (rest := []) C (mX3_gather X.2.1 hG  h9) mf_X3_gather clX3 (sx_8 hG) wM_X3_65 rfl rfl ⟨by decide, by decide⟩ (Nat.le_of_ble_eq_true rfl) dX3_take_54 ?_
        refine V.goto (pc := 57) C 91 (by decide) dX3_take_57 ?_
        exact V.retV (pc := 91) C hf dX3_take_91
theorem dX3_read_0 : decode cX3_read 0 = .ok (.aload_n 0, 1) := by decide +kernel
theorem dX3_read_1 : decode cX3_read 1 = .ok (.getfield 12, 3) := by decide +kernel
theorem dX3_read_4 : decode cX3_read 4 = .ok (.aload_n 1, 1) := by decide +kernel
theorem dX3_read_5 : decode cX3_read 5 = .ok (.invokevirtual 18, 3) := by decide +kernel
theorem dX3_read_8 : decode cX3_read 8 = .ok (.aload_n 0, 1) := by decide +kernel
theorem dX3_read_9 : decode cX3_read 9 = .ok (.iconst 0, 1) := by decide +kernel
theorem dX3_read_10 : decode cX3_read 10 = .ok (.putfield 22, 3) := by decide +kernel
theorem dX3_read_13 : decode cX3_read 13 = .ok (.aload_n 0, 1) := by decide +kernel
theorem dX3_read_14 : decode cX3_read 14 = .ok (.iconst 0, 1) := by decide +kernel
theorem dX3_read_15 : decode cX3_read 15 = .ok (.putfield 26, 3) := by decide +kernel
theorem dX3_read_18 : decode cX3_read 18 = .ok (.aload_n 0, 1) := by decide +kernel
theorem dX3_read_19 : decode cX3_read 19 = .ok (.iconst 0, 1) := by decide +kernel
theorem dX3_read_20 : decode cX3_read 20 = .ok (.putfield 29, 3) := by decide +kernel
theorem dX3_read_23 : decode cX3_read 23 = .ok (.aload_n 0, 1) := by decide +kernel
theorem dX3_read_24 : decode cX3_read 24 = .ok (.iconst (-1), 1) := by decide +kernel
theorem dX3_read_25 : decode cX3_read 25 = .ok (.putfield 32, 3) := by decide +kernel
theorem dX3_read_28 : decode cX3_read 28 = .ok (.aload_n 0, 1) := by decide +kernel
theorem dX3_read_29 : decode cX3_read 29 = .ok (.iconst 0, 1) := by decide +kernel
theorem dX3_read_30 : decode cX3_read 30 = .ok (.putfield 35, 3) := by decide +kernel
theorem dX3_read_33 : decode cX3_read 33 = .ok (.iconst 0, 1) := by decide +kernel
theorem dX3_read_34 : decode cX3_read 34 = .ok (.istore_n 3, 1) := by decide +kernel
theorem dX3_read_35 : decode cX3_read 35 = .ok (.iload_n 3, 1) := by decide +kernel
theorem dX3_read_36 : decode cX3_read 36 = .ok (.aload_n 2, 1) := by decide +kernel
theorem dX3_read_37 : decode cX3_read 37 = .ok (.getfield 39, 3) := by decide +kernel
theorem dX3_read_40 : decode cX3_read 40 = .ok (.if_icmp .ge 26, 3) := by decide +kernel
theorem dX3_read_43 : decode cX3_read 43 = .ok (.aload_n 0, 1) := by decide +kernel
theorem dX3_read_44 : decode cX3_read 44 = .ok (.getfield 29, 3) := by decide +kernel
theorem dX3_read_47 : decode cX3_read 47 = .ok (.ifCond .ne 19, 3) := by decide +kernel
theorem dX3_read_50 : decode cX3_read 50 = .ok (.aload_n 0, 1) := by decide +kernel
theorem dX3_read_51 : decode cX3_read 51 = .ok (.aload_n 2, 1) := by decide +kernel
theorem dX3_read_52 : decode cX3_read 52 = .ok (.getfield 44, 3) := by decide +kernel
theorem dX3_read_55 : decode cX3_read 55 = .ok (.iload_n 3, 1) := by decide +kernel
theorem dX3_read_56 : decode cX3_read 56 = .ok (.iaload, 1) := by decide +kernel
theorem dX3_read_57 : decode cX3_read 57 = .ok (.invokevirtual 48, 3) := by decide +kernel
theorem dX3_read_60 : decode cX3_read 60 = .ok (.iinc 3 1, 3) := by decide +kernel
theorem dX3_read_63 : decode cX3_read 63 = .ok (.goto (-28), 3) := by decide +kernel
theorem dX3_read_66 : decode cX3_read 66 = .ok (.return_, 1) := by decide +kernel
abbrev cxX3_read (G : Rg) (X : Ct) : Prop := Cx G X cX3_read 4 RX3 (none) 5 107 (Cond.code yX3_read cX3_read 4 (none))
def fX3_read_b35  (c1 : Nat) : Nat → Int32 → Mm → Option (Unit × Mm)
  | 0, _, _ => none
  | n + 1, v3, M =>
    if (M.1 6 1) ≤ v3 then
    (some ((), M))
    else
    (if (M.1 8 3) = (nI 0) then
    (gd (inb v3 60) (
    bd (fX3_take (M.1 7 v3.toNatClampNeg) M) fun _ M4 =>
    fX3_read_b35 c1 n (v3 + (nI 1)) M4))
    else
    (some ((), M)))
set_option maxHeartbeats 4000000 in
set_option maxRecDepth 100000 in
theorem vX3_read_b35 {G : Rg} {X : Ct} {r : Unit} {Mf : Mm} {c1 : Nat}  (C : cxX3_read G X) (hG : gS G = shX) (hB1 : isB G c1)  : ∀ (n : Nat) (v3 : Int32) (M : Mm), fX3_read_b35 c1 n v3 M = some (r, Mf) → V G X 4 none Mf 35 [(0, .ref (gA G 8)), (2, .ref (gA G 6)), (3, .int v3)] [] M := by
  intro n
  induction n with
  | zero => intro v3 M hf; rw [fX3_read_b35] at hf; cases hf
  | succ n ih =>
    intro v3 M hf
    rw [fX3_read_b35] at hf
    refine V.iload_n (pc := 35) C 2 rfl dX3_read_35 ?_
    refine V.aload_n (pc := 36) C 1 rfl dX3_read_36 ?_
    refine V.getI (pc := 37) C clX4 inX4 (sx_6 hG) 1 (by decide) wF_X3_39 rfl dX3_read_37 ?_
    rcases it_some hf with ⟨h1, hf⟩ | ⟨h1, hf⟩
    · refine V.ic_geT (pc := 40) C 66 h1 (by decide) dX3_read_40 ?_
      exact V.retV (pc := 66) C hf dX3_read_66
    · refine V.ic_geF (pc := 40) C 66 h1 (by decide) dX3_read_40 ?_
      refine V.aload_n (pc := 43) C 0 rfl dX3_read_43 ?_
      refine V.getI (pc := 44) C clX3 inX3 (sx_8 hG) 3 (by decide) wF_X3_29 rfl dX3_read_44 ?_
      rcases it_some hf with ⟨h2, hf⟩ | ⟨h2, hf⟩
      · refine V.if_neF (pc := 47) C 66 h2 (by decide) dX3_read_47 ?_
        refine V.aload_n (pc := 50) C 0 rfl dX3_read_50 ?_
        refine V.aload_n (pc := 51) C 1 rfl dX3_read_51 ?_
        refine V.getR (pc := 52) C clX4 inX4 (sx_6 hG) 0 (by decide) wF_X3_44 rfl dX3_read_52 ?_
        refine V.iload_n (pc := 55) C 2 rfl dX3_read_55 ?_
        obtain ⟨g3, hf⟩ := gd_some hf
        refine V.iald (pc := 56) C (sx_7 hG) (inb_in g3) dX3_read_56 ?_
        obtain ⟨_, M4, h4, hf⟩ := bd_some hf
        refine V.callVv (pc := 57) (As := [.int (M.1 7 v3.toNatClampNeg)]) (rest := []) C (mX3_take X.2.1 hG  h4) mf_X3_take clX3 (sx_8 hG) wM_X3_48 rfl rfl ⟨by decide, by decide⟩ (Nat.le_of_ble_eq_true rfl) dX3_read_57 ?_
        refine V.iinc (pc := 60) (lv' := [(3, .int (v3 + (nI 1))), (0, .ref (gA G 8)), (2, .ref (gA G 6))]) C (v3 + (nI 1)) 2 rfl rfl (by decide) rfl dX3_read_60 ?_
        refine V.goto (pc := 63) C 35 (by decide) dX3_read_63 ?_
        refine V.sub C [1, 2, 0] (lv' := [(0, .ref (gA G 8)), (2, .ref (gA G 6)), (3, .int (v3 + (nI 1)))]) rfl ?_
        exact ih _ _ hf
      · refine V.if_neT (pc := 47) C 66 h2 (by decide) dX3_read_47 ?_
        exact V.retV (pc := 66) C hf dX3_read_66
def fX3_read (c1 : Nat) (M : Mm) : Option (Unit × Mm) :=
bd (fX0_copyFrom 9 c1 M) fun _ M1 =>
fX3_read_b35 c1 fu (nI 0) (sI (sI (sI (sI (sI M1 8 1 (nI 0)) 8 2 (nI 0)) 8 3 (nI 0)) 8 4 (mI 1)) 8 5 (nI 0))
set_option maxHeartbeats 4000000 in
set_option maxRecDepth 100000 in
theorem mX3_read (l : Launch) {G : Rg} (hG : gS G = shX) {c1 : Nat} (hB1 : isB G c1) {M Mf : Mm} {r : Unit} (hf : fX3_read c1 M = some (r, Mf)) : Mt l G yX3_read cX3_read 4 (none) 5 107 [.ref (gA G 8), .ref (gA G c1), .ref (gA G 6)] M none Mf := by
  refine Mt.of (by decide) (Nat.le_of_ble_eq_true rfl) ?_
  intro X C hX
  subst hX
  have C : cxX3_read G X := C
  show V G X 4 none Mf 0 [(0, .ref (gA G 8)), (1, .ref (gA G c1)), (2, .ref (gA G 6))] [] M
  rw [fX3_read] at hf
  refine V.aload_n (pc := 0) C 0 rfl dX3_read_0 ?_
  refine V.getR (pc := 1) C clX3 inX3 (sx_8 hG) 0 (by decide) wF_X3_12 rfl dX3_read_1 ?_
  refine V.aload_n (pc := 4) C 1 rfl dX3_read_4 ?_
  obtain ⟨_, M1, h1, hf⟩ := bd_some hf
  refine V.callVv (pc := 5) (As := [.ref (gA G c1)]) (rest := []) C (mX0_copyFrom X.2.1 hG (bx_9 hG) hB1 h1) mf_X0_copyFrom clX0 (sx_9 hG) wM_X3_18 rfl rfl ⟨by decide, by decide⟩ (Nat.le_of_ble_eq_true rfl) dX3_read_5 ?_
  refine V.aload_n (pc := 8) C 0 rfl dX3_read_8 ?_
  refine V.iconst (pc := 9) C (nI 0) (by decide) dX3_read_9 ?_
  refine V.putI (pc := 10) C clX3 inX3 (sx_8 hG) 1 (by decide) wF_X3_22 tyX3 tyX3_ok nmX3 rfl (tyX3_ok 1 (by decide)) rfl dX3_read_10 ?_
  refine V.aload_n (pc := 13) C 0 rfl dX3_read_13 ?_
  refine V.iconst (pc := 14) C (nI 0) (by decide) dX3_read_14 ?_
  refine V.putI (pc := 15) C clX3 inX3 (sx_8 hG) 2 (by decide) wF_X3_26 tyX3 tyX3_ok nmX3 rfl (tyX3_ok 2 (by decide)) rfl dX3_read_15 ?_
  refine V.aload_n (pc := 18) C 0 rfl dX3_read_18 ?_
  refine V.iconst (pc := 19) C (nI 0) (by decide) dX3_read_19 ?_
  refine V.putI (pc := 20) C clX3 inX3 (sx_8 hG) 3 (by decide) wF_X3_29 tyX3 tyX3_ok nmX3 rfl (tyX3_ok 3 (by decide)) rfl dX3_read_20 ?_
  refine V.aload_n (pc := 23) C 0 rfl dX3_read_23 ?_
  refine V.iconst (pc := 24) C (mI 1) (by decide) dX3_read_24 ?_
  refine V.putI (pc := 25) C clX3 inX3 (sx_8 hG) 4 (by decide) wF_X3_32 tyX3 tyX3_ok nmX3 rfl (tyX3_ok 4 (by decide)) rfl dX3_read_25 ?_
  refine V.aload_n (pc := 28) C 0 rfl dX3_read_28 ?_
  refine V.iconst (pc := 29) C (nI 0) (by decide) dX3_read_29 ?_
  refine V.putZ (pc := 30) C clX3 inX3 (sx_8 hG) 5 (by decide) wF_X3_35 tyX3 tyX3_ok nmX3 rfl (tyX3_ok 5 (by decide)) (Or.inl rfl) rfl dX3_read_30 ?_
  refine V.iconst (pc := 33) C (nI 0) (by decide) dX3_read_33 ?_
  refine V.istore_n (pc := 34) (lv' := [(3, .int (nI 0)), (0, .ref (gA G 8)), (1, .ref (gA G c1)), (2, .ref (gA G 6))]) C (by decide) rfl dX3_read_34 ?_
  refine V.sub C [1, 3, 0] (lv' := [(0, .ref (gA G 8)), (2, .ref (gA G 6)), (3, .int (nI 0))]) rfl ?_
  exact vX3_read_b35 C hG hB1  fu _ _ hf
theorem dX8_readMonths_0 : decode cX8_readMonths 0 = .ok (.aload_n 0, 1) := by decide +kernel
theorem dX8_readMonths_1 : decode cX8_readMonths 1 = .ok (.getfield 19, 3) := by decide +kernel
theorem dX8_readMonths_4 : decode cX8_readMonths 4 = .ok (.invokevirtual 109, 3) := by decide +kernel
theorem dX8_readMonths_7 : decode cX8_readMonths 7 = .ok (.bipush (-6), 2) := by decide +kernel
theorem dX8_readMonths_9 : decode cX8_readMonths 9 = .ok (.if_icmp .eq 6, 3) := by decide +kernel
theorem dX8_readMonths_12 : decode cX8_readMonths 12 = .ok (.bipush (-5), 2) := by decide +kernel
theorem dX8_readMonths_14 : decode cX8_readMonths 14 = .ok (.ireturn, 1) := by decide +kernel
theorem dX8_readMonths_15 : decode cX8_readMonths 15 = .ok (.aload_n 0, 1) := by decide +kernel
theorem dX8_readMonths_16 : decode cX8_readMonths 16 = .ok (.getfield 26, 3) := by decide +kernel
theorem dX8_readMonths_19 : decode cX8_readMonths 19 = .ok (.aload_n 0, 1) := by decide +kernel
theorem dX8_readMonths_20 : decode cX8_readMonths 20 = .ok (.getfield 12, 3) := by decide +kernel
theorem dX8_readMonths_23 : decode cX8_readMonths 23 = .ok (.aload_n 0, 1) := by decide +kernel
theorem dX8_readMonths_24 : decode cX8_readMonths 24 = .ok (.getfield 19, 3) := by decide +kernel
theorem dX8_readMonths_27 : decode cX8_readMonths 27 = .ok (.invokevirtual 254, 3) := by decide +kernel
theorem dX8_readMonths_30 : decode cX8_readMonths 30 = .ok (.aload_n 0, 1) := by decide +kernel
theorem dX8_readMonths_31 : decode cX8_readMonths 31 = .ok (.getfield 26, 3) := by decide +kernel
theorem dX8_readMonths_34 : decode cX8_readMonths 34 = .ok (.getfield 258, 3) := by decide +kernel
theorem dX8_readMonths_37 : decode cX8_readMonths 37 = .ok (.ifCond .ne 7, 3) := by decide +kernel
theorem dX8_readMonths_40 : decode cX8_readMonths 40 = .ok (.iconst 0, 1) := by decide +kernel
theorem dX8_readMonths_41 : decode cX8_readMonths 41 = .ok (.goto 5, 3) := by decide +kernel
theorem dX8_readMonths_44 : decode cX8_readMonths 44 = .ok (.bipush (-3), 2) := by decide +kernel
theorem dX8_readMonths_46 : decode cX8_readMonths 46 = .ok (.ireturn, 1) := by decide +kernel
abbrev cxX8_readMonths (G : Rg) (X : Ct) : Prop := Cx G X cX8_readMonths 1 RX8 (some .int) 6 130 (Cond.code yX8_readMonths cX8_readMonths 1 (some .int))
def fX8_readMonths  (M : Mm) : Option (Int32 × Mm) :=
bd (fX4_firstFault M) fun r1 M1 =>
if r1 = (mI 6) then
(bd (fX3_read 1 M1) fun _ M3 =>
if (M3.1 8 3) = (nI 0) then
(some ((nI 0), M3))
else
(some ((mI 3), M3)))
else
(some ((mI 5), M1))
set_option maxHeartbeats 4000000 in
set_option maxRecDepth 100000 in
theorem mX8_readMonths (l : Launch) {G : Rg} (hG : gS G = shX)   {M Mf : Mm} {r : Int32} (hf : fX8_readMonths  M = some (r, Mf)) : Mt l G yX8_readMonths cX8_readMonths 1 (some .int) 6 130 [.ref (gA G 0)] M (some (.int r)) Mf := by
  refine Mt.of (by decide) (Nat.le_of_ble_eq_true rfl) ?_
  intro X C hX
  subst hX
  have C : cxX8_readMonths G X := C
  show V G X 1 (some (.int r)) Mf 0 [(0, .ref (gA G 0))] [] M
  rw [fX8_readMonths] at hf
  refine V.aload_n (pc := 0) C 0 rfl dX8_readMonths_0 ?_
  refine V.getR (pc := 1) C clX8 inX8 (sx_0 hG) 1 (by decide) wF_X8_19 rfl dX8_readMonths_1 ?_
  obtain ⟨r1, M1, h1, hf⟩ := bd_some hf
  refine V.callVi (pc := 4) (As := []) (rest := []) C (mX4_firstFault X.2.1 hG  h1) mf_X4_firstFault clX4 (sx_6 hG) wM_X8_109 rfl rfl ⟨by decide, by decide⟩ (Nat.le_of_ble_eq_true rfl) dX8_readMonths_4 ?_
  refine V.bipush (pc := 7) C (mI 6) (by decide) dX8_readMonths_7 ?_
  rcases it_some hf with ⟨h2, hf⟩ | ⟨h2, hf⟩
  · refine V.ic_eqT (pc := 9) C 15 h2 (by decide) dX8_readMonths_9 ?_
    refine V.aload_n (pc := 15) C 0 rfl dX8_readMonths_15 ?_
    refine V.getR (pc := 16) C clX8 inX8 (sx_0 hG) 2 (by decide) wF_X8_26 rfl dX8_readMonths_16 ?_
    refine V.aload_n (pc := 19) C 0 rfl dX8_readMonths_19 ?_
    refine V.getR (pc := 20) C clX8 inX8 (sx_0 hG) 0 (by decide) wF_X8_12 rfl dX8_readMonths_20 ?_
    refine V.aload_n (pc := 23) C 0 rfl dX8_readMonths_23 ?_
    refine V.getR (pc := 24) C clX8 inX8 (sx_0 hG) 1 (by decide) wF_X8_19 rfl dX8_readMonths_24 ?_
    obtain ⟨_, M3, h3, hf⟩ := bd_some hf
    refine V.callVv (pc := 27) (As := [.ref (gA G 1), .ref (gA G 6)]) (rest := []) C (mX3_read X.2.1 hG (bx_1 hG) h3) mf_X3_read clX3 (sx_8 hG) wM_X8_254 rfl rfl ⟨by decide, by decide⟩ (Nat.le_of_ble_eq_true rfl) dX8_readMonths_27 ?_
    refine V.aload_n (pc := 30) C 0 rfl dX8_readMonths_30 ?_
    refine V.getR (pc := 31) C clX8 inX8 (sx_0 hG) 2 (by decide) wF_X8_26 rfl dX8_readMonths_31 ?_
    refine V.getI (pc := 34) C clX3 inX3 (sx_8 hG) 3 (by decide) wF_X8_258 rfl dX8_readMonths_34 ?_
    rcases it_some hf with ⟨h4, hf⟩ | ⟨h4, hf⟩
    · refine V.if_neF (pc := 37) C 44 h4 (by decide) dX8_readMonths_37 ?_
      refine V.iconst (pc := 40) C (nI 0) (by decide) dX8_readMonths_40 ?_
      refine V.goto (pc := 41) C 46 (by decide) dX8_readMonths_41 ?_
      exact V.retI (pc := 46) C hf dX8_readMonths_46
    · refine V.if_neT (pc := 37) C 44 h4 (by decide) dX8_readMonths_37 ?_
      refine V.bipush (pc := 44) C (mI 3) (by decide) dX8_readMonths_44 ?_
      exact V.retI (pc := 46) C hf dX8_readMonths_46
  · refine V.ic_eqF (pc := 9) C 15 h2 (by decide) dX8_readMonths_9 ?_
    refine V.bipush (pc := 12) C (mI 5) (by decide) dX8_readMonths_12 ?_
    exact V.retI (pc := 14) C hf dX8_readMonths_14
theorem dX3_failedAct_0 : decode cX3_failedAct 0 = .ok (.aload_n 0, 1) := by decide +kernel
theorem dX3_failedAct_1 : decode cX3_failedAct 1 = .ok (.getfield 29, 3) := by decide +kernel
theorem dX3_failedAct_4 : decode cX3_failedAct 4 = .ok (.ifCond .ne 8, 3) := by decide +kernel
theorem dX3_failedAct_7 : decode cX3_failedAct 7 = .ok (.bipush (-6), 2) := by decide +kernel
theorem dX3_failedAct_9 : decode cX3_failedAct 9 = .ok (.goto 7, 3) := by decide +kernel
theorem dX3_failedAct_12 : decode cX3_failedAct 12 = .ok (.aload_n 0, 1) := by decide +kernel
theorem dX3_failedAct_13 : decode cX3_failedAct 13 = .ok (.getfield 22, 3) := by decide +kernel
theorem dX3_failedAct_16 : decode cX3_failedAct 16 = .ok (.ireturn, 1) := by decide +kernel
abbrev cxX3_failedAct (G : Rg) (X : Ct) : Prop := Cx G X cX3_failedAct 1 RX3 (some .int) 0 0 (Cond.code yX3_failedAct cX3_failedAct 1 (some .int))
def fX3_failedAct  (M : Mm) : Option (Int32 × Mm) :=
if (M.1 8 3) = (nI 0) then
(some ((mI 6), M))
else
(some ((M.1 8 1), M))
set_option maxHeartbeats 4000000 in
set_option maxRecDepth 100000 in
theorem mX3_failedAct (l : Launch) {G : Rg} (hG : gS G = shX)   {M Mf : Mm} {r : Int32} (hf : fX3_failedAct  M = some (r, Mf)) : Mt l G yX3_failedAct cX3_failedAct 1 (some .int) 0 0 [.ref (gA G 8)] M (some (.int r)) Mf := by
  refine Mt.of (by decide) (Nat.le_of_ble_eq_true rfl) ?_
  intro X C hX
  subst hX
  have C : cxX3_failedAct G X := C
  show V G X 1 (some (.int r)) Mf 0 [(0, .ref (gA G 8))] [] M
  rw [fX3_failedAct] at hf
  refine V.aload_n (pc := 0) C 0 rfl dX3_failedAct_0 ?_
  refine V.getI (pc := 1) C clX3 inX3 (sx_8 hG) 3 (by decide) wF_X3_29 rfl dX3_failedAct_1 ?_
  rcases it_some hf with ⟨h1, hf⟩ | ⟨h1, hf⟩
  · refine V.if_neF (pc := 4) C 12 h1 (by decide) dX3_failedAct_4 ?_
    refine V.bipush (pc := 7) C (mI 6) (by decide) dX3_failedAct_7 ?_
    refine V.goto (pc := 9) C 16 (by decide) dX3_failedAct_9 ?_
    exact V.retI (pc := 16) C hf dX3_failedAct_16
  · refine V.if_neT (pc := 4) C 12 h1 (by decide) dX3_failedAct_4 ?_
    refine V.aload_n (pc := 12) C 0 rfl dX3_failedAct_12 ?_
    refine V.getI (pc := 13) C clX3 inX3 (sx_8 hG) 1 (by decide) wF_X3_22 rfl dX3_failedAct_13 ?_
    exact V.retI (pc := 16) C hf dX3_failedAct_16
theorem dX3_failedWhy_0 : decode cX3_failedWhy 0 = .ok (.aload_n 0, 1) := by decide +kernel
theorem dX3_failedWhy_1 : decode cX3_failedWhy 1 = .ok (.getfield 29, 3) := by decide +kernel
theorem dX3_failedWhy_4 : decode cX3_failedWhy 4 = .ok (.ifCond .ne 8, 3) := by decide +kernel
theorem dX3_failedWhy_7 : decode cX3_failedWhy 7 = .ok (.bipush (-6), 2) := by decide +kernel
theorem dX3_failedWhy_9 : decode cX3_failedWhy 9 = .ok (.goto 7, 3) := by decide +kernel
theorem dX3_failedWhy_12 : decode cX3_failedWhy 12 = .ok (.aload_n 0, 1) := by decide +kernel
theorem dX3_failedWhy_13 : decode cX3_failedWhy 13 = .ok (.getfield 29, 3) := by decide +kernel
theorem dX3_failedWhy_16 : decode cX3_failedWhy 16 = .ok (.ireturn, 1) := by decide +kernel
abbrev cxX3_failedWhy (G : Rg) (X : Ct) : Prop := Cx G X cX3_failedWhy 1 RX3 (some .int) 0 0 (Cond.code yX3_failedWhy cX3_failedWhy 1 (some .int))
def fX3_failedWhy  (M : Mm) : Option (Int32 × Mm) :=
if (M.1 8 3) = (nI 0) then
(some ((mI 6), M))
else
(some ((M.1 8 3), M))
set_option maxHeartbeats 4000000 in
set_option maxRecDepth 100000 in
theorem mX3_failedWhy (l : Launch) {G : Rg} (hG : gS G = shX)   {M Mf : Mm} {r : Int32} (hf : fX3_failedWhy  M = some (r, Mf)) : Mt l G yX3_failedWhy cX3_failedWhy 1 (some .int) 0 0 [.ref (gA G 8)] M (some (.int r)) Mf := by
  refine Mt.of (by decide) (Nat.le_of_ble_eq_true rfl) ?_
  intro X C hX
  subst hX
  have C : cxX3_failedWhy G X := C
  show V G X 1 (some (.int r)) Mf 0 [(0, .ref (gA G 8))] [] M
  rw [fX3_failedWhy] at hf
  refine V.aload_n (pc := 0) C 0 rfl dX3_failedWhy_0 ?_
  refine V.getI (pc := 1) C clX3 inX3 (sx_8 hG) 3 (by decide) wF_X3_29 rfl dX3_failedWhy_1 ?_
  rcases it_some hf with ⟨h1, hf⟩ | ⟨h1, hf⟩
  · refine V.if_neF (pc := 4) C 12 h1 (by decide) dX3_failedWhy_4 ?_
    refine V.bipush (pc := 7) C (mI 6) (by decide) dX3_failedWhy_7 ?_
    refine V.goto (pc := 9) C 16 (by decide) dX3_failedWhy_9 ?_
    exact V.retI (pc := 16) C hf dX3_failedWhy_16
  · refine V.if_neT (pc := 4) C 12 h1 (by decide) dX3_failedWhy_4 ?_
    refine V.aload_n (pc := 12) C 0 rfl dX3_failedWhy_12 ?_
    refine V.getI (pc := 13) C clX3 inX3 (sx_8 hG) 3 (by decide) wF_X3_29 rfl dX3_failedWhy_13 ?_
    exact V.retI (pc := 16) C hf dX3_failedWhy_16
theorem dX8_judge_0 : decode cX8_judge 0 = .ok (.iload_n 1, 1) := by decide +kernel
theorem dX8_judge_1 : decode cX8_judge 1 = .ok (.iconst 0, 1) := by decide +kernel
theorem dX8_judge_2 : decode cX8_judge 2 = .ok (.iconst 2, 1) := by decide +kernel
theorem dX8_judge_3 : decode cX8_judge 3 = .ok (.invokestatic 73, 3) := by decide +kernel
theorem dX8_judge_6 : decode cX8_judge 6 = .ok (.ifCond .ne 6, 3) := by decide +kernel
theorem dX8_judge_9 : decode cX8_judge 9 = .ok (.bipush (-2), 2) := by decide +kernel
theorem dX8_judge_11 : decode cX8_judge 11 = .ok (.ireturn, 1) := by decide +kernel
theorem dX8_judge_12 : decode cX8_judge 12 = .ok (.aload_n 0, 1) := by decide +kernel
theorem dX8_judge_13 : decode cX8_judge 13 = .ok (.invokevirtual 113, 3) := by decide +kernel
theorem dX8_judge_16 : decode cX8_judge 16 = .ok (.istore_n 2, 1) := by decide +kernel
theorem dX8_judge_17 : decode cX8_judge 17 = .ok (.iload_n 2, 1) := by decide +kernel
theorem dX8_judge_18 : decode cX8_judge 18 = .ok (.bipush (-5), 2) := by decide +kernel
theorem dX8_judge_20 : decode cX8_judge 20 = .ok (.if_icmp .ne 6, 3) := by decide +kernel
theorem dX8_judge_23 : decode cX8_judge 23 = .ok (.bipush (-5), 2) := by decide +kernel
theorem dX8_judge_25 : decode cX8_judge 25 = .ok (.ireturn, 1) := by decide +kernel
theorem dX8_judge_26 : decode cX8_judge 26 = .ok (.iload_n 1, 1) := by decide +kernel
theorem dX8_judge_27 : decode cX8_judge 27 = .ok (.ifCond .ne 11, 3) := by decide +kernel
theorem dX8_judge_30 : decode cX8_judge 30 = .ok (.aload_n 0, 1) := by decide +kernel
theorem dX8_judge_31 : decode cX8_judge 31 = .ok (.getfield 26, 3) := by decide +kernel
theorem dX8_judge_34 : decode cX8_judge 34 = .ok (.invokevirtual 116, 3) := by decide +kernel
theorem dX8_judge_37 : decode cX8_judge 37 = .ok (.ireturn, 1) := by decide +kernel
theorem dX8_judge_38 : decode cX8_judge 38 = .ok (.iload_n 1, 1) := by decide +kernel
theorem dX8_judge_39 : decode cX8_judge 39 = .ok (.iconst 1, 1) := by decide +kernel
theorem dX8_judge_40 : decode cX8_judge 40 = .ok (.if_icmp .ne 11, 3) := by decide +kernel
theorem dX8_judge_43 : decode cX8_judge 43 = .ok (.aload_n 0, 1) := by decide +kernel
theorem dX8_judge_44 : decode cX8_judge 44 = .ok (.getfield 26, 3) := by decide +kernel
theorem dX8_judge_47 : decode cX8_judge 47 = .ok (.invokevirtual 119, 3) := by decide +kernel
theorem dX8_judge_50 : decode cX8_judge 50 = .ok (.ireturn, 1) := by decide +kernel
theorem dX8_judge_51 : decode cX8_judge 51 = .ok (.iload_n 2, 1) := by decide +kernel
theorem dX8_judge_52 : decode cX8_judge 52 = .ok (.bipush (-3), 2) := by decide +kernel
theorem dX8_judge_54 : decode cX8_judge 54 = .ok (.if_icmp .ne 8, 3) := by decide +kernel
theorem dX8_judge_57 : decode cX8_judge 57 = .ok (.bipush (-3), 2) := by decide +kernel
theorem dX8_judge_59 : decode cX8_judge 59 = .ok (.goto 10, 3) := by decide +kernel
theorem dX8_judge_62 : decode cX8_judge 62 = .ok (.aload_n 0, 1) := by decide +kernel
theorem dX8_judge_63 : decode cX8_judge 63 = .ok (.getfield 26, 3) := by decide +kernel
theorem dX8_judge_66 : decode cX8_judge 66 = .ok (.getfield 122, 3) := by decide +kernel
theorem dX8_judge_69 : decode cX8_judge 69 = .ok (.ireturn, 1) := by decide +kernel
abbrev cxX8_judge (G : Rg) (X : Ct) : Prop := Cx G X cX8_judge 3 RX8 (some .int) 7 150 (Cond.code yX8_judge cX8_judge 3 (some .int))
def fX8_judge (x1 : Int32) (M : Mm) : Option (Int32 × Mm) :=
bd (fX8_isWithin x1 (nI 0) (nI 2) M) fun r1 M1 =>
if r1 = (nI 0) then
(some ((mI 2), M1))
else
(bd (fX8_readMonths M1) fun r3 M3 =>
if r3 = (mI 5) then
(some ((mI 5), M3))
else
(if x1 = (nI 0) then
(bd (fX3_failedAct M3) fun r9 M9 =>
some (r9, M9))
else
(if x1 = (nI 1) then
(bd (fX3_failedWhy M3) fun r8 M8 =>
some (r8, M8))
else
(if r3 = (mI 3) then
(some ((mI 3), M3))
else
(some ((M3.1 8 2), M3))))))
set_option maxHeartbeats 4000000 in
set_option maxRecDepth 100000 in
theorem mX8_judge (l : Launch) {G : Rg} (hG : gS G = shX) {x1 : Int32}  {M Mf : Mm} {r : Int32} (hf : fX8_judge x1 M = some (r, Mf)) : Mt l G yX8_judge cX8_judge 3 (some .int) 7 150 [.ref (gA G 0), .int x1] M (some (.int r)) Mf := by
  refine Mt.of (by decide) (Nat.le_of_ble_eq_true rfl) ?_
  intro X C hX
  subst hX
  have C : cxX8_judge G X := C
  show V G X 3 (some (.int r)) Mf 0 [(0, .ref (gA G 0)), (1, .int x1)] [] M
  rw [fX8_judge] at hf
  refine V.iload_n (pc := 0) C 1 rfl dX8_judge_0 ?_
  refine V.iconst (pc := 1) C (nI 0) (by decide) dX8_judge_1 ?_
  refine V.iconst (pc := 2) C (nI 2) (by decide) dX8_judge_2 ?_
  obtain ⟨r1, M1, h1, hf⟩ := bd_some hf
  refine V.callSi (pc := 3) (As := [.int x1, .int (nI 0), .int (nI 2)]) (rest := []) C (mX8_isWithin X.2.1 hG  h1) mf_X8_isWithin wM_X8_73 rfl rfl ⟨by decide, by decide⟩ (Nat.le_of_ble_eq_true rfl) dX8_judge_3 ?_
  rcases it_some hf with ⟨h2, hf⟩ | ⟨h2, hf⟩
  · refine V.if_neF (pc := 6) C 12 h2 (by decide) dX8_judge_6 ?_
    refine V.bipush (pc := 9) C (mI 2) (by decide) dX8_judge_9 ?_
    exact V.retI (pc := 11) C hf dX8_judge_11
  · refine V.if_neT (pc := 6) C 12 h2 (by decide) dX8_judge_6 ?_
    refine V.aload_n (pc := 12) C 0 rfl dX8_judge_12 ?_
    obtain ⟨r3, M3, h3, hf⟩ := bd_some hf
    refine V.callVi (pc := 13) (As := []) (rest := []) C (mX8_readMonths X.2.1 hG  h3) mf_X8_readMonths clX8 (sx_0 hG) wM_X8_113 rfl rfl ⟨by decide, by decide⟩ (Nat.le_of_ble_eq_true rfl) dX8_judge_13 ?_
    refine V.istore_n (pc := 16) (lv' := [(2, .int r3), (0, .ref (gA G 0)), (1, .int x1)]) C (by decide) rfl dX8_judge_16 ?_
    refine V.iload_n (pc := 17) C 0 rfl dX8_judge_17 ?_
    refine V.bipush (pc := 18) C (mI 5) (by decide) dX8_judge_18 ?_
    rcases it_some hf with ⟨h4, hf⟩ | ⟨h4, hf⟩
    · refine V.ic_neF (pc := 20) C 26 h4 (by decide) dX8_judge_20 ?_
      refine V.bipush (pc := 23) C (mI 5) (by decide) dX8_judge_23 ?_
      exact V.retI (pc := 25) C hf dX8_judge_25
    · refine V.ic_neT (pc := 20) C 26 h4 (by decide) dX8_judge_20 ?_
      refine V.iload_n (pc := 26) C 2 rfl dX8_judge_26 ?_
      rcases it_some hf with ⟨h5, hf⟩ | ⟨h5, hf⟩
      · refine V.if_neF (pc := 27) C 38 h5 (by decide) dX8_judge_27 ?_
        refine V.aload_n (pc := 30) C 1 rfl dX8_judge_30 ?_
        refine V.getR (pc := 31) C clX8 inX8 (sx_0 hG) 2 (by decide) wF_X8_26 rfl dX8_judge_31 ?_
        obtain ⟨r9, M9, h9, hf⟩ := bd_some hf
        refine V.callVi (pc := 34) (As := []) (rest := []) C (mX3_failedAct X.2.1 hG  h9) mf_X3_failedAct clX3 (sx_8 hG) wM_X8_116 rfl rfl ⟨by decide, by decide⟩ (Nat.le_of_ble_eq_true rfl) dX8_judge_34 ?_
        exact V.retI (pc := 37) C hf dX8_judge_37
      · refine V.if_neT (pc := 27) C 38 h5 (by decide) dX8_judge_27 ?_
        refine V.iload_n (pc := 38) C 2 rfl dX8_judge_38 ?_
        refine V.iconst (pc := 39) C (nI 1) (by decide) dX8_judge_39 ?_
        rcases it_some hf with ⟨h6, hf⟩ | ⟨h6, hf⟩
        · refine V.ic_neF (pc := 40) C 51 h6 (by decide) dX8_judge_40 ?_
          refine V.aload_n (pc := 43) C 1 rfl dX8_judge_43 ?_
          refine V.getR (pc := 44) C clX8 inX8 (sx_0 hG) 2 (by decide) wF_X8_26 rfl dX8_judge_44 ?_
          obtain ⟨r8, M8, h8, hf⟩ := bd_some hf
          refine V.callVi (pc := 47) (As := []) (rest := []) C (mX3_failedWhy X.2.1 hG  h8) mf_X3_failedWhy clX3 (sx_8 hG) wM_X8_119 rfl rfl ⟨by decide, by decide⟩ (Nat.le_of_ble_eq_true rfl) dX8_judge_47 ?_
          exact V.retI (pc := 50) C hf dX8_judge_50
        · refine V.ic_neT (pc := 40) C 51 h6 (by decide) dX8_judge_40 ?_
          refine V.iload_n (pc := 51) C 0 rfl dX8_judge_51 ?_
          refine V.bipush (pc := 52) C (mI 3) (by decide) dX8_judge_52 ?_
          rcases it_some hf with ⟨h7, hf⟩ | ⟨h7, hf⟩
          · refine V.ic_neF (pc := 54) C 62 h7 (by decide) dX8_judge_54 ?_
            refine V.bipush (pc := 57) C (mI 3) (by decide) dX8_judge_57 ?_
            refine V.goto (pc := 59) C 69 (by decide) dX8_judge_59 ?_
            exact V.retI (pc := 69) C hf dX8_judge_69
          · refine V.ic_neT (pc := 54) C 62 h7 (by decide) dX8_judge_54 ?_
            refine V.aload_n (pc := 62) C 1 rfl dX8_judge_62 ?_
            refine V.getR (pc := 63) C clX8 inX8 (sx_0 hG) 2 (by decide) wF_X8_26 rfl dX8_judge_63 ?_
            refine V.getI (pc := 66) C clX3 inX3 (sx_8 hG) 2 (by decide) wF_X8_122 rfl dX8_judge_66 ?_
            exact V.retI (pc := 69) C hf dX8_judge_69
theorem dX8_behind_0 : decode cX8_behind 0 = .ok (.aload_n 0, 1) := by decide +kernel
theorem dX8_behind_1 : decode cX8_behind 1 = .ok (.getfield 12, 3) := by decide +kernel
theorem dX8_behind_4 : decode cX8_behind 4 = .ok (.iload_n 1, 1) := by decide +kernel
theorem dX8_behind_5 : decode cX8_behind 5 = .ok (.invokevirtual 91, 3) := by decide +kernel
theorem dX8_behind_8 : decode cX8_behind 8 = .ok (.ifCond .ne 5, 3) := by decide +kernel
theorem dX8_behind_11 : decode cX8_behind 11 = .ok (.iconst (-1), 1) := by decide +kernel
theorem dX8_behind_12 : decode cX8_behind 12 = .ok (.ireturn, 1) := by decide +kernel
theorem dX8_behind_13 : decode cX8_behind 13 = .ok (.iload_n 2, 1) := by decide +kernel
theorem dX8_behind_14 : decode cX8_behind 14 = .ok (.iconst 0, 1) := by decide +kernel
theorem dX8_behind_15 : decode cX8_behind 15 = .ok (.iconst 1, 1) := by decide +kernel
theorem dX8_behind_16 : decode cX8_behind 16 = .ok (.invokestatic 73, 3) := by decide +kernel
theorem dX8_behind_19 : decode cX8_behind 19 = .ok (.ifCond .ne 6, 3) := by decide +kernel
theorem dX8_behind_22 : decode cX8_behind 22 = .ok (.bipush (-2), 2) := by decide +kernel
theorem dX8_behind_24 : decode cX8_behind 24 = .ok (.ireturn, 1) := by decide +kernel
theorem dX8_behind_25 : decode cX8_behind 25 = .ok (.aload_n 0, 1) := by decide +kernel
theorem dX8_behind_26 : decode cX8_behind 26 = .ok (.invokevirtual 113, 3) := by decide +kernel
theorem dX8_behind_29 : decode cX8_behind 29 = .ok (.istore_n 3, 1) := by decide +kernel
theorem dX8_behind_30 : decode cX8_behind 30 = .ok (.iload_n 3, 1) := by decide +kernel
theorem dX8_behind_31 : decode cX8_behind 31 = .ok (.ifCond .eq 5, 3) := by decide +kernel
theorem dX8_behind_34 : decode cX8_behind 34 = .ok (.iload_n 3, 1) := by decide +kernel
theorem dX8_behind_35 : decode cX8_behind 35 = .ok (.ireturn, 1) := by decide +kernel
theorem dX8_behind_36 : decode cX8_behind 36 = .ok (.iload_n 2, 1) := by decide +kernel
theorem dX8_behind_37 : decode cX8_behind 37 = .ok (.ifCond .ne 18, 3) := by decide +kernel
theorem dX8_behind_40 : decode cX8_behind 40 = .ok (.aload_n 0, 1) := by decide +kernel
theorem dX8_behind_41 : decode cX8_behind 41 = .ok (.getfield 26, 3) := by decide +kernel
theorem dX8_behind_44 : decode cX8_behind 44 = .ok (.getfield 125, 3) := by decide +kernel
theorem dX8_behind_47 : decode cX8_behind 47 = .ok (.getfield 128, 3) := by decide +kernel
theorem dX8_behind_50 : decode cX8_behind 50 = .ok (.iload_n 1, 1) := by decide +kernel
theorem dX8_behind_51 : decode cX8_behind 51 = .ok (.iaload, 1) := by decide +kernel
theorem dX8_behind_52 : decode cX8_behind 52 = .ok (.goto 15, 3) := by decide +kernel
theorem dX8_behind_55 : decode cX8_behind 55 = .ok (.aload_n 0, 1) := by decide +kernel
theorem dX8_behind_56 : decode cX8_behind 56 = .ok (.getfield 26, 3) := by decide +kernel
theorem dX8_behind_59 : decode cX8_behind 59 = .ok (.getfield 125, 3) := by decide +kernel
theorem dX8_behind_62 : decode cX8_behind 62 = .ok (.getfield 131, 3) := by decide +kernel
theorem dX8_behind_65 : decode cX8_behind 65 = .ok (.iload_n 1, 1) := by decide +kernel
theorem dX8_behind_66 : decode cX8_behind 66 = .ok (.iaload, 1) := by decide +kernel
theorem dX8_behind_67 : decode cX8_behind 67 = .ok (.ireturn, 1) := by decide +kernel
abbrev cxX8_behind (G : Rg) (X : Ct) : Prop := Cx G X cX8_behind 4 RX8 (some .int) 7 150 (Cond.code yX8_behind cX8_behind 4 (some .int))
def fX8_behind (x1 : Int32) (x2 : Int32) (M : Mm) : Option (Int32 × Mm) :=
bd (fX0_isThere 1 x1 M) fun r1 M1 =>
if r1 = (nI 0) then
(some ((mI 1), M1))
else
(bd (fX8_isWithin x2 (nI 0) (nI 1) M1) fun r3 M3 =>
if r3 = (nI 0) then
(some ((mI 2), M3))
else
(bd (fX8_readMonths M3) fun r5 M5 =>
if r5 = (nI 0) then
(if x2 = (nI 0) then
(gd (inb x1 12) (
some ((M5.1 11 x1.toNatClampNeg), M5)))
else
(gd (inb x1 12) (
some ((M5.1 10 x1.toNatClampNeg), M5))))
else
(some (r5, M5))))
set_option maxHeartbeats 4000000 in
set_option maxRecDepth 100000 in
theorem mX8_behind (l : Launch) {G : Rg} (hG : gS G = shX) {x1 : Int32} {x2 : Int32}  {M Mf : Mm} {r : Int32} (hf : fX8_behind x1 x2 M = some (r, Mf)) : Mt l G yX8_behind cX8_behind 4 (some .int) 7 150 [.ref (gA G 0), .int x1, .int x2] M (some (.int r)) Mf := by
  refine Mt.of (by decide) (Nat.le_of_ble_eq_true rfl) ?_
  intro X C hX
  subst hX
  have C : cxX8_behind G X := C
  show V G X 4 (some (.int r)) Mf 0 [(0, .ref (gA G 0)), (1, .int x1), (2, .int x2)] [] M
  rw [fX8_behind] at hf
  refine V.aload_n (pc := 0) C 0 rfl dX8_behind_0 ?_
  refine V.getR (pc := 1) C clX8 inX8 (sx_0 hG) 0 (by decide) wF_X8_12 rfl dX8_behind_1 ?_
  refine V.iload_n (pc := 4) C 1 rfl dX8_behind_4 ?_
  obtain ⟨r1, M1, h1, hf⟩ := bd_some hf
  refine V.callVi (pc := 5) (As := [.int x1]) (rest := []) C (mX0_isThere X.2.1 hG (bx_1 hG) h1) mf_X0_isThere clX0 (sx_1 hG) wM_X8_91 rfl rfl ⟨by decide, by decide⟩ (Nat.le_of_ble_eq_true rfl) dX8_behind_5 ?_
  rcases it_some hf with ⟨h2, hf⟩ | ⟨h2, hf⟩
  · refine V.if_neF (pc := 8) C 13 h2 (by decide) dX8_behind_8 ?_
    refine V.iconst (pc := 11) C (mI 1) (by decide) dX8_behind_11 ?_
    exact V.retI (pc := 12) C hf dX8_behind_12
  · refine V.if_neT (pc := 8) C 13 h2 (by decide) dX8_behind_8 ?_
    refine V.iload_n (pc := 13) C 2 rfl dX8_behind_13 ?_
    refine V.iconst (pc := 14) C (nI 0) (by decide) dX8_behind_14 ?_
    refine V.iconst (pc := 15) C (nI 1) (by decide) dX8_behind_15 ?_
    obtain ⟨r3, M3, h3, hf⟩ := bd_some hf
    refine V.callSi (pc := 16) (As := [.int x2, .int (nI 0), .int (nI 1)]) (rest := []) C (mX8_isWithin X.2.1 hG  h3) mf_X8_isWithin wM_X8_73 rfl rfl ⟨by decide, by decide⟩ (Nat.le_of_ble_eq_true rfl) dX8_behind_16 ?_
    rcases it_some hf with ⟨h4, hf⟩ | ⟨h4, hf⟩
    · refine V.if_neF (pc := 19) C 25 h4 (by decide) dX8_behind_19 ?_
      refine V.bipush (pc := 22) C (mI 2) (by decide) dX8_behind_22 ?_
      exact V.retI (pc := 24) C hf dX8_behind_24
    · refine V.if_neT (pc := 19) C 25 h4 (by decide) dX8_behind_19 ?_
      refine V.aload_n (pc := 25) C 0 rfl dX8_behind_25 ?_
      obtain ⟨r5, M5, h5, hf⟩ := bd_some hf
      refine V.callVi (pc := 26) (As := []) (rest := []) C (mX8_readMonths X.2.1 hG  h5) mf_X8_readMonths clX8 (sx_0 hG) wM_X8_113 rfl rfl ⟨by decide, by decide⟩ (Nat.le_of_ble_eq_true rfl) dX8_behind_26 ?_
      refine V.istore_n (pc := 29) (lv' := [(3, .int r5), (0, .ref (gA G 0)), (1, .int x1), (2, .int x2)]) C (by decide) rfl dX8_behind_29 ?_
      refine V.iload_n (pc := 30) C 0 rfl dX8_behind_30 ?_
      rcases it_some hf with ⟨h6, hf⟩ | ⟨h6, hf⟩
      · refine V.if_eqT (pc := 31) C 36 h6 (by decide) dX8_behind_31 ?_
        refine V.iload_n (pc := 36) C 3 rfl dX8_behind_36 ?_
        rcases it_some hf with ⟨h7, hf⟩ | ⟨h7, hf⟩
        · refine V.if_neF (pc := 37) C 55 h7 (by decide) dX8_behind_37 ?_
          refine V.aload_n (pc := 40) C 1 rfl dX8_behind_40 ?_
          refine V.getR (pc := 41) C clX8 inX8 (sx_0 hG) 2 (by decide) wF_X8_26 rfl dX8_behind_41 ?_
          refine V.getR (pc := 44) C clX3 inX3 (sx_8 hG) 0 (by decide) wF_X8_125 rfl dX8_behind_44 ?_
          refine V.getR (pc := 47) C clX0 inX0 (sx_9 hG) 5 (by decide) wF_X8_128 rfl dX8_behind_47 ?_
          refine V.iload_n (pc := 50) C 2 rfl dX8_behind_50 ?_
          obtain ⟨g9, hf⟩ := gd_some hf
          refine V.iald (pc := 51) C (sx_11 hG) (inb_in g9) dX8_behind_51 ?_
          refine V.goto (pc := 52) C 67 (by decide) dX8_behind_52 ?_
          exact V.retI (pc := 67) C hf dX8_behind_67
        · refine V.if_neT (pc := 37) C 55 h7 (by decide) dX8_behind_37 ?_
          refine V.aload_n (pc := 55) C 1 rfl dX8_behind_55 ?_
          refine V.getR (pc := 56) C clX8 inX8 (sx_0 hG) 2 (by decide) wF_X8_26 rfl dX8_behind_56 ?_
          refine V.getR (pc := 59) C clX3 inX3 (sx_8 hG) 0 (by decide) wF_X8_125 rfl dX8_behind_59 ?_
          refine V.getR (pc := 62) C clX0 inX0 (sx_9 hG) 4 (by decide) wF_X8_131 rfl dX8_behind_62 ?_
          refine V.iload_n (pc := 65) C 2 rfl dX8_behind_65 ?_
          obtain ⟨g8, hf⟩ := gd_some hf
          refine V.iald (pc := 66) C (sx_10 hG) (inb_in g8) dX8_behind_66 ?_
          exact V.retI (pc := 67) C hf dX8_behind_67
      · refine V.if_eqF (pc := 31) C 36 h6 (by decide) dX8_behind_31 ?_
        refine V.iload_n (pc := 34) C 0 rfl dX8_behind_34 ?_
        exact V.retI (pc := 35) C hf dX8_behind_35
theorem dX8_ledger_0 : decode cX8_ledger 0 = .ok (.iload_n 1, 1) := by decide +kernel
theorem dX8_ledger_1 : decode cX8_ledger 1 = .ok (.iconst 0, 1) := by decide +kernel
theorem dX8_ledger_2 : decode cX8_ledger 2 = .ok (.iconst 2, 1) := by decide +kernel
theorem dX8_ledger_3 : decode cX8_ledger 3 = .ok (.invokestatic 73, 3) := by decide +kernel
theorem dX8_ledger_6 : decode cX8_ledger 6 = .ok (.ifCond .ne 6, 3) := by decide +kernel
theorem dX8_ledger_9 : decode cX8_ledger 9 = .ok (.bipush (-2), 2) := by decide +kernel
theorem dX8_ledger_11 : decode cX8_ledger 11 = .ok (.ireturn, 1) := by decide +kernel
theorem dX8_ledger_12 : decode cX8_ledger 12 = .ok (.aload_n 0, 1) := by decide +kernel
theorem dX8_ledger_13 : decode cX8_ledger 13 = .ok (.invokevirtual 113, 3) := by decide +kernel
theorem dX8_ledger_16 : decode cX8_ledger 16 = .ok (.istore_n 2, 1) := by decide +kernel
theorem dX8_ledger_17 : decode cX8_ledger 17 = .ok (.iload_n 2, 1) := by decide +kernel
theorem dX8_ledger_18 : decode cX8_ledger 18 = .ok (.ifCond .eq 5, 3) := by decide +kernel
theorem dX8_ledger_21 : decode cX8_ledger 21 = .ok (.iload_n 2, 1) := by decide +kernel
theorem dX8_ledger_22 : decode cX8_ledger 22 = .ok (.ireturn, 1) := by decide +kernel
theorem dX8_ledger_23 : decode cX8_ledger 23 = .ok (.iload_n 1, 1) := by decide +kernel
theorem dX8_ledger_24 : decode cX8_ledger 24 = .ok (.ifCond .ne 14, 3) := by decide +kernel
theorem dX8_ledger_27 : decode cX8_ledger 27 = .ok (.aload_n 0, 1) := by decide +kernel
theorem dX8_ledger_28 : decode cX8_ledger 28 = .ok (.getfield 26, 3) := by decide +kernel
theorem dX8_ledger_31 : decode cX8_ledger 31 = .ok (.getfield 125, 3) := by decide +kernel
theorem dX8_ledger_34 : decode cX8_ledger 34 = .ok (.getfield 99, 3) := by decide +kernel
theorem dX8_ledger_37 : decode cX8_ledger 37 = .ok (.ireturn, 1) := by decide +kernel
theorem dX8_ledger_38 : decode cX8_ledger 38 = .ok (.iload_n 1, 1) := by decide +kernel
theorem dX8_ledger_39 : decode cX8_ledger 39 = .ok (.iconst 1, 1) := by decide +kernel
theorem dX8_ledger_40 : decode cX8_ledger 40 = .ok (.if_icmp .ne 8, 3) := by decide +kernel
theorem dX8_ledger_43 : decode cX8_ledger 43 = .ok (.bipush 63, 2) := by decide +kernel
theorem dX8_ledger_45 : decode cX8_ledger 45 = .ok (.goto 6, 3) := by decide +kernel
theorem dX8_ledger_48 : decode cX8_ledger 48 = .ok (.sipush 4032, 3) := by decide +kernel
theorem dX8_ledger_51 : decode cX8_ledger 51 = .ok (.istore_n 3, 1) := by decide +kernel
theorem dX8_ledger_52 : decode cX8_ledger 52 = .ok (.aload_n 0, 1) := by decide +kernel
theorem dX8_ledger_53 : decode cX8_ledger 53 = .ok (.getfield 26, 3) := by decide +kernel
theorem dX8_ledger_56 : decode cX8_ledger 56 = .ok (.getfield 125, 3) := by decide +kernel
theorem dX8_ledger_59 : decode cX8_ledger 59 = .ok (.aload_n 0, 1) := by decide +kernel
theorem dX8_ledger_60 : decode cX8_ledger 60 = .ok (.getfield 26, 3) := by decide +kernel
theorem dX8_ledger_63 : decode cX8_ledger 63 = .ok (.getfield 125, 3) := by decide +kernel
theorem dX8_ledger_66 : decode cX8_ledger 66 = .ok (.bipush 7, 2) := by decide +kernel
theorem dX8_ledger_68 : decode cX8_ledger 68 = .ok (.invokevirtual 134, 3) := by decide +kernel
theorem dX8_ledger_71 : decode cX8_ledger 71 = .ok (.iload_n 3, 1) := by decide +kernel
theorem dX8_ledger_72 : decode cX8_ledger 72 = .ok (.iand, 1) := by decide +kernel
theorem dX8_ledger_73 : decode cX8_ledger 73 = .ok (.invokevirtual 137, 3) := by decide +kernel
theorem dX8_ledger_76 : decode cX8_ledger 76 = .ok (.invokestatic 140, 3) := by decide +kernel
theorem dX8_ledger_79 : decode cX8_ledger 79 = .ok (.ireturn, 1) := by decide +kernel
abbrev cxX8_ledger (G : Rg) (X : Ct) : Prop := Cx G X cX8_ledger 4 RX8 (some .int) 7 150 (Cond.code yX8_ledger cX8_ledger 4 (some .int))
def fX8_ledger_b51   (s0 : Int32) (M : Mm) : Option (Int32 × Mm) :=
bd (fX0_crowdIn 9 (nI 7) M) fun r1 M1 =>
bd (fX0_lead 9 (r1 &&& s0) M1) fun r2 M2 =>
some ((jabs r2), M2)
set_option maxHeartbeats 4000000 in
set_option maxRecDepth 100000 in
theorem vX8_ledger_b51 {G : Rg} {X : Ct} {r : Int32} {Mf : Mm}   (C : cxX8_ledger G X) (hG : gS G = shX)   (s0 : Int32) (M : Mm) (hf : fX8_ledger_b51 s0 M = some (r, Mf)) : V G X 4 (some (.int r)) Mf 51 [(0, .ref (gA G 0))] [.int s0] M := by
  rw [fX8_ledger_b51] at hf
  refine V.istore_n (pc := 51) (lv' := [(3, .int s0), (0, .ref (gA G 0))]) C (by decide) rfl dX8_ledger_51 ?_
  refine V.aload_n (pc := 52) C 1 rfl dX8_ledger_52 ?_
  refine V.getR (pc := 53) C clX8 inX8 (sx_0 hG) 2 (by decide) wF_X8_26 rfl dX8_ledger_53 ?_
  refine V.getR (pc := 56) C clX3 inX3 (sx_8 hG) 0 (by decide) wF_X8_125 rfl dX8_ledger_56 ?_
  refine V.aload_n (pc := 59) C 1 rfl dX8_ledger_59 ?_
  refine V.getR (pc := 60) C clX8 inX8 (sx_0 hG) 2 (by decide) wF_X8_26 rfl dX8_ledger_60 ?_
  refine V.getR (pc := 63) C clX3 inX3 (sx_8 hG) 0 (by decide) wF_X8_125 rfl dX8_ledger_63 ?_
  refine V.bipush (pc := 66) C (nI 7) (by decide) dX8_ledger_66 ?_
  obtain ⟨r1, M1, h1, hf⟩ := bd_some hf
  refine V.callVi (pc := 68) (As := [.int (nI 7)]) (rest := [.ref (gA G 9)]) C (mX0_crowdIn X.2.1 hG (bx_9 hG) h1) mf_X0_crowdIn clX0 (sx_9 hG) wM_X8_134 rfl rfl ⟨by decide, by decide⟩ (Nat.le_of_ble_eq_true rfl) dX8_ledger_68 ?_
  refine V.iload_n (pc := 71) C 0 rfl dX8_ledger_71 ?_
  refine V.iand (pc := 72) C dX8_ledger_72 ?_
  obtain ⟨r2, M2, h2, hf⟩ := bd_some hf
  refine V.callVi (pc := 73) (As := [.int (r1 &&& s0)]) (rest := []) C (mX0_lead X.2.1 hG (bx_9 hG) h2) mf_X0_lead clX0 (sx_9 hG) wM_X8_137 rfl rfl ⟨by decide, by decide⟩ (Nat.le_of_ble_eq_true rfl) dX8_ledger_73 ?_
  refine V.mabs (pc := 76) C mm_abs wM_X8_140 (by decide) (Nat.le_of_ble_eq_true rfl) dX8_ledger_76 ?_
  exact V.retI (pc := 79) C hf dX8_ledger_79
def fX8_ledger (x1 : Int32) (M : Mm) : Option (Int32 × Mm) :=
bd (fX8_isWithin x1 (nI 0) (nI 2) M) fun r1 M1 =>
if r1 = (nI 0) then
(some ((mI 2), M1))
else
(bd (fX8_readMonths M1) fun r3 M3 =>
if r3 = (nI 0) then
(if x1 = (nI 0) then
(some ((M3.1 9 1), M3))
else
(if x1 = (nI 1) then
(fX8_ledger_b51 (nI 63) M3)
else
(fX8_ledger_b51 (nI 4032) M3)))
else
(some (r3, M3)))
set_option maxHeartbeats 4000000 in
set_option maxRecDepth 100000 in
theorem mX8_ledger (l : Launch) {G : Rg} (hG : gS G = shX) {x1 : Int32}  {M Mf : Mm} {r : Int32} (hf : fX8_ledger x1 M = some (r, Mf)) : Mt l G yX8_ledger cX8_ledger 4 (some .int) 7 150 [.ref (gA G 0), .int x1] M (some (.int r)) Mf := by
  refine Mt.of (by decide) (Nat.le_of_ble_eq_true rfl) ?_
  intro X C hX
  subst hX
  have C : cxX8_ledger G X := C
  show V G X 4 (some (.int r)) Mf 0 [(0, .ref (gA G 0)), (1, .int x1)] [] M
  rw [fX8_ledger] at hf
  refine V.iload_n (pc := 0) C 1 rfl dX8_ledger_0 ?_
  refine V.iconst (pc := 1) C (nI 0) (by decide) dX8_ledger_1 ?_
  refine V.iconst (pc := 2) C (nI 2) (by decide) dX8_ledger_2 ?_
  obtain ⟨r1, M1, h1, hf⟩ := bd_some hf
  refine V.callSi (pc := 3) (As := [.int x1, .int (nI 0), .int (nI 2)]) (rest := []) C (mX8_isWithin X.2.1 hG  h1) mf_X8_isWithin wM_X8_73 rfl rfl ⟨by decide, by decide⟩ (Nat.le_of_ble_eq_true rfl) dX8_ledger_3 ?_
  rcases it_some hf with ⟨h2, hf⟩ | ⟨h2, hf⟩
  · refine V.if_neF (pc := 6) C 12 h2 (by decide) dX8_ledger_6 ?_
    refine V.bipush (pc := 9) C (mI 2) (by decide) dX8_ledger_9 ?_
    exact V.retI (pc := 11) C hf dX8_ledger_11
  · refine V.if_neT (pc := 6) C 12 h2 (by decide) dX8_ledger_6 ?_
    refine V.aload_n (pc := 12) C 0 rfl dX8_ledger_12 ?_
    obtain ⟨r3, M3, h3, hf⟩ := bd_some hf
    refine V.callVi (pc := 13) (As := []) (rest := []) C (mX8_readMonths X.2.1 hG  h3) mf_X8_readMonths clX8 (sx_0 hG) wM_X8_113 rfl rfl ⟨by decide, by decide⟩ (Nat.le_of_ble_eq_true rfl) dX8_ledger_13 ?_
    refine V.istore_n (pc := 16) (lv' := [(2, .int r3), (0, .ref (gA G 0)), (1, .int x1)]) C (by decide) rfl dX8_ledger_16 ?_
    refine V.iload_n (pc := 17) C 0 rfl dX8_ledger_17 ?_
    rcases it_some hf with ⟨h4, hf⟩ | ⟨h4, hf⟩
    · refine V.if_eqT (pc := 18) C 23 h4 (by decide) dX8_ledger_18 ?_
      refine V.iload_n (pc := 23) C 2 rfl dX8_ledger_23 ?_
      rcases it_some hf with ⟨h5, hf⟩ | ⟨h5, hf⟩
      · refine V.if_neF (pc := 24) C 38 h5 (by decide) dX8_ledger_24 ?_
        refine V.aload_n (pc := 27) C 1 rfl dX8_ledger_27 ?_
        refine V.getR (pc := 28) C clX8 inX8 (sx_0 hG) 2 (by decide) wF_X8_26 rfl dX8_ledger_28 ?_
        refine V.getR (pc := 31) C clX3 inX3 (sx_8 hG) 0 (by decide) wF_X8_125 rfl dX8_ledger_31 ?_
        refine V.getI (pc := 34) C clX0 inX0 (sx_9 hG) 1 (by decide) wF_X8_99 rfl dX8_ledger_34 ?_
        exact V.retI (pc := 37) C hf dX8_ledger_37
      · refine V.if_neT (pc := 24) C 38 h5 (by decide) dX8_ledger_24 ?_
        refine V.iload_n (pc := 38) C 2 rfl dX8_ledger_38 ?_
        refine V.iconst (pc := 39) C (nI 1) (by decide) dX8_ledger_39 ?_
        rcases it_some hf with ⟨h6, hf⟩ | ⟨h6, hf⟩
        · refine V.ic_neF (pc := 40) C 48 h6 (by decide) dX8_ledger_40 ?_
          refine V.bipush (pc := 43) C (nI 63) (by decide) dX8_ledger_43 ?_
          refine V.goto (pc := 45) C 51 (by decide) dX8_ledger_45 ?_
          refine V.sub C [1] (lv' := [(0, .ref (gA G 0))]) rfl ?_
          exact vX8_ledger_b51 C hG    _ _ hf
        · refine V.ic_neT (pc := 40) C 48 h6 (by decide) dX8_ledger_40 ?_
          refine V.sipush (pc := 48) C (nI 4032) (by decide) dX8_ledger_48 ?_
          refine V.sub C [1] (lv' := [(0, .ref (gA G 0))]) rfl ?_
          exact vX8_ledger_b51 C hG    _ _ hf
    · refine V.if_eqF (pc := 18) C 23 h4 (by decide) dX8_ledger_18 ?_
      refine V.iload_n (pc := 21) C 0 rfl dX8_ledger_21 ?_
      exact V.retI (pc := 22) C hf dX8_ledger_22
theorem dX8_done_0 : decode cX8_done 0 = .ok (.aload_n 0, 1) := by decide +kernel
theorem dX8_done_1 : decode cX8_done 1 = .ok (.invokevirtual 113, 3) := by decide +kernel
theorem dX8_done_4 : decode cX8_done 4 = .ok (.istore_n 1, 1) := by decide +kernel
theorem dX8_done_5 : decode cX8_done 5 = .ok (.iload_n 1, 1) := by decide +kernel
theorem dX8_done_6 : decode cX8_done 6 = .ok (.ifCond .eq 5, 3) := by decide +kernel
theorem dX8_done_9 : decode cX8_done 9 = .ok (.iload_n 1, 1) := by decide +kernel
theorem dX8_done_10 : decode cX8_done 10 = .ok (.ireturn, 1) := by decide +kernel
theorem dX8_done_11 : decode cX8_done 11 = .ok (.aload_n 0, 1) := by decide +kernel
theorem dX8_done_12 : decode cX8_done 12 = .ok (.getfield 12, 3) := by decide +kernel
theorem dX8_done_15 : decode cX8_done 15 = .ok (.aload_n 0, 1) := by decide +kernel
theorem dX8_done_16 : decode cX8_done 16 = .ok (.getfield 26, 3) := by decide +kernel
theorem dX8_done_19 : decode cX8_done 19 = .ok (.getfield 125, 3) := by decide +kernel
theorem dX8_done_22 : decode cX8_done 22 = .ok (.invokevirtual 145, 3) := by decide +kernel
theorem dX8_done_25 : decode cX8_done 25 = .ok (.aload_n 0, 1) := by decide +kernel
theorem dX8_done_26 : decode cX8_done 26 = .ok (.getfield 19, 3) := by decide +kernel
theorem dX8_done_29 : decode cX8_done 29 = .ok (.iconst 0, 1) := by decide +kernel
theorem dX8_done_30 : decode cX8_done 30 = .ok (.putfield 102, 3) := by decide +kernel
theorem dX8_done_33 : decode cX8_done 33 = .ok (.aload_n 0, 1) := by decide +kernel
theorem dX8_done_34 : decode cX8_done 34 = .ok (.getfield 26, 3) := by decide +kernel
theorem dX8_done_37 : decode cX8_done 37 = .ok (.getfield 149, 3) := by decide +kernel
theorem dX8_done_40 : decode cX8_done 40 = .ok (.ireturn, 1) := by decide +kernel
abbrev cxX8_done (G : Rg) (X : Ct) : Prop := Cx G X cX8_done 2 RX8 (some .int) 7 150 (Cond.code yX8_done cX8_done 2 (some .int))
def fX8_done  (M : Mm) : Option (Int32 × Mm) :=
bd (fX8_readMonths M) fun r1 M1 =>
if r1 = (nI 0) then
(bd (fX0_copyFrom 1 9 M1) fun _ M3 =>
some (((sI M3 6 1 (nI 0)).1 8 1), (sI M3 6 1 (nI 0))))
else
(some (r1, M1))
set_option maxHeartbeats 4000000 in
set_option maxRecDepth 100000 in
theorem mX8_done (l : Launch) {G : Rg} (hG : gS G = shX)   {M Mf : Mm} {r : Int32} (hf : fX8_done  M = some (r, Mf)) : Mt l G yX8_done cX8_done 2 (some .int) 7 150 [.ref (gA G 0)] M (some (.int r)) Mf := by
  refine Mt.of (by decide) (Nat.le_of_ble_eq_true rfl) ?_
  intro X C hX
  subst hX
  have C : cxX8_done G X := C
  show V G X 2 (some (.int r)) Mf 0 [(0, .ref (gA G 0))] [] M
  rw [fX8_done] at hf
  refine V.aload_n (pc := 0) C 0 rfl dX8_done_0 ?_
  obtain ⟨r1, M1, h1, hf⟩ := bd_some hf
  refine V.callVi (pc := 1) (As := []) (rest := []) C (mX8_readMonths X.2.1 hG  h1) mf_X8_readMonths clX8 (sx_0 hG) wM_X8_113 rfl rfl ⟨by decide, by decide⟩ (Nat.le_of_ble_eq_true rfl) dX8_done_1 ?_
  refine V.istore_n (pc := 4) (lv' := [(1, .int r1), (0, .ref (gA G 0))]) C (by decide) rfl dX8_done_4 ?_
  refine V.iload_n (pc := 5) C 0 rfl dX8_done_5 ?_
  rcases it_some hf with ⟨h2, hf⟩ | ⟨h2, hf⟩
  · refine V.if_eqT (pc := 6) C 11 h2 (by decide) dX8_done_6 ?_
    refine V.aload_n (pc := 11) C 1 rfl dX8_done_11 ?_
    refine V.getR (pc := 12) C clX8 inX8 (sx_0 hG) 0 (by decide) wF_X8_12 rfl dX8_done_12 ?_
    refine V.aload_n (pc := 15) C 1 rfl dX8_done_15 ?_
    refine V.getR (pc := 16) C clX8 inX8 (sx_0 hG) 2 (by decide) wF_X8_26 rfl dX8_done_16 ?_
    refine V.getR (pc := 19) C clX3 inX3 (sx_8 hG) 0 (by decide) wF_X8_125 rfl dX8_done_19 ?_
    obtain ⟨_, M3, h3, hf⟩ := bd_some hf
    refine V.callVv (pc := 22) (As := [.ref (gA G 9)]) (rest := []) C (mX0_copyFrom X.2.1 hG (bx_1 hG) (bx_9 hG) h3) mf_X0_copyFrom clX0 (sx_1 hG) wM_X8_145 rfl rfl ⟨by decide, by decide⟩ (Nat.le_of_ble_eq_true rfl) dX8_done_22 ?_
    refine V.aload_n (pc := 25) C 1 rfl dX8_done_25 ?_
    refine V.getR (pc := 26) C clX8 inX8 (sx_0 hG) 1 (by decide) wF_X8_19 rfl dX8_done_26 ?_
    refine V.iconst (pc := 29) C (nI 0) (by decide) dX8_done_29 ?_
    refine V.putI (pc := 30) C clX4 inX4 (sx_6 hG) 1 (by decide) wF_X8_102 tyX4 tyX4_ok nmX4 rfl (tyX4_ok 1 (by decide)) rfl dX8_done_30 ?_
    refine V.aload_n (pc := 33) C 1 rfl dX8_done_33 ?_
    refine V.getR (pc := 34) C clX8 inX8 (sx_0 hG) 2 (by decide) wF_X8_26 rfl dX8_done_34 ?_
    refine V.getI (pc := 37) C clX3 inX3 (sx_8 hG) 1 (by decide) wF_X8_149 rfl dX8_done_37 ?_
    exact V.retI (pc := 40) C hf dX8_done_40
  · refine V.if_eqF (pc := 6) C 11 h2 (by decide) dX8_done_6 ?_
    refine V.iload_n (pc := 9) C 0 rfl dX8_done_9 ?_
    exact V.retI (pc := 10) C hf dX8_done_10
theorem dX8_owed_0 : decode cX8_owed 0 = .ok (.aload_n 0, 1) := by decide +kernel
theorem dX8_owed_1 : decode cX8_owed 1 = .ok (.getfield 12, 3) := by decide +kernel
theorem dX8_owed_4 : decode cX8_owed 4 = .ok (.aload_n 0, 1) := by decide +kernel
theorem dX8_owed_5 : decode cX8_owed 5 = .ok (.getfield 12, 3) := by decide +kernel
theorem dX8_owed_8 : decode cX8_owed 8 = .ok (.bipush 7, 2) := by decide +kernel
theorem dX8_owed_10 : decode cX8_owed 10 = .ok (.invokevirtual 134, 3) := by decide +kernel
theorem dX8_owed_13 : decode cX8_owed 13 = .ok (.invokevirtual 137, 3) := by decide +kernel
theorem dX8_owed_16 : decode cX8_owed 16 = .ok (.sipush 1000, 3) := by decide +kernel
theorem dX8_owed_19 : decode cX8_owed 19 = .ok (.iadd, 1) := by decide +kernel
theorem dX8_owed_20 : decode cX8_owed 20 = .ok (.ireturn, 1) := by decide +kernel
abbrev cxX8_owed (G : Rg) (X : Ct) : Prop := Cx G X cX8_owed 1 RX8 (some .int) 2 44 (Cond.code yX8_owed cX8_owed 1 (some .int))
def fX8_owed  (M : Mm) : Option (Int32 × Mm) :=
bd (fX0_crowdIn 1 (nI 7) M) fun r1 M1 =>
bd (fX0_lead 1 r1 M1) fun r2 M2 =>
some ((r2 + (nI 1000)), M2)
set_option maxHeartbeats 4000000 in
set_option maxRecDepth 100000 in
theorem mX8_owed (l : Launch) {G : Rg} (hG : gS G = shX)   {M Mf : Mm} {r : Int32} (hf : fX8_owed  M = some (r, Mf)) : Mt l G yX8_owed cX8_owed 1 (some .int) 2 44 [.ref (gA G 0)] M (some (.int r)) Mf := by
  refine Mt.of (by decide) (Nat.le_of_ble_eq_true rfl) ?_
  intro X C hX
  subst hX
  have C : cxX8_owed G X := C
  show V G X 1 (some (.int r)) Mf 0 [(0, .ref (gA G 0))] [] M
  rw [fX8_owed] at hf
  refine V.aload_n (pc := 0) C 0 rfl dX8_owed_0 ?_
  refine V.getR (pc := 1) C clX8 inX8 (sx_0 hG) 0 (by decide) wF_X8_12 rfl dX8_owed_1 ?_
  refine V.aload_n (pc := 4) C 0 rfl dX8_owed_4 ?_
  refine V.getR (pc := 5) C clX8 inX8 (sx_0 hG) 0 (by decide) wF_X8_12 rfl dX8_owed_5 ?_
  refine V.bipush (pc := 8) C (nI 7) (by decide) dX8_owed_8 ?_
  obtain ⟨r1, M1, h1, hf⟩ := bd_some hf
  refine V.callVi (pc := 10) (As := [.int (nI 7)]) (rest := [.ref (gA G 1)]) C (mX0_crowdIn X.2.1 hG (bx_1 hG) h1) mf_X0_crowdIn clX0 (sx_1 hG) wM_X8_134 rfl rfl ⟨by decide, by decide⟩ (Nat.le_of_ble_eq_true rfl) dX8_owed_10 ?_
  obtain ⟨r2, M2, h2, hf⟩ := bd_some hf
  refine V.callVi (pc := 13) (As := [.int r1]) (rest := []) C (mX0_lead X.2.1 hG (bx_1 hG) h2) mf_X0_lead clX0 (sx_1 hG) wM_X8_137 rfl rfl ⟨by decide, by decide⟩ (Nat.le_of_ble_eq_true rfl) dX8_owed_13 ?_
  refine V.sipush (pc := 16) C (nI 1000) (by decide) dX8_owed_16 ?_
  refine V.iadd (pc := 19) C dX8_owed_19 ?_
  exact V.retI (pc := 20) C hf dX8_owed_20
theorem dX0_lotIn_0 : decode cX0_lotIn 0 = .ok (.aload_n 0, 1) := by decide +kernel
theorem dX0_lotIn_1 : decode cX0_lotIn 1 = .ok (.iload_n 1, 1) := by decide +kernel
theorem dX0_lotIn_2 : decode cX0_lotIn 2 = .ok (.invokevirtual 43, 3) := by decide +kernel
theorem dX0_lotIn_5 : decode cX0_lotIn 5 = .ok (.iload_n 2, 1) := by decide +kernel
theorem dX0_lotIn_6 : decode cX0_lotIn 6 = .ok (.bipush 6, 2) := by decide +kernel
theorem dX0_lotIn_8 : decode cX0_lotIn 8 = .ok (.imul, 1) := by decide +kernel
theorem dX0_lotIn_9 : decode cX0_lotIn 9 = .ok (.ishr, 1) := by decide +kernel
theorem dX0_lotIn_10 : decode cX0_lotIn 10 = .ok (.bipush 63, 2) := by decide +kernel
theorem dX0_lotIn_12 : decode cX0_lotIn 12 = .ok (.iand, 1) := by decide +kernel
theorem dX0_lotIn_13 : decode cX0_lotIn 13 = .ok (.ireturn, 1) := by decide +kernel
abbrev cxX0_lotIn (G : Rg) (X : Ct) : Prop := Cx G X cX0_lotIn 3 RX0 (some .int) 1 23 (Cond.code yX0_lotIn cX0_lotIn 3 (some .int))
def fX0_lotIn (c0 : Nat) (x1 : Int32) (x2 : Int32) (M : Mm) : Option (Int32 × Mm) :=
bd (fX0_crowdIn c0 x1 M) fun r1 M1 =>
some (((jshr r1 (x2 * (nI 6))) &&& (nI 63)), M1)
set_option maxHeartbeats 4000000 in
set_option maxRecDepth 100000 in
theorem mX0_lotIn (l : Launch) {G : Rg} (hG : gS G = shX) {c0 : Nat} {x1 : Int32} {x2 : Int32} (hB0 : isB G c0) {M Mf : Mm} {r : Int32} (hf : fX0_lotIn c0 x1 x2 M = some (r, Mf)) : Mt l G yX0_lotIn cX0_lotIn 3 (some .int) 1 23 [.ref (gA G c0), .int x1, .int x2] M (some (.int r)) Mf := by
  refine Mt.of (by decide) (Nat.le_of_ble_eq_true rfl) ?_
  intro X C hX
  subst hX
  have C : cxX0_lotIn G X := C
  show V G X 3 (some (.int r)) Mf 0 [(0, .ref (gA G c0)), (1, .int x1), (2, .int x2)] [] M
  rw [fX0_lotIn] at hf
  refine V.aload_n (pc := 0) C 0 rfl dX0_lotIn_0 ?_
  refine V.iload_n (pc := 1) C 1 rfl dX0_lotIn_1 ?_
  obtain ⟨r1, M1, h1, hf⟩ := bd_some hf
  refine V.callVi (pc := 2) (As := [.int x1]) (rest := []) C (mX0_crowdIn X.2.1 hG hB0 h1) mf_X0_crowdIn clX0 hB0.1 wM_X0_43 rfl rfl ⟨by decide, by decide⟩ (Nat.le_of_ble_eq_true rfl) dX0_lotIn_2 ?_
  refine V.iload_n (pc := 5) C 2 rfl dX0_lotIn_5 ?_
  refine V.bipush (pc := 6) C (nI 6) (by decide) dX0_lotIn_6 ?_
  refine V.imul (pc := 8) C dX0_lotIn_8 ?_
  refine V.ishr (pc := 9) C dX0_lotIn_9 ?_
  refine V.bipush (pc := 10) C (nI 63) (by decide) dX0_lotIn_10 ?_
  refine V.iand (pc := 12) C dX0_lotIn_12 ?_
  exact V.retI (pc := 13) C hf dX0_lotIn_13
theorem dX2_sumLots_0 : decode cX2_sumLots 0 = .ok (.iconst 0, 1) := by decide +kernel
theorem dX2_sumLots_1 : decode cX2_sumLots 1 = .ok (.istore_n 3, 1) := by decide +kernel
theorem dX2_sumLots_2 : decode cX2_sumLots 2 = .ok (.iload_n 3, 1) := by decide +kernel
theorem dX2_sumLots_3 : decode cX2_sumLots 3 = .ok (.bipush 6, 2) := by decide +kernel
theorem dX2_sumLots_5 : decode cX2_sumLots 5 = .ok (.if_icmp .ge 56, 3) := by decide +kernel
theorem dX2_sumLots_8 : decode cX2_sumLots 8 = .ok (.aload_n 0, 1) := by decide +kernel
theorem dX2_sumLots_9 : decode cX2_sumLots 9 = .ok (.iload_n 1, 1) := by decide +kernel
theorem dX2_sumLots_10 : decode cX2_sumLots 10 = .ok (.bipush 6, 2) := by decide +kernel
theorem dX2_sumLots_12 : decode cX2_sumLots 12 = .ok (.imul, 1) := by decide +kernel
theorem dX2_sumLots_13 : decode cX2_sumLots 13 = .ok (.iload_n 3, 1) := by decide +kernel
theorem dX2_sumLots_14 : decode cX2_sumLots 14 = .ok (.iadd, 1) := by decide +kernel
theorem dX2_sumLots_15 : decode cX2_sumLots 15 = .ok (.invokevirtual 79, 3) := by decide +kernel
theorem dX2_sumLots_18 : decode cX2_sumLots 18 = .ok (.istore 4, 2) := by decide +kernel
theorem dX2_sumLots_20 : decode cX2_sumLots 20 = .ok (.iconst 1, 1) := by decide +kernel
theorem dX2_sumLots_21 : decode cX2_sumLots 21 = .ok (.iload_n 3, 1) := by decide +kernel
theorem dX2_sumLots_22 : decode cX2_sumLots 22 = .ok (.ishl, 1) := by decide +kernel
theorem dX2_sumLots_23 : decode cX2_sumLots 23 = .ok (.istore 5, 2) := by decide +kernel
theorem dX2_sumLots_25 : decode cX2_sumLots 25 = .ok (.iconst 0, 1) := by decide +kernel
theorem dX2_sumLots_26 : decode cX2_sumLots 26 = .ok (.istore 6, 2) := by decide +kernel
theorem dX2_sumLots_28 : decode cX2_sumLots 28 = .ok (.iload 6, 2) := by decide +kernel
theorem dX2_sumLots_30 : decode cX2_sumLots 30 = .ok (.iload 5, 2) := by decide +kernel
theorem dX2_sumLots_32 : decode cX2_sumLots 32 = .ok (.if_icmp .ge 23, 3) := by decide +kernel
theorem dX2_sumLots_35 : decode cX2_sumLots 35 = .ok (.aload_n 2, 1) := by decide +kernel
theorem dX2_sumLots_36 : decode cX2_sumLots 36 = .ok (.iload 6, 2) := by decide +kernel
theorem dX2_sumLots_38 : decode cX2_sumLots 38 = .ok (.iload 5, 2) := by decide +kernel
theorem dX2_sumLots_40 : decode cX2_sumLots 40 = .ok (.iadd, 1) := by decide +kernel
theorem dX2_sumLots_41 : decode cX2_sumLots 41 = .ok (.aload_n 2, 1) := by decide +kernel
theorem dX2_sumLots_42 : decode cX2_sumLots 42 = .ok (.iload 6, 2) := by decide +kernel
theorem dX2_sumLots_44 : decode cX2_sumLots 44 = .ok (.iaload, 1) := by decide +kernel
theorem dX2_sumLots_45 : decode cX2_sumLots 45 = .ok (.iload 4, 2) := by decide +kernel
theorem dX2_sumLots_47 : decode cX2_sumLots 47 = .ok (.iadd, 1) := by decide +kernel
theorem dX2_sumLots_48 : decode cX2_sumLots 48 = .ok (.iastore, 1) := by decide +kernel
theorem dX2_sumLots_49 : decode cX2_sumLots 49 = .ok (.iinc 6 1, 3) := by decide +kernel
theorem dX2_sumLots_52 : decode cX2_sumLots 52 = .ok (.goto (-24), 3) := by decide +kernel
theorem dX2_sumLots_55 : decode cX2_sumLots 55 = .ok (.iinc 3 1, 3) := by decide +kernel
theorem dX2_sumLots_58 : decode cX2_sumLots 58 = .ok (.goto (-56), 3) := by decide +kernel
theorem dX2_sumLots_61 : decode cX2_sumLots 61 = .ok (.return_, 1) := by decide +kernel
abbrev cxX2_sumLots (G : Rg) (X : Ct) : Prop := Cx G X cX2_sumLots 7 RX2 (none) 1 21 (Cond.code yX2_sumLots cX2_sumLots 7 (none))
def fX2_sumLots_b28 (nx2 : Int32 → Int32 → Mm → Option (Unit × Mm)) (c0 : Nat) (c2 : Nat) : Nat → Int32 → Int32 → Int32 → Int32 → Int32 → Mm → Option (Unit × Mm)
  | 0, _, _, _, _, _, _ => none
  | n + 1, v1, v3, v4, v5, v6, M =>
    if v5 ≤ v6 then
    (nx2 v1 (v3 + (nI 1)) M)
    else
    (gd (inb v6 64) (
    gd (inb (v6 + v5) 64) (
    fX2_sumLots_b28 nx2 c0 c2 n v1 v3 v4 v5 (v6 + (nI 1)) (sI M c2 (v6 + v5).toNatClampNeg ((M.1 c2 v6.toNatClampNeg) + v4)))))
set_option maxHeartbeats 4000000 in
set_option maxRecDepth 100000 in
theorem vX2_sumLots_b28 {G : Rg} {X : Ct} {r : Unit} {Mf : Mm} {c0 : Nat} {c2 : Nat} {nx2 : Int32 → Int32 → Mm → Option (Unit × Mm)} (C : cxX2_sumLots G X) (hG : gS G = shX) (hB0 : isB G c0) (hA2 : (gS G)[c2]? = some (.inl (0, 64))) (hx2 : ∀ (v1 : Int32) (v3 : Int32) (M : Mm), nx2 v1 v3 M = some (r, Mf) → V G X 7 none Mf 2 [(0, .ref (gA G c0)), (1, .int v1), (2, .ref (gA G c2)), (3, .int v3)] [] M) : ∀ (n : Nat) (v1 : Int32) (v3 : Int32) (v4 : Int32) (v5 : Int32) (v6 : Int32) (M : Mm), fX2_sumLots_b28 nx2 c0 c2 n v1 v3 v4 v5 v6 M = some (r, Mf) → V G X 7 none Mf 28 [(0, .ref (gA G c0)), (1, .int v1), (2, .ref (gA G c2)), (3, .int v3), (4, .int v4), (5, .int v5), (6, .int v6)] [] M := by
  intro n
  induction n with
  | zero => intro v1 v3 v4 v5 v6 M hf; rw [fX2_sumLots_b28] at hf; cases hf
  | succ n ih =>
    intro v1 v3 v4 v5 v6 M hf
    rw [fX2_sumLots_b28] at hf
    refine V.iload (pc := 28) C 6 rfl dX2_sumLots_28 ?_
    refine V.iload (pc := 30) C 5 rfl dX2_sumLots_30 ?_
    rcases it_some hf with ⟨h1, hf⟩ | ⟨h1, hf⟩
    · refine V.ic_geT (pc := 32) C 55 h1 (by decide) dX2_sumLots_32 ?_
      refine V.iinc (pc := 55) (lv' := [(3, .int (v3 + (nI 1))), (0, .ref (gA G c0)), (1, .int v1), (2, .ref (gA G c2)), (4, .int v4), (5, .int v5), (6, .int v6)]) C (v3 + (nI 1)) 3 rfl rfl (by decide) rfl dX2_sumLots_55 ?_
      refine V.goto (pc := 58) C 2 (by decide) dX2_sumLots_58 ?_
      refine V.sub C [1, 2, 3, 0] (lv' := [(0, .ref (gA G c0)), (1, .int v1), (2, .ref (gA G c2)), (3, .int (v3 + (nI 1)))]) rfl ?_
      exact hx2 _ _ _ hf
    · refine V.ic_geF (pc := 32) C 55 h1 (by decide) dX2_sumLots_32 ?_
      refine V.aload_n (pc := 35) C 2 rfl dX2_sumLots_35 ?_
      refine V.iload (pc := 36) C 6 rfl dX2_sumLots_36 ?_
      refine V.iload (pc := 38) C 5 rfl dX2_sumLots_38 ?_
      refine V.iadd (pc := 40) C dX2_sumLots_40 ?_
      refine V.aload_n (pc := 41) C 2 rfl dX2_sumLots_41 ?_
      refine V.iload (pc := 42) C 6 rfl dX2_sumLots_42 ?_
      obtain ⟨g2, hf⟩ := gd_some hf
      refine V.iald (pc := 44) C hA2 (inb_in g2) dX2_sumLots_44 ?_
      refine V.iload (pc := 45) C 4 rfl dX2_sumLots_45 ?_
      refine V.iadd (pc := 47) C dX2_sumLots_47 ?_
      obtain ⟨g3, hf⟩ := gd_some hf
      refine V.iast (pc := 48) C hA2 (inb_in g3) dX2_sumLots_48 ?_
      refine V.iinc (pc := 49) (lv' := [(6, .int (v6 + (nI 1))), (0, .ref (gA G c0)), (1, .int v1), (2, .ref (gA G c2)), (3, .int v3), (4, .int v4), (5, .int v5)]) C (v6 + (nI 1)) 6 rfl rfl (by decide) rfl dX2_sumLots_49 ?_
      refine V.goto (pc := 52) C 28 (by decide) dX2_sumLots_52 ?_
      refine V.sub C [1, 2, 3, 4, 5, 6, 0] (lv' := [(0, .ref (gA G c0)), (1, .int v1), (2, .ref (gA G c2)), (3, .int v3), (4, .int v4), (5, .int v5), (6, .int (v6 + (nI 1)))]) rfl ?_
      exact ih _ _ _ _ _ _ hf
def fX2_sumLots_b2  (c0 : Nat) (c2 : Nat) : Nat → Int32 → Int32 → Mm → Option (Unit × Mm)
  | 0, _, _, _ => none
  | n + 1, v1, v3, M =>
    if (nI 6) ≤ v3 then
    (some ((), M))
    else
    (bd (fX0_worth c0 ((v1 * (nI 6)) + v3) M) fun r2 M2 =>
    fX2_sumLots_b28 (fX2_sumLots_b2 c0 c2 n) c0 c2 fu v1 v3 r2 (jshl (nI 1) v3) (nI 0) M2)
set_option maxHeartbeats 4000000 in
set_option maxRecDepth 100000 in
theorem vX2_sumLots_b2 {G : Rg} {X : Ct} {r : Unit} {Mf : Mm} {c0 : Nat} {c2 : Nat}  (C : cxX2_sumLots G X) (hG : gS G = shX) (hB0 : isB G c0) (hA2 : (gS G)[c2]? = some (.inl (0, 64)))  : ∀ (n : Nat) (v1 : Int32) (v3 : Int32) (M : Mm), fX2_sumLots_b2 c0 c2 n v1 v3 M = some (r, Mf) → V G X 7 none Mf 2 [(0, .ref (gA G c0)), (1, .int v1), (2, .ref (gA G c2)), (3, .int v3)] [] M := by
  intro n
  induction n with
  | zero => intro v1 v3 M hf; rw [fX2_sumLots_b2] at hf; cases hf
  | succ n ih =>
    intro v1 v3 M hf
    rw [fX2_sumLots_b2] at hf
    refine V.iload_n (pc := 2) C 3 rfl dX2_sumLots_2 ?_
    refine V.bipush (pc := 3) C (nI 6) (by decide) dX2_sumLots_3 ?_
    rcases it_some hf with ⟨h1, hf⟩ | ⟨h1, hf⟩
    · refine V.ic_geT (pc := 5) C 61 h1 (by decide) dX2_sumLots_5 ?_
      exact V.retV (pc := 61) C hf dX2_sumLots_61
    · refine V.ic_geF (pc := 5) C 61 h1 (by decide) dX2_sumLots_5 ?_
      refine V.aload_n (pc := 8) C 0 rfl dX2_sumLots_8 ?_
      refine V.iload_n (pc := 9) C 1 rfl dX2_sumLots_9 ?_
      refine V.bipush (pc := 10) C (nI 6) (by decide) dX2_sumLots_10 ?_
      refine V.imul (pc := 12) C dX2_sumLots_12 ?_
      refine V.iload_n (pc := 13) C 3 rfl dX2_sumLots_13 ?_
      refine V.iadd (pc := 14) C dX2_sumLots_14 ?_
      obtain ⟨r2, M2, h2, hf⟩ := bd_some hf
      refine V.callVi (pc := 15) (As := [.int ((v1 * (nI 6)) + v3)]) (rest := []) C (mX0_worth X.2.1 hG hB0 h2) mf_X0_worth clX0 hB0.1 wM_X2_79 rfl rfl ⟨by decide, by decide⟩ (Nat.le_of_ble_eq_true rfl) dX2_sumLots_15 ?_
      refine V.istore (pc := 18) (lv' := [(4, .int r2), (0, .ref (gA G c0)), (1, .int v1), (2, .ref (gA G c2)), (3, .int v3)]) C (by decide) rfl dX2_sumLots_18 ?_
      refine V.iconst (pc := 20) C (nI 1) (by decide) dX2_sumLots_20 ?_
      refine V.iload_n (pc := 21) C 4 rfl dX2_sumLots_21 ?_
      refine V.ishl (pc := 22) C dX2_sumLots_22 ?_
      refine V.istore (pc := 23) (lv' := [(5, .int (jshl (nI 1) v3)), (4, .int r2), (0, .ref (gA G c0)), (1, .int v1), (2, .ref (gA G c2)), (3, .int v3)]) C (by decide) rfl dX2_sumLots_23 ?_
      refine V.iconst (pc := 25) C (nI 0) (by decide) dX2_sumLots_25 ?_
      refine V.istore (pc := 26) (lv' := [(6, .int (nI 0)), (5, .int (jshl (nI 1) v3)), (4, .int r2), (0, .ref (gA G c0)), (1, .int v1), (2, .ref (gA G c2)), (3, .int v3)]) C (by decide) rfl dX2_sumLots_26 ?_
      refine V.sub C [3, 4, 5, 6, 2, 1, 0] (lv' := [(0, .ref (gA G c0)), (1, .int v1), (2, .ref (gA G c2)), (3, .int v3), (4, .int r2), (5, .int (jshl (nI 1) v3)), (6, .int (nI 0))]) rfl ?_
      exact vX2_sumLots_b28 C hG hB0 hA2 ih fu _ _ _ _ _ _ hf
def fX2_sumLots (c0 : Nat) (x1 : Int32) (c2 : Nat) (M : Mm) : Option (Unit × Mm) :=
fX2_sumLots_b2 c0 c2 fu x1 (nI 0) M
set_option maxHeartbeats 4000000 in
set_option maxRecDepth 100000 in
theorem mX2_sumLots (l : Launch) {G : Rg} (hG : gS G = shX) {c0 : Nat} {x1 : Int32} {c2 : Nat} (hB0 : isB G c0) (hA2 : (gS G)[c2]? = some (.inl (0, 64))) {M Mf : Mm} {r : Unit} (hf : fX2_sumLots c0 x1 c2 M = some (r, Mf)) : Mt l G yX2_sumLots cX2_sumLots 7 (none) 1 21 [.ref (gA G c0), .int x1, .ref (gA G c2)] M none Mf := by
  refine Mt.of (by decide) (Nat.le_of_ble_eq_true rfl) ?_
  intro X C hX
  subst hX
  have C : cxX2_sumLots G X := C
  show V G X 7 none Mf 0 [(0, .ref (gA G c0)), (1, .int x1), (2, .ref (gA G c2))] [] M
  rw [fX2_sumLots] at hf
  refine V.iconst (pc := 0) C (nI 0) (by decide) dX2_sumLots_0 ?_
  refine V.istore_n (pc := 1) (lv' := [(3, .int (nI 0)), (0, .ref (gA G c0)), (1, .int x1), (2, .ref (gA G c2))]) C (by decide) rfl dX2_sumLots_1 ?_
  refine V.sub C [1, 2, 3, 0] (lv' := [(0, .ref (gA G c0)), (1, .int x1), (2, .ref (gA G c2)), (3, .int (nI 0))]) rfl ?_
  exact vX2_sumLots_b2 C hG hB0 hA2  fu _ _ _ hf
theorem dX2_weighLots_0 : decode cX2_weighLots 0 = .ok (.aload_n 0, 1) := by decide +kernel
theorem dX2_weighLots_1 : decode cX2_weighLots 1 = .ok (.aload_n 1, 1) := by decide +kernel
theorem dX2_weighLots_2 : decode cX2_weighLots 2 = .ok (.bipush 7, 2) := by decide +kernel
theorem dX2_weighLots_4 : decode cX2_weighLots 4 = .ok (.iconst 0, 1) := by decide +kernel
theorem dX2_weighLots_5 : decode cX2_weighLots 5 = .ok (.invokevirtual 70, 3) := by decide +kernel
theorem dX2_weighLots_8 : decode cX2_weighLots 8 = .ok (.putfield 50, 3) := by decide +kernel
theorem dX2_weighLots_11 : decode cX2_weighLots 11 = .ok (.aload_n 0, 1) := by decide +kernel
theorem dX2_weighLots_12 : decode cX2_weighLots 12 = .ok (.aload_n 1, 1) := by decide +kernel
theorem dX2_weighLots_13 : decode cX2_weighLots 13 = .ok (.bipush 7, 2) := by decide +kernel
theorem dX2_weighLots_15 : decode cX2_weighLots 15 = .ok (.iconst 1, 1) := by decide +kernel
theorem dX2_weighLots_16 : decode cX2_weighLots 16 = .ok (.invokevirtual 70, 3) := by decide +kernel
theorem dX2_weighLots_19 : decode cX2_weighLots 19 = .ok (.putfield 63, 3) := by decide +kernel
theorem dX2_weighLots_22 : decode cX2_weighLots 22 = .ok (.aload_n 1, 1) := by decide +kernel
theorem dX2_weighLots_23 : decode cX2_weighLots 23 = .ok (.iconst 0, 1) := by decide +kernel
theorem dX2_weighLots_24 : decode cX2_weighLots 24 = .ok (.aload_n 0, 1) := by decide +kernel
theorem dX2_weighLots_25 : decode cX2_weighLots 25 = .ok (.getfield 9, 3) := by decide +kernel
theorem dX2_weighLots_28 : decode cX2_weighLots 28 = .ok (.invokestatic 75, 3) := by decide +kernel
theorem dX2_weighLots_31 : decode cX2_weighLots 31 = .ok (.aload_n 1, 1) := by decide +kernel
theorem dX2_weighLots_32 : decode cX2_weighLots 32 = .ok (.iconst 1, 1) := by decide +kernel
theorem dX2_weighLots_33 : decode cX2_weighLots 33 = .ok (.aload_n 0, 1) := by decide +kernel
theorem dX2_weighLots_34 : decode cX2_weighLots 34 = .ok (.getfield 15, 3) := by decide +kernel
theorem dX2_weighLots_37 : decode cX2_weighLots 37 = .ok (.invokestatic 75, 3) := by decide +kernel
theorem dX2_weighLots_40 : decode cX2_weighLots 40 = .ok (.return_, 1) := by decide +kernel
abbrev cxX2_weighLots (G : Rg) (X : Ct) : Prop := Cx G X cX2_weighLots 2 RX2 (none) 2 47 (Cond.code yX2_weighLots cX2_weighLots 2 (none))
def fX2_weighLots (c1 : Nat) (M : Mm) : Option (Unit × Mm) :=
bd (fX0_lotIn c1 (nI 7) (nI 0) M) fun r1 M1 =>
bd (fX0_lotIn c1 (nI 7) (nI 1) (sI M1 14 2 r1)) fun r2 M2 =>
bd (fX2_sumLots c1 (nI 0) 15 (sI M2 14 3 r2)) fun _ M3 =>
bd (fX2_sumLots c1 (nI 1) 16 M3) fun _ M4 =>
some ((), M4)
set_option maxHeartbeats 4000000 in
set_option maxRecDepth 100000 in
theorem mX2_weighLots (l : Launch) {G : Rg} (hG : gS G = shX) {c1 : Nat} (hB1 : isB G c1) {M Mf : Mm} {r : Unit} (hf : fX2_weighLots c1 M = some (r, Mf)) : Mt l G yX2_weighLots cX2_weighLots 2 (none) 2 47 [.ref (gA G 14), .ref (gA G c1)] M none Mf := by
  refine Mt.of (by decide) (Nat.le_of_ble_eq_true rfl) ?_
  intro X C hX
  subst hX
  have C : cxX2_weighLots G X := C
  show V G X 2 none Mf 0 [(0, .ref (gA G 14)), (1, .ref (gA G c1))] [] M
  rw [fX2_weighLots] at hf
  refine V.aload_n (pc := 0) C 0 rfl dX2_weighLots_0 ?_
  refine V.aload_n (pc := 1) C 1 rfl dX2_weighLots_1 ?_
  refine V.bipush (pc := 2) C (nI 7) (by decide) dX2_weighLots_2 ?_
  refine V.iconst (pc := 4) C (nI 0) (by decide) dX2_weighLots_4 ?_
  obtain ⟨r1, M1, h1, hf⟩ := bd_some hf
  refine V.callVi (pc := 5) (As := [.int (nI 7), .int (nI 0)]) (rest := [.ref (gA G 14)]) C (mX0_lotIn X.2.1 hG hB1 h1) mf_X0_lotIn clX0 hB1.1 wM_X2_70 rfl rfl ⟨by decide, by decide⟩ (Nat.le_of_ble_eq_true rfl) dX2_weighLots_5 ?_
  refine V.putI (pc := 8) C clX2 inX2 (sx_14 hG) 2 (by decide) wF_X2_50 tyX2 tyX2_ok nmX2 rfl (tyX2_ok 2 (by decide)) rfl dX2_weighLots_8 ?_
  refine V.aload_n (pc := 11) C 0 rfl dX2_weighLots_11 ?_
  refine V.aload_n (pc := 12) C 1 rfl dX2_weighLots_12 ?_
  refine V.bipush (pc := 13) C (nI 7) (by decide) dX2_weighLots_13 ?_
  refine V.iconst (pc := 15) C (nI 1) (by decide) dX2_weighLots_15 ?_
  obtain ⟨r2, M2, h2, hf⟩ := bd_some hf
  refine V.callVi (pc := 16) (As := [.int (nI 7), .int (nI 1)]) (rest := [.ref (gA G 14)]) C (mX0_lotIn X.2.1 hG hB1 h2) mf_X0_lotIn clX0 hB1.1 wM_X2_70 rfl rfl ⟨by decide, by decide⟩ (Nat.le_of_ble_eq_true rfl) dX2_weighLots_16 ?_
  refine V.putI (pc := 19) C clX2 inX2 (sx_14 hG) 3 (by decide) wF_X2_63 tyX2 tyX2_ok nmX2 rfl (tyX2_ok 3 (by decide)) rfl dX2_weighLots_19 ?_
  refine V.aload_n (pc := 22) C 1 rfl dX2_weighLots_22 ?_
  refine V.iconst (pc := 23) C (nI 0) (by decide) dX2_weighLots_23 ?_
  refine V.aload_n (pc := 24) C 0 rfl dX2_weighLots_24 ?_
  refine V.getR (pc := 25) C clX2 inX2 (sx_14 hG) 4 (by decide) wF_X2_9 rfl dX2_weighLots_25 ?_
  obtain ⟨_, M3, h3, hf⟩ := bd_some hf
  refine V.callSv (pc := 28) (As := [.ref (gA G c1), .int (nI 0), .ref (gA G 15)]) (rest := []) C (mX2_sumLots X.2.1 hG hB1 (sx_15 hG) h3) mf_X2_sumLots wM_X2_75 rfl rfl ⟨by decide, by decide⟩ (Nat.le_of_ble_eq_true rfl) dX2_weighLots_28 ?_
  refine V.aload_n (pc := 31) C 1 rfl dX2_weighLots_31 ?_
  refine V.iconst (pc := 32) C (nI 1) (by decide) dX2_weighLots_32 ?_
  refine V.aload_n (pc := 33) C 0 rfl dX2_weighLots_33 ?_
  refine V.getR (pc := 34) C clX2 inX2 (sx_14 hG) 5 (by decide) wF_X2_15 rfl dX2_weighLots_34 ?_
  obtain ⟨_, M4, h4, hf⟩ := bd_some hf
  refine V.callSv (pc := 37) (As := [.ref (gA G c1), .int (nI 1), .ref (gA G 16)]) (rest := []) C (mX2_sumLots X.2.1 hG hB1 (sx_16 hG) h4) mf_X2_sumLots wM_X2_75 rfl rfl ⟨by decide, by decide⟩ (Nat.le_of_ble_eq_true rfl) dX2_weighLots_37 ?_
  exact V.retV (pc := 40) C hf dX2_weighLots_40
theorem dX2_order_0 : decode cX2_order 0 = .ok (.iload_n 0, 1) := by decide +kernel
theorem dX2_order_1 : decode cX2_order 1 = .ok (.invokestatic 36, 3) := by decide +kernel
theorem dX2_order_4 : decode cX2_order 4 = .ok (.istore_n 3, 1) := by decide +kernel
theorem dX2_order_5 : decode cX2_order 5 = .ok (.iload_n 1, 1) := by decide +kernel
theorem dX2_order_6 : decode cX2_order 6 = .ok (.invokestatic 36, 3) := by decide +kernel
theorem dX2_order_9 : decode cX2_order 9 = .ok (.istore 4, 2) := by decide +kernel
theorem dX2_order_11 : decode cX2_order 11 = .ok (.iload_n 2, 1) := by decide +kernel
theorem dX2_order_12 : decode cX2_order 12 = .ok (.ifCond .eq 16, 3) := by decide +kernel
theorem dX2_order_15 : decode cX2_order 15 = .ok (.bipush 6, 2) := by decide +kernel
theorem dX2_order_17 : decode cX2_order 17 = .ok (.iload_n 3, 1) := by decide +kernel
theorem dX2_order_18 : decode cX2_order 18 = .ok (.isub, 1) := by decide +kernel
theorem dX2_order_19 : decode cX2_order 19 = .ok (.bipush 8, 2) := by decide +kernel
theorem dX2_order_21 : decode cX2_order 21 = .ok (.imul, 1) := by decide +kernel
theorem dX2_order_22 : decode cX2_order 22 = .ok (.iload 4, 2) := by decide +kernel
theorem dX2_order_24 : decode cX2_order 24 = .ok (.iadd, 1) := by decide +kernel
theorem dX2_order_25 : decode cX2_order 25 = .ok (.goto 10, 3) := by decide +kernel
theorem dX2_order_28 : decode cX2_order 28 = .ok (.iload 4, 2) := by decide +kernel
theorem dX2_order_30 : decode cX2_order 30 = .ok (.bipush 8, 2) := by decide +kernel
theorem dX2_order_32 : decode cX2_order 32 = .ok (.imul, 1) := by decide +kernel
theorem dX2_order_33 : decode cX2_order 33 = .ok (.iload_n 3, 1) := by decide +kernel
theorem dX2_order_34 : decode cX2_order 34 = .ok (.iadd, 1) := by decide +kernel
theorem dX2_order_35 : decode cX2_order 35 = .ok (.istore 5, 2) := by decide +kernel
theorem dX2_order_37 : decode cX2_order 37 = .ok (.iload 5, 2) := by decide +kernel
theorem dX2_order_39 : decode cX2_order 39 = .ok (.bipush 64, 2) := by decide +kernel
theorem dX2_order_41 : decode cX2_order 41 = .ok (.imul, 1) := by decide +kernel
theorem dX2_order_42 : decode cX2_order 42 = .ok (.iload_n 0, 1) := by decide +kernel
theorem dX2_order_43 : decode cX2_order 43 = .ok (.iadd, 1) := by decide +kernel
theorem dX2_order_44 : decode cX2_order 44 = .ok (.bipush 64, 2) := by decide +kernel
theorem dX2_order_46 : decode cX2_order 46 = .ok (.imul, 1) := by decide +kernel
theorem dX2_order_47 : decode cX2_order 47 = .ok (.iload_n 1, 1) := by decide +kernel
theorem dX2_order_48 : decode cX2_order 48 = .ok (.iadd, 1) := by decide +kernel
theorem dX2_order_49 : decode cX2_order 49 = .ok (.ireturn, 1) := by decide +kernel
abbrev cxX2_order (G : Rg) (X : Ct) : Prop := Cx G X cX2_order 6 RX2 (some .int) 1 20 (Cond.code yX2_order cX2_order 6 (some .int))
def fX2_order_b35   (v0 : Int32) (v1 : Int32) (s0 : Int32) (M : Mm) : Option (Int32 × Mm) :=
some (((((s0 * (nI 64)) + v0) * (nI 64)) + v1), M)
set_option maxHeartbeats 4000000 in
set_option maxRecDepth 100000 in
theorem vX2_order_b35 {G : Rg} {X : Ct} {r : Int32} {Mf : Mm}   (C : cxX2_order G X) (hG : gS G = shX)   (v0 : Int32) (v1 : Int32) (s0 : Int32) (M : Mm) (hf : fX2_order_b35 v0 v1 s0 M = some (r, Mf)) : V G X 6 (some (.int r)) Mf 35 [(0, .int v0), (1, .int v1)] [.int s0] M := by
  rw [fX2_order_b35] at hf
  refine V.istore (pc := 35) (lv' := [(5, .int s0), (0, .int v0), (1, .int v1)]) C (by decide) rfl dX2_order_35 ?_
  refine V.iload (pc := 37) C 0 rfl dX2_order_37 ?_
  refine V.bipush (pc := 39) C (nI 64) (by decide) dX2_order_39 ?_
  refine V.imul (pc := 41) C dX2_order_41 ?_
  refine V.iload_n (pc := 42) C 1 rfl dX2_order_42 ?_
  refine V.iadd (pc := 43) C dX2_order_43 ?_
  refine V.bipush (pc := 44) C (nI 64) (by decide) dX2_order_44 ?_
  refine V.imul (pc := 46) C dX2_order_46 ?_
  refine V.iload_n (pc := 47) C 2 rfl dX2_order_47 ?_
  refine V.iadd (pc := 48) C dX2_order_48 ?_
  exact V.retI (pc := 49) C hf dX2_order_49
def fX2_order (x0 : Int32) (x1 : Int32) (x2 : Int32) (M : Mm) : Option (Int32 × Mm) :=
bd (fJ6_bitCount_0f7a4 x0 M) fun r1 M1 =>
bd (fJ6_bitCount_0f7a4 x1 M1) fun r2 M2 =>
if x2 = (nI 0) then
(fX2_order_b35 x0 x1 ((r2 * (nI 8)) + r1) M2)
else
(fX2_order_b35 x0 x1 ((((nI 6) - r1) * (nI 8)) + r2) M2)
set_option maxHeartbeats 4000000 in
set_option maxRecDepth 100000 in
theorem mX2_order (l : Launch) {G : Rg} (hG : gS G = shX) {x0 : Int32} {x1 : Int32} {x2 : Int32}  {M Mf : Mm} {r : Int32} (hf : fX2_order x0 x1 x2 M = some (r, Mf)) : Mt l G yX2_order cX2_order 6 (some .int) 1 20 [.int x0, .int x1, .int x2] M (some (.int r)) Mf := by
  refine Mt.of (by decide) (Nat.le_of_ble_eq_true rfl) ?_
  intro X C hX
  subst hX
  have C : cxX2_order G X := C
  show V G X 6 (some (.int r)) Mf 0 [(0, .int x0), (1, .int x1), (2, .int x2)] [] M
  rw [fX2_order] at hf
  refine V.iload_n (pc := 0) C 0 rfl dX2_order_0 ?_
  obtain ⟨r1, M1, h1, hf⟩ := bd_some hf
  refine V.callSi (pc := 1) (As := [.int x0]) (rest := []) C (mJ6_bitCount_0f7a4 X.2.1  h1) mf_J6_bitCount_0f7a4 wM_X2_36 rfl rfl ⟨by decide, by decide⟩ (Nat.le_of_ble_eq_true rfl) dX2_order_1 ?_
  refine V.istore_n (pc := 4) (lv' := [(3, .int r1), (0, .int x0), (1, .int x1), (2, .int x2)]) C (by decide) rfl dX2_order_4 ?_
  refine V.iload_n (pc := 5) C 2 rfl dX2_order_5 ?_
  obtain ⟨r2, M2, h2, hf⟩ := bd_some hf
  refine V.callSi (pc := 6) (As := [.int x1]) (rest := []) C (mJ6_bitCount_0f7a4 X.2.1  h2) mf_J6_bitCount_0f7a4 wM_X2_36 rfl rfl ⟨by decide, by decide⟩ (Nat.le_of_ble_eq_true rfl) dX2_order_6 ?_
  refine V.istore (pc := 9) (lv' := [(4, .int r2), (3, .int r1), (0, .int x0), (1, .int x1), (2, .int x2)]) C (by decide) rfl dX2_order_9 ?_
  refine V.iload_n (pc := 11) C 4 rfl dX2_order_11 ?_
  rcases it_some hf with ⟨h3, hf⟩ | ⟨h3, hf⟩
  · refine V.if_eqT (pc := 12) C 28 h3 (by decide) dX2_order_12 ?_
    refine V.iload (pc := 28) C 0 rfl dX2_order_28 ?_
    refine V.bipush (pc := 30) C (nI 8) (by decide) dX2_order_30 ?_
    refine V.imul (pc := 32) C dX2_order_32 ?_
    refine V.iload_n (pc := 33) C 1 rfl dX2_order_33 ?_
    refine V.iadd (pc := 34) C dX2_order_34 ?_
    refine V.sub C [2, 3] (lv' := [(0, .int x0), (1, .int x1)]) rfl ?_
    exact vX2_order_b35 C hG    _ _ _ _ hf
  · refine V.if_eqF (pc := 12) C 28 h3 (by decide) dX2_order_12 ?_
    refine V.bipush (pc := 15) C (nI 6) (by decide) dX2_order_15 ?_
    refine V.iload_n (pc := 17) C 1 rfl dX2_order_17 ?_
    refine V.isub (pc := 18) C dX2_order_18 ?_
    refine V.bipush (pc := 19) C (nI 8) (by decide) dX2_order_19 ?_
    refine V.imul (pc := 21) C dX2_order_21 ?_
    refine V.iload (pc := 22) C 0 rfl dX2_order_22 ?_
    refine V.iadd (pc := 24) C dX2_order_24 ?_
    refine V.goto (pc := 25) C 35 (by decide) dX2_order_25 ?_
    refine V.sub C [2, 3] (lv' := [(0, .int x0), (1, .int x1)]) rfl ?_
    exact vX2_order_b35 C hG    _ _ _ _ hf
theorem dX2_bestWith_0 : decode cX2_bestWith 0 = .ok (.ldc 49, 2) := by decide +kernel
theorem dX2_bestWith_2 : decode cX2_bestWith 2 = .ok (.istore_n 3, 1) := by decide +kernel
theorem dX2_bestWith_3 : decode cX2_bestWith 3 = .ok (.iconst 1, 1) := by decide +kernel
theorem dX2_bestWith_4 : decode cX2_bestWith 4 = .ok (.istore 4, 2) := by decide +kernel
theorem dX2_bestWith_6 : decode cX2_bestWith 6 = .ok (.iload 4, 2) := by decide +kernel
theorem dX2_bestWith_8 : decode cX2_bestWith 8 = .ok (.bipush 64, 2) := by decide +kernel
theorem dX2_bestWith_10 : decode cX2_bestWith 10 = .ok (.if_icmp .ge 49, 3) := by decide +kernel
theorem dX2_bestWith_13 : decode cX2_bestWith 13 = .ok (.iload 4, 2) := by decide +kernel
theorem dX2_bestWith_15 : decode cX2_bestWith 15 = .ok (.aload_n 0, 1) := by decide +kernel
theorem dX2_bestWith_16 : decode cX2_bestWith 16 = .ok (.getfield 63, 3) := by decide +kernel
theorem dX2_bestWith_19 : decode cX2_bestWith 19 = .ok (.iconst (-1), 1) := by decide +kernel
theorem dX2_bestWith_20 : decode cX2_bestWith 20 = .ok (.ixor, 1) := by decide +kernel
theorem dX2_bestWith_21 : decode cX2_bestWith 21 = .ok (.iand, 1) := by decide +kernel
theorem dX2_bestWith_22 : decode cX2_bestWith 22 = .ok (.ifCond .ne 31, 3) := by decide +kernel
theorem dX2_bestWith_25 : decode cX2_bestWith 25 = .ok (.aload_n 0, 1) := by decide +kernel
theorem dX2_bestWith_26 : decode cX2_bestWith 26 = .ok (.getfield 15, 3) := by decide +kernel
theorem dX2_bestWith_29 : decode cX2_bestWith 29 = .ok (.iload 4, 2) := by decide +kernel
theorem dX2_bestWith_31 : decode cX2_bestWith 31 = .ok (.iaload, 1) := by decide +kernel
theorem dX2_bestWith_32 : decode cX2_bestWith 32 = .ok (.aload_n 0, 1) := by decide +kernel
theorem dX2_bestWith_33 : decode cX2_bestWith 33 = .ok (.getfield 9, 3) := by decide +kernel
theorem dX2_bestWith_36 : decode cX2_bestWith 36 = .ok (.iload_n 1, 1) := by decide +kernel
theorem dX2_bestWith_37 : decode cX2_bestWith 37 = .ok (.iaload, 1) := by decide +kernel
theorem dX2_bestWith_38 : decode cX2_bestWith 38 = .ok (.if_icmp .ne 15, 3) := by decide +kernel
theorem dX2_bestWith_41 : decode cX2_bestWith 41 = .ok (.iload_n 3, 1) := by decide +kernel
theorem dX2_bestWith_42 : decode cX2_bestWith 42 = .ok (.iload_n 1, 1) := by decide +kernel
theorem dX2_bestWith_43 : decode cX2_bestWith 43 = .ok (.iload 4, 2) := by decide +kernel
theorem dX2_bestWith_45 : decode cX2_bestWith 45 = .ok (.iload_n 2, 1) := by decide +kernel
theorem dX2_bestWith_46 : decode cX2_bestWith 46 = .ok (.invokestatic 66, 3) := by decide +kernel
theorem dX2_bestWith_49 : decode cX2_bestWith 49 = .ok (.invokestatic 57, 3) := by decide +kernel
theorem dX2_bestWith_52 : decode cX2_bestWith 52 = .ok (.istore_n 3, 1) := by decide +kernel
theorem dX2_bestWith_53 : decode cX2_bestWith 53 = .ok (.iinc 4 1, 3) := by decide +kernel
theorem dX2_bestWith_56 : decode cX2_bestWith 56 = .ok (.goto (-50), 3) := by decide +kernel
theorem dX2_bestWith_59 : decode cX2_bestWith 59 = .ok (.iload_n 3, 1) := by decide +kernel
theorem dX2_bestWith_60 : decode cX2_bestWith 60 = .ok (.ireturn, 1) := by decide +kernel
abbrev cxX2_bestWith (G : Rg) (X : Ct) : Prop := Cx G X cX2_bestWith 5 RX2 (some .int) 2 45 (Cond.code yX2_bestWith cX2_bestWith 5 (some .int))
def fX2_bestWith_b6   : Nat → Int32 → Int32 → Int32 → Int32 → Mm → Option (Int32 × Mm)
  | 0, _, _, _, _, _ => none
  | n + 1, v1, v2, v3, v4, M =>
    if (nI 64) ≤ v4 then
    (some (v3, M))
    else
    (if (v4 &&& ((M.1 14 3) ^^^ (mI 1))) = (nI 0) then
    (gd (inb v4 64) (
    gd (inb v1 64) (
    if (M.1 16 v4.toNatClampNeg) = (M.1 15 v1.toNatClampNeg) then
    (bd (fX2_order v1 v4 v2 M) fun r6 M6 =>
    fX2_bestWith_b6  n v1 v2 (jmin v3 r6) (v4 + (nI 1)) M6)
    else
    (fX2_bestWith_b6  n v1 v2 v3 (v4 + (nI 1)) M))))
    else
    (fX2_bestWith_b6  n v1 v2 v3 (v4 + (nI 1)) M))
set_option maxHeartbeats 4000000 in
set_option maxRecDepth 100000 in
theorem vX2_bestWith_b6 {G : Rg} {X : Ct} {r : Int32} {Mf : Mm}   (C : cxX2_bestWith G X) (hG : gS G = shX)   : ∀ (n : Nat) (v1 : Int32) (v2 : Int32) (v3 : Int32) (v4 : Int32) (M : Mm), fX2_bestWith_b6 n v1 v2 v3 v4 M = some (r, Mf) → V G X 5 (some (.int r)) Mf 6 [(0, .ref (gA G 14)), (1, .int v1), (2, .int v2), (3, .int v3), (4, .int v4)] [] M := by
  intro n
  induction n with
  | zero => intro v1 v2 v3 v4 M hf; rw [fX2_bestWith_b6] at hf; cases hf
  | succ n ih =>
    intro v1 v2 v3 v4 M hf
    rw [fX2_bestWith_b6] at hf
    refine V.iload (pc := 6) C 4 rfl dX2_bestWith_6 ?_
    refine V.bipush (pc := 8) C (nI 64) (by decide) dX2_bestWith_8 ?_
    rcases it_some hf with ⟨h1, hf⟩ | ⟨h1, hf⟩
    · refine V.ic_geT (pc := 10) C 59 h1 (by decide) dX2_bestWith_10 ?_
      refine V.iload_n (pc := 59) C 3 rfl dX2_bestWith_59 ?_
      exact V.retI (pc := 60) C hf dX2_bestWith_60
    · refine V.ic_geF (pc := 10) C 59 h1 (by decide) dX2_bestWith_10 ?_
      refine V.iload (pc := 13) C 4 rfl dX2_bestWith_13 ?_
      refine V.aload_n (pc := 15) C 0 rfl dX2_bestWith_15 ?_
      refine V.getI (pc := 16) C clX2 inX2 (sx_14 hG) 3 (by decide) wF_X2_63 rfl dX2_bestWith_16 ?_
      refine V.iconst (pc := 19) C (mI 1) (by decide) dX2_bestWith_19 ?_
      refine V.ixor (pc := 20) C dX2_bestWith_20 ?_
      refine V.iand (pc := 21) C dX2_bestWith_21 ?_
      rcases it_some hf with ⟨h2, hf⟩ | ⟨h2, hf⟩
      · refine V.if_neF (pc := 22) C 53 h2 (by decide) dX2_bestWith_22 ?_
        refine V.aload_n (pc := 25) C 0 rfl dX2_bestWith_25 ?_
        refine V.getR (pc := 26) C clX2 inX2 (sx_14 hG) 5 (by decide) wF_X2_15 rfl dX2_bestWith_26 ?_
        refine V.iload (pc := 29) C 4 rfl dX2_bestWith_29 ?_
        obtain ⟨g3, hf⟩ := gd_some hf
        refine V.iald (pc := 31) C (sx_16 hG) (inb_in g3) dX2_bestWith_31 ?_
        refine V.aload_n (pc := 32) C 0 rfl dX2_bestWith_32 ?_
        refine V.getR (pc := 33) C clX2 inX2 (sx_14 hG) 4 (by decide) wF_X2_9 rfl dX2_bestWith_33 ?_
        refine V.iload_n (pc := 36) C 1 rfl dX2_bestWith_36 ?_
        obtain ⟨g4, hf⟩ := gd_some hf
        refine V.iald (pc := 37) C (sx_15 hG) (inb_in g4) dX2_bestWith_37 ?_
        rcases it_some hf with ⟨h5, hf⟩ | ⟨h5, hf⟩
        · refine V.ic_neF (pc := 38) C 53 h5 (by decide) dX2_bestWith_38 ?_
          refine V.iload_n (pc := 41) C 3 rfl dX2_bestWith_41 ?_
          refine V.iload_n (pc := 42) C 1 rfl dX2_bestWith_42 ?_
          refine V.iload (pc := 43) C 4 rfl dX2_bestWith_43 ?_
          refine V.iload_n (pc := 45) C 2 rfl dX2_bestWith_45 ?_
          obtain ⟨r6, M6, h6, hf⟩ := bd_some hf
          refine V.callSi (pc := 46) (As := [.int v1, .int v4, .int v2]) (rest := [.int v3]) C (mX2_order X.2.1 hG  h6) mf_X2_order wM_X2_66 rfl rfl ⟨by decide, by decide⟩ (Nat.le_of_ble_eq_true rfl) dX2_bestWith_46 ?_
          refine V.mmin (pc := 49) C mm_min wM_X2_57 (by decide) (Nat.le_of_ble_eq_true rfl) dX2_bestWith_49 ?_
          refine V.istore_n (pc := 52) (lv' := [(3, .int (jmin v3 r6)), (0, .ref (gA G 14)), (1, .int v1), (2, .int v2), (4, .int v4)]) C (by decide) rfl dX2_bestWith_52 ?_
          refine V.iinc (pc := 53) (lv' := [(4, .int (v4 + (nI 1))), (3, .int (jmin v3 r6)), (0, .ref (gA G 14)), (1, .int v1), (2, .int v2)]) C (v4 + (nI 1)) 4 rfl rfl (by decide) rfl dX2_bestWith_53 ?_
          refine V.goto (pc := 56) C 6 (by decide) dX2_bestWith_56 ?_
          refine V.sub C [2, 3, 4, 1, 0] (lv' := [(0, .ref (gA G 14)), (1, .int v1), (2, .int v2), (3, .int (jmin v3 r6)), (4, .int (v4 + (nI 1)))]) rfl ?_
          exact ih _ _ _ _ _ hf
        · refine V.ic_neT (pc := 38) C 53 h5 (by decide) dX2_bestWith_38 ?_
          refine V.iinc (pc := 53) (lv' := [(4, .int (v4 + (nI 1))), (0, .ref (gA G 14)), (1, .int v1), (2, .int v2), (3, .int v3)]) C (v4 + (nI 1)) 4 rfl rfl (by decide) rfl dX2_bestWith_53 ?_
          refine V.goto (pc := 56) C 6 (by decide) dX2_bestWith_56 ?_
          refine V.sub C [1, 2, 3, 4, 0] (lv' := [(0, .ref (gA G 14)), (1, .int v1), (2, .int v2), (3, .int v3), (4, .int (v4 + (nI 1)))]) rfl ?_
          exact ih _ _ _ _ _ hf
      · refine V.if_neT (pc := 22) C 53 h2 (by decide) dX2_bestWith_22 ?_
        refine V.iinc (pc := 53) (lv' := [(4, .int (v4 + (nI 1))), (0, .ref (gA G 14)), (1, .int v1), (2, .int v2), (3, .int v3)]) C (v4 + (nI 1)) 4 rfl rfl (by decide) rfl dX2_bestWith_53 ?_
        refine V.goto (pc := 56) C 6 (by decide) dX2_bestWith_56 ?_
        refine V.sub C [1, 2, 3, 4, 0] (lv' := [(0, .ref (gA G 14)), (1, .int v1), (2, .int v2), (3, .int v3), (4, .int (v4 + (nI 1)))]) rfl ?_
        exact ih _ _ _ _ _ hf
def fX2_bestWith (x1 : Int32) (x2 : Int32) (M : Mm) : Option (Int32 × Mm) :=
fX2_bestWith_b6 fu x1 x2 (nI 1048576) (nI 1) M
set_option maxHeartbeats 4000000 in
set_option maxRecDepth 100000 in
theorem mX2_bestWith (l : Launch) {G : Rg} (hG : gS G = shX) {x1 : Int32} {x2 : Int32}  {M Mf : Mm} {r : Int32} (hf : fX2_bestWith x1 x2 M = some (r, Mf)) : Mt l G yX2_bestWith cX2_bestWith 5 (some .int) 2 45 [.ref (gA G 14), .int x1, .int x2] M (some (.int r)) Mf := by
  refine Mt.of (by decide) (Nat.le_of_ble_eq_true rfl) ?_
  intro X C hX
  subst hX
  have C : cxX2_bestWith G X := C
  show V G X 5 (some (.int r)) Mf 0 [(0, .ref (gA G 14)), (1, .int x1), (2, .int x2)] [] M
  rw [fX2_bestWith] at hf
  refine V.ldc (pc := 0) C wC_X2_49 dX2_bestWith_0 ?_
  refine V.istore_n (pc := 2) (lv' := [(3, .int (nI 1048576)), (0, .ref (gA G 14)), (1, .int x1), (2, .int x2)]) C (by decide) rfl dX2_bestWith_2 ?_
  refine V.iconst (pc := 3) C (nI 1) (by decide) dX2_bestWith_3 ?_
  refine V.istore (pc := 4) (lv' := [(4, .int (nI 1)), (3, .int (nI 1048576)), (0, .ref (gA G 14)), (1, .int x1), (2, .int x2)]) C (by decide) rfl dX2_bestWith_4 ?_
  refine V.sub C [2, 3, 4, 1, 0] (lv' := [(0, .ref (gA G 14)), (1, .int x1), (2, .int x2), (3, .int (nI 1048576)), (4, .int (nI 1))]) rfl ?_
  exact vX2_bestWith_b6 C hG   fu _ _ _ _ _ hf
theorem dX2_find_0 : decode cX2_find 0 = .ok (.aload_n 0, 1) := by decide +kernel
theorem dX2_find_1 : decode cX2_find 1 = .ok (.aload_n 1, 1) := by decide +kernel
theorem dX2_find_2 : decode cX2_find 2 = .ok (.invokevirtual 45, 3) := by decide +kernel
theorem dX2_find_5 : decode cX2_find 5 = .ok (.ldc 49, 2) := by decide +kernel
theorem dX2_find_7 : decode cX2_find 7 = .ok (.istore 4, 2) := by decide +kernel
theorem dX2_find_9 : decode cX2_find 9 = .ok (.iconst 1, 1) := by decide +kernel
theorem dX2_find_10 : decode cX2_find 10 = .ok (.istore 5, 2) := by decide +kernel
theorem dX2_find_12 : decode cX2_find 12 = .ok (.iload 5, 2) := by decide +kernel
theorem dX2_find_14 : decode cX2_find 14 = .ok (.bipush 64, 2) := by decide +kernel
theorem dX2_find_16 : decode cX2_find 16 = .ok (.if_icmp .ge 43, 3) := by decide +kernel
theorem dX2_find_19 : decode cX2_find 19 = .ok (.iload 5, 2) := by decide +kernel
theorem dX2_find_21 : decode cX2_find 21 = .ok (.aload_n 0, 1) := by decide +kernel
theorem dX2_find_22 : decode cX2_find 22 = .ok (.getfield 50, 3) := by decide +kernel
theorem dX2_find_25 : decode cX2_find 25 = .ok (.iconst (-1), 1) := by decide +kernel
theorem dX2_find_26 : decode cX2_find 26 = .ok (.ixor, 1) := by decide +kernel
theorem dX2_find_27 : decode cX2_find 27 = .ok (.iand, 1) := by decide +kernel
theorem dX2_find_28 : decode cX2_find 28 = .ok (.ifCond .ne 25, 3) := by decide +kernel
theorem dX2_find_31 : decode cX2_find 31 = .ok (.iload 5, 2) := by decide +kernel
theorem dX2_find_33 : decode cX2_find 33 = .ok (.iload_n 2, 1) := by decide +kernel
theorem dX2_find_34 : decode cX2_find 34 = .ok (.iand, 1) := by decide +kernel
theorem dX2_find_35 : decode cX2_find 35 = .ok (.iload_n 2, 1) := by decide +kernel
theorem dX2_find_36 : decode cX2_find 36 = .ok (.if_icmp .ne 17, 3) := by decide +kernel
theorem dX2_find_39 : decode cX2_find 39 = .ok (.iload 4, 2) := by decide +kernel
theorem dX2_find_41 : decode cX2_find 41 = .ok (.aload_n 0, 1) := by decide +kernel
theorem dX2_find_42 : decode cX2_find 42 = .ok (.iload 5, 2) := by decide +kernel
theorem dX2_find_44 : decode cX2_find 44 = .ok (.iload_n 3, 1) := by decide +kernel
theorem dX2_find_45 : decode cX2_find 45 = .ok (.invokevirtual 53, 3) := by decide +kernel
theorem dX2_find_48 : decode cX2_find 48 = .ok (.invokestatic 57, 3) := by decide +kernel
theorem dX2_find_51 : decode cX2_find 51 = .ok (.istore 4, 2) := by decide +kernel
theorem dX2_find_53 : decode cX2_find 53 = .ok (.iinc 5 1, 3) := by decide +kernel
theorem dX2_find_56 : decode cX2_find 56 = .ok (.goto (-44), 3) := by decide +kernel
theorem dX2_find_59 : decode cX2_find 59 = .ok (.iload 4, 2) := by decide +kernel
theorem dX2_find_61 : decode cX2_find 61 = .ok (.ldc 49, 2) := by decide +kernel
theorem dX2_find_63 : decode cX2_find 63 = .ok (.if_icmp .eq 7, 3) := by decide +kernel
theorem dX2_find_66 : decode cX2_find 66 = .ok (.iconst 1, 1) := by decide +kernel
theorem dX2_find_67 : decode cX2_find 67 = .ok (.goto 4, 3) := by decide +kernel
theorem dX2_find_70 : decode cX2_find 70 = .ok (.iconst 0, 1) := by decide +kernel
theorem dX2_find_71 : decode cX2_find 71 = .ok (.istore 5, 2) := by decide +kernel
theorem dX2_find_73 : decode cX2_find 73 = .ok (.aload_n 0, 1) := by decide +kernel
theorem dX2_find_74 : decode cX2_find 74 = .ok (.iload 5, 2) := by decide +kernel
theorem dX2_find_76 : decode cX2_find 76 = .ok (.ifCond .eq 14, 3) := by decide +kernel
theorem dX2_find_79 : decode cX2_find 79 = .ok (.iload 4, 2) := by decide +kernel
theorem dX2_find_81 : decode cX2_find 81 = .ok (.bipush 64, 2) := by decide +kernel
theorem dX2_find_83 : decode cX2_find 83 = .ok (.idiv, 1) := by decide +kernel
theorem dX2_find_84 : decode cX2_find 84 = .ok (.bipush 64, 2) := by decide +kernel
theorem dX2_find_86 : decode cX2_find 86 = .ok (.irem, 1) := by decide +kernel
theorem dX2_find_87 : decode cX2_find 87 = .ok (.goto 4, 3) := by decide +kernel
theorem dX2_find_90 : decode cX2_find 90 = .ok (.iconst 0, 1) := by decide +kernel
theorem dX2_find_91 : decode cX2_find 91 = .ok (.putfield 32, 3) := by decide +kernel
theorem dX2_find_94 : decode cX2_find 94 = .ok (.aload_n 0, 1) := by decide +kernel
theorem dX2_find_95 : decode cX2_find 95 = .ok (.iload 5, 2) := by decide +kernel
theorem dX2_find_97 : decode cX2_find 97 = .ok (.ifCond .eq 11, 3) := by decide +kernel
theorem dX2_find_100 : decode cX2_find 100 = .ok (.iload 4, 2) := by decide +kernel
theorem dX2_find_102 : decode cX2_find 102 = .ok (.bipush 64, 2) := by decide +kernel
theorem dX2_find_104 : decode cX2_find 104 = .ok (.irem, 1) := by decide +kernel
theorem dX2_find_105 : decode cX2_find 105 = .ok (.goto 4, 3) := by decide +kernel
theorem dX2_find_108 : decode cX2_find 108 = .ok (.iconst 0, 1) := by decide +kernel
theorem dX2_find_109 : decode cX2_find 109 = .ok (.putfield 42, 3) := by decide +kernel
theorem dX2_find_112 : decode cX2_find 112 = .ok (.return_, 1) := by decide +kernel
abbrev cxX2_find (G : Rg) (X : Ct) : Prop := Cx G X cX2_find 6 RX2 (none) 3 69 (Cond.code yX2_find cX2_find 6 (none))
def fX2_find_b91  (c1 : Nat) (v4 : Int32) (v5 : Int32) (s1 : Int32) (M : Mm) : Option (Unit × Mm) :=
if v5 = (nI 0) then
(some ((), (sI (sI M 14 0 s1) 14 1 (nI 0))))
else
(some ((), (sI (sI M 14 0 s1) 14 1 (jrem v4 (nI 64)))))
set_option maxHeartbeats 4000000 in
set_option maxRecDepth 100000 in
theorem vX2_find_b91 {G : Rg} {X : Ct} {r : Unit} {Mf : Mm} {c1 : Nat}  (C : cxX2_find G X) (hG : gS G = shX) (hB1 : isB G c1)  (v4 : Int32) (v5 : Int32) (s1 : Int32) (M : Mm) (hf : fX2_find_b91 c1 v4 v5 s1 M = some (r, Mf)) : V G X 6 none Mf 91 [(0, .ref (gA G 14)), (4, .int v4), (5, .int v5)] [.int s1, .ref (gA G 14)] M := by
  rw [fX2_find_b91] at hf
  refine V.putI (pc := 91) C clX2 inX2 (sx_14 hG) 0 (by decide) wF_X2_32 tyX2 tyX2_ok nmX2 rfl (tyX2_ok 0 (by decide)) rfl dX2_find_91 ?_
  refine V.aload_n (pc := 94) C 0 rfl dX2_find_94 ?_
  refine V.iload (pc := 95) C 2 rfl dX2_find_95 ?_
  rcases it_some hf with ⟨h1, hf⟩ | ⟨h1, hf⟩
  · refine V.if_eqT (pc := 97) C 108 h1 (by decide) dX2_find_97 ?_
    refine V.iconst (pc := 108) C (nI 0) (by decide) dX2_find_108 ?_
    refine V.putI (pc := 109) C clX2 inX2 (sx_14 hG) 1 (by decide) wF_X2_42 tyX2 tyX2_ok nmX2 rfl (tyX2_ok 1 (by decide)) rfl dX2_find_109 ?_
    exact V.retV (pc := 112) C hf dX2_find_112
  · refine V.if_eqF (pc := 97) C 108 h1 (by decide) dX2_find_97 ?_
    refine V.iload (pc := 100) C 1 rfl dX2_find_100 ?_
    refine V.bipush (pc := 102) C (nI 64) (by decide) dX2_find_102 ?_
    refine V.irem (pc := 104) C (by decide) dX2_find_104 ?_
    refine V.goto (pc := 105) C 109 (by decide) dX2_find_105 ?_
    refine V.putI (pc := 109) C clX2 inX2 (sx_14 hG) 1 (by decide) wF_X2_42 tyX2 tyX2_ok nmX2 rfl (tyX2_ok 1 (by decide)) rfl dX2_find_109 ?_
    exact V.retV (pc := 112) C hf dX2_find_112
def fX2_find_b71  (c1 : Nat) (v4 : Int32) (s0 : Int32) (M : Mm) : Option (Unit × Mm) :=
if s0 = (nI 0) then
(fX2_find_b91 c1 v4 s0 (nI 0) M)
else
(fX2_find_b91 c1 v4 s0 (jrem (v4 / (nI 64)) (nI 64)) M)
set_option maxHeartbeats 4000000 in
set_option maxRecDepth 100000 in
theorem vX2_find_b71 {G : Rg} {X : Ct} {r : Unit} {Mf : Mm} {c1 : Nat}  (C : cxX2_find G X) (hG : gS G = shX) (hB1 : isB G c1)  (v4 : Int32) (s0 : Int32) (M : Mm) (hf : fX2_find_b71 c1 v4 s0 M = some (r, Mf)) : V G X 6 none Mf 71 [(0, .ref (gA G 14)), (4, .int v4)] [.int s0] M := by
  rw [fX2_find_b71] at hf
  refine V.istore (pc := 71) (lv' := [(5, .int s0), (0, .ref (gA G 14)), (4, .int v4)]) C (by decide) rfl dX2_find_71 ?_
  refine V.aload_n (pc := 73) C 1 rfl dX2_find_73 ?_
  refine V.iload (pc := 74) C 0 rfl dX2_find_74 ?_
  rcases it_some hf with ⟨h1, hf⟩ | ⟨h1, hf⟩
  · refine V.if_eqT (pc := 76) C 90 h1 (by decide) dX2_find_76 ?_
    refine V.iconst (pc := 90) C (nI 0) (by decide) dX2_find_90 ?_
    refine V.sub C [1, 2, 0] (lv' := [(0, .ref (gA G 14)), (4, .int v4), (5, .int s0)]) rfl ?_
    exact vX2_find_b91 C hG hB1   _ _ _ _ hf
  · refine V.if_eqF (pc := 76) C 90 h1 (by decide) dX2_find_76 ?_
    refine V.iload (pc := 79) C 2 rfl dX2_find_79 ?_
    refine V.bipush (pc := 81) C (nI 64) (by decide) dX2_find_81 ?_
    refine V.idiv (pc := 83) C (by decide) dX2_find_83 ?_
    refine V.bipush (pc := 84) C (nI 64) (by decide) dX2_find_84 ?_
    refine V.irem (pc := 86) C (by decide) dX2_find_86 ?_
    refine V.goto (pc := 87) C 91 (by decide) dX2_find_87 ?_
    refine V.sub C [1, 2, 0] (lv' := [(0, .ref (gA G 14)), (4, .int v4), (5, .int s0)]) rfl ?_
    exact vX2_find_b91 C hG hB1   _ _ _ _ hf
def fX2_find_b59  (c1 : Nat) (v4 : Int32) (M : Mm) : Option (Unit × Mm) :=
if v4 = (nI 1048576) then
(fX2_find_b71 c1 v4 (nI 0) M)
else
(fX2_find_b71 c1 v4 (nI 1) M)
set_option maxHeartbeats 4000000 in
set_option maxRecDepth 100000 in
theorem vX2_find_b59 {G : Rg} {X : Ct} {r : Unit} {Mf : Mm} {c1 : Nat}  (C : cxX2_find G X) (hG : gS G = shX) (hB1 : isB G c1)  (v4 : Int32) (M : Mm) (hf : fX2_find_b59 c1 v4 M = some (r, Mf)) : V G X 6 none Mf 59 [(0, .ref (gA G 14)), (4, .int v4)] [] M := by
  rw [fX2_find_b59] at hf
  refine V.iload (pc := 59) C 1 rfl dX2_find_59 ?_
  refine V.ldc (pc := 61) C wC_X2_49 dX2_find_61 ?_
  rcases it_some hf with ⟨h1, hf⟩ | ⟨h1, hf⟩
  · refine V.ic_eqT (pc := 63) C 70 h1 (by decide) dX2_find_63 ?_
    refine V.iconst (pc := 70) C (nI 0) (by decide) dX2_find_70 ?_
    exact vX2_find_b71 C hG hB1   _ _ _ hf
  · refine V.ic_eqF (pc := 63) C 70 h1 (by decide) dX2_find_63 ?_
    refine V.iconst (pc := 66) C (nI 1) (by decide) dX2_find_66 ?_
    refine V.goto (pc := 67) C 71 (by decide) dX2_find_67 ?_
    exact vX2_find_b71 C hG hB1   _ _ _ hf
def fX2_find_b12  (c1 : Nat) : Nat → Int32 → Int32 → Int32 → Int32 → Mm → Option (Unit × Mm)
  | 0, _, _, _, _, _ => none
  | n + 1, v2, v3, v4, v5, M =>
    if (nI 64) ≤ v5 then
    (fX2_find_b59 c1 v4 M)
    else
    (if (v5 &&& ((M.1 14 2) ^^^ (mI 1))) = (nI 0) then
    (if (v5 &&& v2) = v2 then
    (bd (fX2_bestWith v5 v3 M) fun r4 M4 =>
    fX2_find_b12 c1 n v2 v3 (jmin v4 r4) (v5 + (nI 1)) M4)
    else
    (fX2_find_b12 c1 n v2 v3 v4 (v5 + (nI 1)) M))
    else
    (fX2_find_b12 c1 n v2 v3 v4 (v5 + (nI 1)) M))
set_option maxHeartbeats 4000000 in
set_option maxRecDepth 100000 in
theorem vX2_find_b12 {G : Rg} {X : Ct} {r : Unit} {Mf : Mm} {c1 : Nat}  (C : cxX2_find G X) (hG : gS G = shX) (hB1 : isB G c1)  : ∀ (n : Nat) (v2 : Int32) (v3 : Int32) (v4 : Int32) (v5 : Int32) (M : Mm), fX2_find_b12 c1 n v2 v3 v4 v5 M = some (r, Mf) → V G X 6 none Mf 12 [(0, .ref (gA G 14)), (2, .int v2), (3, .int v3), (4, .int v4), (5, .int v5)] [] M := by
  intro n
  induction n with
  | zero => intro v2 v3 v4 v5 M hf; rw [fX2_find_b12] at hf; cases hf
  | succ n ih =>
    intro v2 v3 v4 v5 M hf
    rw [fX2_find_b12] at hf
    refine V.iload (pc := 12) C 4 rfl dX2_find_12 ?_
    refine V.bipush (pc := 14) C (nI 64) (by decide) dX2_find_14 ?_
    rcases it_some hf with ⟨h1, hf⟩ | ⟨h1, hf⟩
    · refine V.ic_geT (pc := 16) C 59 h1 (by decide) dX2_find_16 ?_
      refine V.sub C [0, 3] (lv' := [(0, .ref (gA G 14)), (4, .int v4)]) rfl ?_
      exact vX2_find_b59 C hG hB1   _ _ hf
    · refine V.ic_geF (pc := 16) C 59 h1 (by decide) dX2_find_16 ?_
      refine V.iload (pc := 19) C 4 rfl dX2_find_19 ?_
      refine V.aload_n (pc := 21) C 0 rfl dX2_find_21 ?_
      refine V.getI (pc := 22) C clX2 inX2 (sx_14 hG) 2 (by decide) wF_X2_50 rfl dX2_find_22 ?_
      refine V.iconst (pc := 25) C (mI 1) (by decide) dX2_find_25 ?_
      refine V.ixor (pc := 26) C dX2_find_26 ?_
      refine V.iand (pc := 27) C dX2_find_27 ?_
      rcases it_some hf with ⟨h2, hf⟩ | ⟨h2, hf⟩
      · refine V.if_neF (pc := 28) C 53 h2 (by decide) dX2_find_28 ?_
        refine V.iload (pc := 31) C 4 rfl dX2_find_31 ?_
        refine V.iload_n (pc := 33) C 1 rfl dX2_find_33 ?_
        refine V.iand (pc := 34) C dX2_find_34 ?_
        refine V.iload_n (pc := 35) C 1 rfl dX2_find_35 ?_
        rcases it_some hf with ⟨h3, hf⟩ | ⟨h3, hf⟩
        · refine V.ic_neF (pc := 36) C 53 h3 (by decide) dX2_find_36 ?_
          refine V.iload (pc := 39) C 3 rfl dX2_find_39 ?_
          refine V.aload_n (pc := 41) C 0 rfl dX2_find_41 ?_
          refine V.iload (pc := 42) C 4 rfl dX2_find_42 ?_
          refine V.iload_n (pc := 44) C 2 rfl dX2_find_44 ?_
          obtain ⟨r4, M4, h4, hf⟩ := bd_some hf
          refine V.callVi (pc := 45) (As := [.int v5, .int v3]) (rest := [.int v4]) C (mX2_bestWith X.2.1 hG  h4) mf_X2_bestWith clX2 (sx_14 hG) wM_X2_53 rfl rfl ⟨by decide, by decide⟩ (Nat.le_of_ble_eq_true rfl) dX2_find_45 ?_
          refine V.mmin (pc := 48) C mm_min wM_X2_57 (by decide) (Nat.le_of_ble_eq_true rfl) dX2_find_48 ?_
          refine V.istore (pc := 51) (lv' := [(4, .int (jmin v4 r4)), (0, .ref (gA G 14)), (2, .int v2), (3, .int v3), (5, .int v5)]) C (by decide) rfl dX2_find_51 ?_
          refine V.iinc (pc := 53) (lv' := [(5, .int (v5 + (nI 1))), (4, .int (jmin v4 r4)), (0, .ref (gA G 14)), (2, .int v2), (3, .int v3)]) C (v5 + (nI 1)) 4 rfl rfl (by decide) rfl dX2_find_53 ?_
          refine V.goto (pc := 56) C 12 (by decide) dX2_find_56 ?_
          refine V.sub C [2, 3, 4, 1, 0] (lv' := [(0, .ref (gA G 14)), (2, .int v2), (3, .int v3), (4, .int (jmin v4 r4)), (5, .int (v5 + (nI 1)))]) rfl ?_
          exact ih _ _ _ _ _ hf
        · refine V.ic_neT (pc := 36) C 53 h3 (by decide) dX2_find_36 ?_
          refine V.iinc (pc := 53) (lv' := [(5, .int (v5 + (nI 1))), (0, .ref (gA G 14)), (2, .int v2), (3, .int v3), (4, .int v4)]) C (v5 + (nI 1)) 4 rfl rfl (by decide) rfl dX2_find_53 ?_
          refine V.goto (pc := 56) C 12 (by decide) dX2_find_56 ?_
          refine V.sub C [1, 2, 3, 4, 0] (lv' := [(0, .ref (gA G 14)), (2, .int v2), (3, .int v3), (4, .int v4), (5, .int (v5 + (nI 1)))]) rfl ?_
          exact ih _ _ _ _ _ hf
      · refine V.if_neT (pc := 28) C 53 h2 (by decide) dX2_find_28 ?_
        refine V.iinc (pc := 53) (lv' := [(5, .int (v5 + (nI 1))), (0, .ref (gA G 14)), (2, .int v2), (3, .int v3), (4, .int v4)]) C (v5 + (nI 1)) 4 rfl rfl (by decide) rfl dX2_find_53 ?_
        refine V.goto (pc := 56) C 12 (by decide) dX2_find_56 ?_
        refine V.sub C [1, 2, 3, 4, 0] (lv' := [(0, .ref (gA G 14)), (2, .int v2), (3, .int v3), (4, .int v4), (5, .int (v5 + (nI 1)))]) rfl ?_
        exact ih _ _ _ _ _ hf
def fX2_find (c1 : Nat) (x2 : Int32) (x3 : Int32) (M : Mm) : Option (Unit × Mm) :=
bd (fX2_weighLots c1 M) fun _ M1 =>
fX2_find_b12 c1 fu x2 x3 (nI 1048576) (nI 1) M1
set_option maxHeartbeats 4000000 in
set_option maxRecDepth 100000 in
theorem mX2_find (l : Launch) {G : Rg} (hG : gS G = shX) {c1 : Nat} {x2 : Int32} {x3 : Int32} (hB1 : isB G c1) {M Mf : Mm} {r : Unit} (hf : fX2_find c1 x2 x3 M = some (r, Mf)) : Mt l G yX2_find cX2_find 6 (none) 3 69 [.ref (gA G 14), .ref (gA G c1), .int x2, .int x3] M none Mf := by
  refine Mt.of (by decide) (Nat.le_of_ble_eq_true rfl) ?_
  intro X C hX
  subst hX
  have C : cxX2_find G X := C
  show V G X 6 none Mf 0 [(0, .ref (gA G 14)), (1, .ref (gA G c1)), (2, .int x2), (3, .int x3)] [] M
  rw [fX2_find] at hf
  refine V.aload_n (pc := 0) C 0 rfl dX2_find_0 ?_
  refine V.aload_n (pc := 1) C 1 rfl dX2_find_1 ?_
  obtain ⟨_, M1, h1, hf⟩ := bd_some hf
  refine V.callVv (pc := 2) (As := [.ref (gA G c1)]) (rest := []) C (mX2_weighLots X.2.1 hG hB1 h1) mf_X2_weighLots clX2 (sx_14 hG) wM_X2_45 rfl rfl ⟨by decide, by decide⟩ (Nat.le_of_ble_eq_true rfl) dX2_find_2 ?_
  refine V.ldc (pc := 5) C wC_X2_49 dX2_find_5 ?_
  refine V.istore (pc := 7) (lv' := [(4, .int (nI 1048576)), (0, .ref (gA G 14)), (1, .ref (gA G c1)), (2, .int x2), (3, .int x3)]) C (by decide) rfl dX2_find_7 ?_
  refine V.iconst (pc := 9) C (nI 1) (by decide) dX2_find_9 ?_
  refine V.istore (pc := 10) (lv' := [(5, .int (nI 1)), (4, .int (nI 1048576)), (0, .ref (gA G 14)), (1, .ref (gA G c1)), (2, .int x2), (3, .int x3)]) C (by decide) rfl dX2_find_10 ?_
  refine V.sub C [2, 4, 5, 1, 0] (lv' := [(0, .ref (gA G 14)), (2, .int x2), (3, .int x3), (4, .int (nI 1048576)), (5, .int (nI 1))]) rfl ?_
  exact vX2_find_b12 C hG hB1  fu _ _ _ _ _ hf
theorem dX2_findForMost_0 : decode cX2_findForMost 0 = .ok (.aload_n 0, 1) := by decide +kernel
theorem dX2_findForMost_1 : decode cX2_findForMost 1 = .ok (.aload_n 1, 1) := by decide +kernel
theorem dX2_findForMost_2 : decode cX2_findForMost 2 = .ok (.iconst 0, 1) := by decide +kernel
theorem dX2_findForMost_3 : decode cX2_findForMost 3 = .ok (.iconst 1, 1) := by decide +kernel
theorem dX2_findForMost_4 : decode cX2_findForMost 4 = .ok (.invokevirtual 28, 3) := by decide +kernel
theorem dX2_findForMost_7 : decode cX2_findForMost 7 = .ok (.return_, 1) := by decide +kernel
abbrev cxX2_findForMost (G : Rg) (X : Ct) : Prop := Cx G X cX2_findForMost 2 RX2 (none) 4 94 (Cond.code yX2_findForMost cX2_findForMost 2 (none))
def fX2_findForMost (c1 : Nat) (M : Mm) : Option (Unit × Mm) :=
bd (fX2_find c1 (nI 0) (nI 1) M) fun _ M1 =>
some ((), M1)
set_option maxHeartbeats 4000000 in
set_option maxRecDepth 100000 in
theorem mX2_findForMost (l : Launch) {G : Rg} (hG : gS G = shX) {c1 : Nat} (hB1 : isB G c1) {M Mf : Mm} {r : Unit} (hf : fX2_findForMost c1 M = some (r, Mf)) : Mt l G yX2_findForMost cX2_findForMost 2 (none) 4 94 [.ref (gA G 14), .ref (gA G c1)] M none Mf := by
  refine Mt.of (by decide) (Nat.le_of_ble_eq_true rfl) ?_
  intro X C hX
  subst hX
  have C : cxX2_findForMost G X := C
  show V G X 2 none Mf 0 [(0, .ref (gA G 14)), (1, .ref (gA G c1))] [] M
  rw [fX2_findForMost] at hf
  refine V.aload_n (pc := 0) C 0 rfl dX2_findForMost_0 ?_
  refine V.aload_n (pc := 1) C 1 rfl dX2_findForMost_1 ?_
  refine V.iconst (pc := 2) C (nI 0) (by decide) dX2_findForMost_2 ?_
  refine V.iconst (pc := 3) C (nI 1) (by decide) dX2_findForMost_3 ?_
  obtain ⟨_, M1, h1, hf⟩ := bd_some hf
  refine V.callVv (pc := 4) (As := [.ref (gA G c1), .int (nI 0), .int (nI 1)]) (rest := []) C (mX2_find X.2.1 hG hB1 h1) mf_X2_find clX2 (sx_14 hG) wM_X2_28 rfl rfl ⟨by decide, by decide⟩ (Nat.le_of_ble_eq_true rfl) dX2_findForMost_4 ?_
  exact V.retV (pc := 7) C hf dX2_findForMost_7
theorem dX2_answer_0 : decode cX2_answer 0 = .ok (.aload_n 0, 1) := by decide +kernel
theorem dX2_answer_1 : decode cX2_answer 1 = .ok (.getfield 32, 3) := by decide +kernel
theorem dX2_answer_4 : decode cX2_answer 4 = .ok (.ifCond .ne 6, 3) := by decide +kernel
theorem dX2_answer_7 : decode cX2_answer 7 = .ok (.bipush (-6), 2) := by decide +kernel
theorem dX2_answer_9 : decode cX2_answer 9 = .ok (.ireturn, 1) := by decide +kernel
theorem dX2_answer_10 : decode cX2_answer 10 = .ok (.iload_n 1, 1) := by decide +kernel
theorem dX2_answer_11 : decode cX2_answer 11 = .ok (.ifCond .ne 8, 3) := by decide +kernel
theorem dX2_answer_14 : decode cX2_answer 14 = .ok (.iload_n 2, 1) := by decide +kernel
theorem dX2_answer_15 : decode cX2_answer 15 = .ok (.invokestatic 36, 3) := by decide +kernel
theorem dX2_answer_18 : decode cX2_answer 18 = .ok (.ireturn, 1) := by decide +kernel
theorem dX2_answer_19 : decode cX2_answer 19 = .ok (.iload_n 1, 1) := by decide +kernel
theorem dX2_answer_20 : decode cX2_answer 20 = .ok (.iconst 1, 1) := by decide +kernel
theorem dX2_answer_21 : decode cX2_answer 21 = .ok (.if_icmp .ne 10, 3) := by decide +kernel
theorem dX2_answer_24 : decode cX2_answer 24 = .ok (.aload_n 0, 1) := by decide +kernel
theorem dX2_answer_25 : decode cX2_answer 25 = .ok (.getfield 32, 3) := by decide +kernel
theorem dX2_answer_28 : decode cX2_answer 28 = .ok (.goto 7, 3) := by decide +kernel
theorem dX2_answer_31 : decode cX2_answer 31 = .ok (.aload_n 0, 1) := by decide +kernel
theorem dX2_answer_32 : decode cX2_answer 32 = .ok (.getfield 42, 3) := by decide +kernel
theorem dX2_answer_35 : decode cX2_answer 35 = .ok (.ireturn, 1) := by decide +kernel
abbrev cxX2_answer (G : Rg) (X : Ct) : Prop := Cx G X cX2_answer 3 RX2 (some .int) 1 20 (Cond.code yX2_answer cX2_answer 3 (some .int))
def fX2_answer (x1 : Int32) (x2 : Int32) (M : Mm) : Option (Int32 × Mm) :=
if (M.1 14 0) = (nI 0) then
(some ((mI 6), M))
else
(if x1 = (nI 0) then
(bd (fJ6_bitCount_0f7a4 x2 M) fun r4 M4 =>
some (r4, M4))
else
(if x1 = (nI 1) then
(some ((M.1 14 0), M))
else
(some ((M.1 14 1), M))))
set_option maxHeartbeats 4000000 in
set_option maxRecDepth 100000 in
theorem mX2_answer (l : Launch) {G : Rg} (hG : gS G = shX) {x1 : Int32} {x2 : Int32}  {M Mf : Mm} {r : Int32} (hf : fX2_answer x1 x2 M = some (r, Mf)) : Mt l G yX2_answer cX2_answer 3 (some .int) 1 20 [.ref (gA G 14), .int x1, .int x2] M (some (.int r)) Mf := by
  refine Mt.of (by decide) (Nat.le_of_ble_eq_true rfl) ?_
  intro X C hX
  subst hX
  have C : cxX2_answer G X := C
  show V G X 3 (some (.int r)) Mf 0 [(0, .ref (gA G 14)), (1, .int x1), (2, .int x2)] [] M
  rw [fX2_answer] at hf
  refine V.aload_n (pc := 0) C 0 rfl dX2_answer_0 ?_
  refine V.getI (pc := 1) C clX2 inX2 (sx_14 hG) 0 (by decide) wF_X2_32 rfl dX2_answer_1 ?_
  rcases it_some hf with ⟨h1, hf⟩ | ⟨h1, hf⟩
  · refine V.if_neF (pc := 4) C 10 h1 (by decide) dX2_answer_4 ?_
    refine V.bipush (pc := 7) C (mI 6) (by decide) dX2_answer_7 ?_
    exact V.retI (pc := 9) C hf dX2_answer_9
  · refine V.if_neT (pc := 4) C 10 h1 (by decide) dX2_answer_4 ?_
    refine V.iload_n (pc := 10) C 1 rfl dX2_answer_10 ?_
    rcases it_some hf with ⟨h2, hf⟩ | ⟨h2, hf⟩
    · refine V.if_neF (pc := 11) C 19 h2 (by decide) dX2_answer_11 ?_
      refine V.iload_n (pc := 14) C 2 rfl dX2_answer_14 ?_
      obtain ⟨r4, M4, h4, hf⟩ := bd_some hf
      refine V.callSi (pc := 15) (As := [.int x2]) (rest := []) C (mJ6_bitCount_0f7a4 X.2.1  h4) mf_J6_bitCount_0f7a4 wM_X2_36 rfl rfl ⟨by decide, by decide⟩ (Nat.le_of_ble_eq_true rfl) dX2_answer_15 ?_
      exact V.retI (pc := 18) C hf dX2_answer_18
    · refine V.if_neT (pc := 11) C 19 h2 (by decide) dX2_answer_11 ?_
      refine V.iload_n (pc := 19) C 1 rfl dX2_answer_19 ?_
      refine V.iconst (pc := 20) C (nI 1) (by decide) dX2_answer_20 ?_
      rcases it_some hf with ⟨h3, hf⟩ | ⟨h3, hf⟩
      · refine V.ic_neF (pc := 21) C 31 h3 (by decide) dX2_answer_21 ?_
        refine V.aload_n (pc := 24) C 0 rfl dX2_answer_24 ?_
        refine V.getI (pc := 25) C clX2 inX2 (sx_14 hG) 0 (by decide) wF_X2_32 rfl dX2_answer_25 ?_
        refine V.goto (pc := 28) C 35 (by decide) dX2_answer_28 ?_
        exact V.retI (pc := 35) C hf dX2_answer_35
      · refine V.ic_neT (pc := 21) C 31 h3 (by decide) dX2_answer_21 ?_
        refine V.aload_n (pc := 31) C 0 rfl dX2_answer_31 ?_
        refine V.getI (pc := 32) C clX2 inX2 (sx_14 hG) 1 (by decide) wF_X2_42 rfl dX2_answer_32 ?_
        exact V.retI (pc := 35) C hf dX2_answer_35
theorem dX8_home_0 : decode cX8_home 0 = .ok (.iload_n 1, 1) := by decide +kernel
theorem dX8_home_1 : decode cX8_home 1 = .ok (.iconst 0, 1) := by decide +kernel
theorem dX8_home_2 : decode cX8_home 2 = .ok (.iconst 2, 1) := by decide +kernel
theorem dX8_home_3 : decode cX8_home 3 = .ok (.invokestatic 73, 3) := by decide +kernel
theorem dX8_home_6 : decode cX8_home 6 = .ok (.ifCond .ne 6, 3) := by decide +kernel
theorem dX8_home_9 : decode cX8_home 9 = .ok (.bipush (-2), 2) := by decide +kernel
theorem dX8_home_11 : decode cX8_home 11 = .ok (.ireturn, 1) := by decide +kernel
theorem dX8_home_12 : decode cX8_home 12 = .ok (.aload_n 0, 1) := by decide +kernel
theorem dX8_home_13 : decode cX8_home 13 = .ok (.getfield 33, 3) := by decide +kernel
theorem dX8_home_16 : decode cX8_home 16 = .ok (.aload_n 0, 1) := by decide +kernel
theorem dX8_home_17 : decode cX8_home 17 = .ok (.getfield 12, 3) := by decide +kernel
theorem dX8_home_20 : decode cX8_home 20 = .ok (.invokevirtual 152, 3) := by decide +kernel
theorem dX8_home_23 : decode cX8_home 23 = .ok (.aload_n 0, 1) := by decide +kernel
theorem dX8_home_24 : decode cX8_home 24 = .ok (.getfield 33, 3) := by decide +kernel
theorem dX8_home_27 : decode cX8_home 27 = .ok (.iload_n 1, 1) := by decide +kernel
theorem dX8_home_28 : decode cX8_home 28 = .ok (.aload_n 0, 1) := by decide +kernel
theorem dX8_home_29 : decode cX8_home 29 = .ok (.getfield 33, 3) := by decide +kernel
theorem dX8_home_32 : decode cX8_home 32 = .ok (.getfield 155, 3) := by decide +kernel
theorem dX8_home_35 : decode cX8_home 35 = .ok (.invokevirtual 158, 3) := by decide +kernel
theorem dX8_home_38 : decode cX8_home 38 = .ok (.ireturn, 1) := by decide +kernel
abbrev cxX8_home (G : Rg) (X : Ct) : Prop := Cx G X cX8_home 2 RX8 (some .int) 5 115 (Cond.code yX8_home cX8_home 2 (some .int))
def fX8_home (x1 : Int32) (M : Mm) : Option (Int32 × Mm) :=
bd (fX8_isWithin x1 (nI 0) (nI 2) M) fun r1 M1 =>
if r1 = (nI 0) then
(some ((mI 2), M1))
else
(bd (fX2_findForMost 1 M1) fun _ M3 =>
bd (fX2_answer x1 (M3.1 14 0) M3) fun r4 M4 =>
some (r4, M4))
set_option maxHeartbeats 4000000 in
set_option maxRecDepth 100000 in
theorem mX8_home (l : Launch) {G : Rg} (hG : gS G = shX) {x1 : Int32}  {M Mf : Mm} {r : Int32} (hf : fX8_home x1 M = some (r, Mf)) : Mt l G yX8_home cX8_home 2 (some .int) 5 115 [.ref (gA G 0), .int x1] M (some (.int r)) Mf := by
  refine Mt.of (by decide) (Nat.le_of_ble_eq_true rfl) ?_
  intro X C hX
  subst hX
  have C : cxX8_home G X := C
  show V G X 2 (some (.int r)) Mf 0 [(0, .ref (gA G 0)), (1, .int x1)] [] M
  rw [fX8_home] at hf
  refine V.iload_n (pc := 0) C 1 rfl dX8_home_0 ?_
  refine V.iconst (pc := 1) C (nI 0) (by decide) dX8_home_1 ?_
  refine V.iconst (pc := 2) C (nI 2) (by decide) dX8_home_2 ?_
  obtain ⟨r1, M1, h1, hf⟩ := bd_some hf
  refine V.callSi (pc := 3) (As := [.int x1, .int (nI 0), .int (nI 2)]) (rest := []) C (mX8_isWithin X.2.1 hG  h1) mf_X8_isWithin wM_X8_73 rfl rfl ⟨by decide, by decide⟩ (Nat.le_of_ble_eq_true rfl) dX8_home_3 ?_
  rcases it_some hf with ⟨h2, hf⟩ | ⟨h2, hf⟩
  · refine V.if_neF (pc := 6) C 12 h2 (by decide) dX8_home_6 ?_
    refine V.bipush (pc := 9) C (mI 2) (by decide) dX8_home_9 ?_
    exact V.retI (pc := 11) C hf dX8_home_11
  · refine V.if_neT (pc := 6) C 12 h2 (by decide) dX8_home_6 ?_
    refine V.aload_n (pc := 12) C 0 rfl dX8_home_12 ?_
    refine V.getR (pc := 13) C clX8 inX8 (sx_0 hG) 3 (by decide) wF_X8_33 rfl dX8_home_13 ?_
    refine V.aload_n (pc := 16) C 0 rfl dX8_home_16 ?_
    refine V.getR (pc := 17) C clX8 inX8 (sx_0 hG) 0 (by decide) wF_X8_12 rfl dX8_home_17 ?_
    obtain ⟨_, M3, h3, hf⟩ := bd_some hf
    refine V.callVv (pc := 20) (As := [.ref (gA G 1)]) (rest := []) C (mX2_findForMost X.2.1 hG (bx_1 hG) h3) mf_X2_findForMost clX2 (sx_14 hG) wM_X8_152 rfl rfl ⟨by decide, by decide⟩ (Nat.le_of_ble_eq_true rfl) dX8_home_20 ?_
    refine V.aload_n (pc := 23) C 0 rfl dX8_home_23 ?_
    refine V.getR (pc := 24) C clX8 inX8 (sx_0 hG) 3 (by decide) wF_X8_33 rfl dX8_home_24 ?_
    refine V.iload_n (pc := 27) C 1 rfl dX8_home_27 ?_
    refine V.aload_n (pc := 28) C 0 rfl dX8_home_28 ?_
    refine V.getR (pc := 29) C clX8 inX8 (sx_0 hG) 3 (by decide) wF_X8_33 rfl dX8_home_29 ?_
    refine V.getI (pc := 32) C clX2 inX2 (sx_14 hG) 0 (by decide) wF_X8_155 rfl dX8_home_32 ?_
    obtain ⟨r4, M4, h4, hf⟩ := bd_some hf
    refine V.callVi (pc := 35) (As := [.int x1, .int (M3.1 14 0)]) (rest := []) C (mX2_answer X.2.1 hG  h4) mf_X2_answer clX2 (sx_14 hG) wM_X8_158 rfl rfl ⟨by decide, by decide⟩ (Nat.le_of_ble_eq_true rfl) dX8_home_35 ?_
    exact V.retI (pc := 38) C hf dX8_home_38
theorem dX2_findForOne_0 : decode cX2_findForOne 0 = .ok (.aload_n 0, 1) := by decide +kernel
theorem dX2_findForOne_1 : decode cX2_findForOne 1 = .ok (.aload_n 1, 1) := by decide +kernel
theorem dX2_findForOne_2 : decode cX2_findForOne 2 = .ok (.iconst 1, 1) := by decide +kernel
theorem dX2_findForOne_3 : decode cX2_findForOne 3 = .ok (.iload_n 2, 1) := by decide +kernel
theorem dX2_findForOne_4 : decode cX2_findForOne 4 = .ok (.ishl, 1) := by decide +kernel
theorem dX2_findForOne_5 : decode cX2_findForOne 5 = .ok (.iconst 0, 1) := by decide +kernel
theorem dX2_findForOne_6 : decode cX2_findForOne 6 = .ok (.invokevirtual 28, 3) := by decide +kernel
theorem dX2_findForOne_9 : decode cX2_findForOne 9 = .ok (.return_, 1) := by decide +kernel
abbrev cxX2_findForOne (G : Rg) (X : Ct) : Prop := Cx G X cX2_findForOne 3 RX2 (none) 4 94 (Cond.code yX2_findForOne cX2_findForOne 3 (none))
def fX2_findForOne (c1 : Nat) (x2 : Int32) (M : Mm) : Option (Unit × Mm) :=
bd (fX2_find c1 (jshl (nI 1) x2) (nI 0) M) fun _ M1 =>
some ((), M1)
set_option maxHeartbeats 4000000 in
set_option maxRecDepth 100000 in
theorem mX2_findForOne (l : Launch) {G : Rg} (hG : gS G = shX) {c1 : Nat} {x2 : Int32} (hB1 : isB G c1) {M Mf : Mm} {r : Unit} (hf : fX2_findForOne c1 x2 M = some (r, Mf)) : Mt l G yX2_findForOne cX2_findForOne 3 (none) 4 94 [.ref (gA G 14), .ref (gA G c1), .int x2] M none Mf := by
  refine Mt.of (by decide) (Nat.le_of_ble_eq_true rfl) ?_
  intro X C hX
  subst hX
  have C : cxX2_findForOne G X := C
  show V G X 3 none Mf 0 [(0, .ref (gA G 14)), (1, .ref (gA G c1)), (2, .int x2)] [] M
  rw [fX2_findForOne] at hf
  refine V.aload_n (pc := 0) C 0 rfl dX2_findForOne_0 ?_
  refine V.aload_n (pc := 1) C 1 rfl dX2_findForOne_1 ?_
  refine V.iconst (pc := 2) C (nI 1) (by decide) dX2_findForOne_2 ?_
  refine V.iload_n (pc := 3) C 2 rfl dX2_findForOne_3 ?_
  refine V.ishl (pc := 4) C dX2_findForOne_4 ?_
  refine V.iconst (pc := 5) C (nI 0) (by decide) dX2_findForOne_5 ?_
  obtain ⟨_, M1, h1, hf⟩ := bd_some hf
  refine V.callVv (pc := 6) (As := [.ref (gA G c1), .int (jshl (nI 1) x2), .int (nI 0)]) (rest := []) C (mX2_find X.2.1 hG hB1 h1) mf_X2_find clX2 (sx_14 hG) wM_X2_28 rfl rfl ⟨by decide, by decide⟩ (Nat.le_of_ble_eq_true rfl) dX2_findForOne_6 ?_
  exact V.retV (pc := 9) C hf dX2_findForOne_9
theorem dX8_bring_0 : decode cX8_bring 0 = .ok (.iload_n 1, 1) := by decide +kernel
theorem dX8_bring_1 : decode cX8_bring 1 = .ok (.bipush 6, 2) := by decide +kernel
theorem dX8_bring_3 : decode cX8_bring 3 = .ok (.if_icmp .ge 14, 3) := by decide +kernel
theorem dX8_bring_6 : decode cX8_bring 6 = .ok (.aload_n 0, 1) := by decide +kernel
theorem dX8_bring_7 : decode cX8_bring 7 = .ok (.getfield 12, 3) := by decide +kernel
theorem dX8_bring_10 : decode cX8_bring 10 = .ok (.iload_n 1, 1) := by decide +kernel
theorem dX8_bring_11 : decode cX8_bring 11 = .ok (.invokevirtual 91, 3) := by decide +kernel
theorem dX8_bring_14 : decode cX8_bring 14 = .ok (.ifCond .ne 5, 3) := by decide +kernel
theorem dX8_bring_17 : decode cX8_bring 17 = .ok (.iconst (-1), 1) := by decide +kernel
theorem dX8_bring_18 : decode cX8_bring 18 = .ok (.ireturn, 1) := by decide +kernel
theorem dX8_bring_19 : decode cX8_bring 19 = .ok (.iload_n 2, 1) := by decide +kernel
theorem dX8_bring_20 : decode cX8_bring 20 = .ok (.iconst 0, 1) := by decide +kernel
theorem dX8_bring_21 : decode cX8_bring 21 = .ok (.iconst 2, 1) := by decide +kernel
theorem dX8_bring_22 : decode cX8_bring 22 = .ok (.invokestatic 73, 3) := by decide +kernel
theorem dX8_bring_25 : decode cX8_bring 25 = .ok (.ifCond .ne 6, 3) := by decide +kernel
theorem dX8_bring_28 : decode cX8_bring 28 = .ok (.bipush (-2), 2) := by decide +kernel
theorem dX8_bring_30 : decode cX8_bring 30 = .ok (.ireturn, 1) := by decide +kernel
theorem dX8_bring_31 : decode cX8_bring 31 = .ok (.aload_n 0, 1) := by decide +kernel
theorem dX8_bring_32 : decode cX8_bring 32 = .ok (.getfield 12, 3) := by decide +kernel
theorem dX8_bring_35 : decode cX8_bring 35 = .ok (.bipush 7, 2) := by decide +kernel
theorem dX8_bring_37 : decode cX8_bring 37 = .ok (.invokevirtual 134, 3) := by decide +kernel
theorem dX8_bring_40 : decode cX8_bring 40 = .ok (.iload_n 1, 1) := by decide +kernel
theorem dX8_bring_41 : decode cX8_bring 41 = .ok (.ishr, 1) := by decide +kernel
theorem dX8_bring_42 : decode cX8_bring 42 = .ok (.iconst 1, 1) := by decide +kernel
theorem dX8_bring_43 : decode cX8_bring 43 = .ok (.iand, 1) := by decide +kernel
theorem dX8_bring_44 : decode cX8_bring 44 = .ok (.ifCond .ne 6, 3) := by decide +kernel
theorem dX8_bring_47 : decode cX8_bring 47 = .ok (.bipush (-3), 2) := by decide +kernel
theorem dX8_bring_49 : decode cX8_bring 49 = .ok (.ireturn, 1) := by decide +kernel
theorem dX8_bring_50 : decode cX8_bring 50 = .ok (.aload_n 0, 1) := by decide +kernel
theorem dX8_bring_51 : decode cX8_bring 51 = .ok (.getfield 33, 3) := by decide +kernel
theorem dX8_bring_54 : decode cX8_bring 54 = .ok (.aload_n 0, 1) := by decide +kernel
theorem dX8_bring_55 : decode cX8_bring 55 = .ok (.getfield 12, 3) := by decide +kernel
theorem dX8_bring_58 : decode cX8_bring 58 = .ok (.iload_n 1, 1) := by decide +kernel
theorem dX8_bring_59 : decode cX8_bring 59 = .ok (.invokevirtual 162, 3) := by decide +kernel
theorem dX8_bring_62 : decode cX8_bring 62 = .ok (.aload_n 0, 1) := by decide +kernel
theorem dX8_bring_63 : decode cX8_bring 63 = .ok (.getfield 33, 3) := by decide +kernel
theorem dX8_bring_66 : decode cX8_bring 66 = .ok (.iload_n 2, 1) := by decide +kernel
theorem dX8_bring_67 : decode cX8_bring 67 = .ok (.aload_n 0, 1) := by decide +kernel
theorem dX8_bring_68 : decode cX8_bring 68 = .ok (.getfield 33, 3) := by decide +kernel
theorem dX8_bring_71 : decode cX8_bring 71 = .ok (.getfield 166, 3) := by decide +kernel
theorem dX8_bring_74 : decode cX8_bring 74 = .ok (.invokevirtual 158, 3) := by decide +kernel
theorem dX8_bring_77 : decode cX8_bring 77 = .ok (.ireturn, 1) := by decide +kernel
abbrev cxX8_bring (G : Rg) (X : Ct) : Prop := Cx G X cX8_bring 3 RX8 (some .int) 5 116 (Cond.code yX8_bring cX8_bring 3 (some .int))
def fX8_bring (x1 : Int32) (x2 : Int32) (M : Mm) : Option (Int32 × Mm) :=
if (nI 6) ≤ x1 then
(some ((mI 1), M))
else
(bd (fX0_isThere 1 x1 M) fun r2 M2 =>
if r2 = (nI 0) then
(some ((mI 1), M2))
else
(bd (fX8_isWithin x2 (nI 0) (nI 2) M2) fun r4 M4 =>
if r4 = (nI 0) then
(some ((mI 2), M4))
else
(bd (fX0_crowdIn 1 (nI 7) M4) fun r6 M6 =>
if ((jshr r6 x1) &&& (nI 1)) = (nI 0) then
(some ((mI 3), M6))
else
(bd (fX2_findForOne 1 x1 M6) fun _ M8 =>
bd (fX2_answer x2 (M8.1 14 1) M8) fun r9 M9 =>
some (r9, M9)))))
set_option maxHeartbeats 4000000 in
set_option maxRecDepth 100000 in
theorem mX8_bring (l : Launch) {G : Rg} (hG : gS G = shX) {x1 : Int32} {x2 : Int32}  {M Mf : Mm} {r : Int32} (hf : fX8_bring x1 x2 M = some (r, Mf)) : Mt l G yX8_bring cX8_bring 3 (some .int) 5 116 [.ref (gA G 0), .int x1, .int x2] M (some (.int r)) Mf := by
  refine Mt.of (by decide) (Nat.le_of_ble_eq_true rfl) ?_
  intro X C hX
  subst hX
  have C : cxX8_bring G X := C
  show V G X 3 (some (.int r)) Mf 0 [(0, .ref (gA G 0)), (1, .int x1), (2, .int x2)] [] M
  rw [fX8_bring] at hf
  refine V.iload_n (pc := 0) C 1 rfl dX8_bring_0 ?_
  refine V.bipush (pc := 1) C (nI 6) (by decide) dX8_bring_1 ?_
  rcases it_some hf with ⟨h1, hf⟩ | ⟨h1, hf⟩
  · refine V.ic_geT (pc := 3) C 17 h1 (by decide) dX8_bring_3 ?_
    refine V.iconst (pc := 17) C (mI 1) (by decide) dX8_bring_17 ?_
    exact V.retI (pc := 18) C hf dX8_bring_18
  · refine V.ic_geF (pc := 3) C 17 h1 (by decide) dX8_bring_3 ?_
    refine V.aload_n (pc := 6) C 0 rfl dX8_bring_6 ?_
    refine V.getR (pc := 7) C clX8 inX8 (sx_0 hG) 0 (by decide) wF_X8_12 rfl dX8_bring_7 ?_
    refine V.iload_n (pc := 10) C 1 rfl dX8_bring_10 ?_
    obtain ⟨r2, M2, h2, hf⟩ := bd_some hf
    refine V.callVi (pc := 11) (As := [.int x1]) (rest := []) C (mX0_isThere X.2.1 hG (bx_1 hG) h2) mf_X0_isThere clX0 (sx_1 hG) wM_X8_91 rfl rfl ⟨by decide, by decide⟩ (Nat.le_of_ble_eq_true rfl) dX8_bring_11 ?_
    rcases it_some hf with ⟨h3, hf⟩ | ⟨h3, hf⟩
    · refine V.if_neF (pc := 14) C 19 h3 (by decide) dX8_bring_14 ?_
      refine V.iconst (pc := 17) C (mI 1) (by decide) dX8_bring_17 ?_
      exact V.retI (pc := 18) C hf dX8_bring_18
    · refine V.if_neT (pc := 14) C 19 h3 (by decide) dX8_bring_14 ?_
      refine V.iload_n (pc := 19) C 2 rfl dX8_bring_19 ?_
      refine V.iconst (pc := 20) C (nI 0) (by decide) dX8_bring_20 ?_
      refine V.iconst (pc := 21) C (nI 2) (by decide) dX8_bring_21 ?_
      obtain ⟨r4, M4, h4, hf⟩ := bd_some hf
      refine V.callSi (pc := 22) (As := [.int x2, .int (nI 0), .int (nI 2)]) (rest := []) C (mX8_isWithin X.2.1 hG  h4) mf_X8_isWithin wM_X8_73 rfl rfl ⟨by decide, by decide⟩ (Nat.le_of_ble_eq_true rfl) dX8_bring_22 ?_
      rcases it_some hf with ⟨h5, hf⟩ | ⟨h5, hf⟩
      · refine V.if_neF (pc := 25) C 31 h5 (by decide) dX8_bring_25 ?_
        refine V.bipush (pc := 28) C (mI 2) (by decide) dX8_bring_28 ?_
        exact V.retI (pc := 30) C hf dX8_bring_30
      · refine V.if_neT (pc := 25) C 31 h5 (by decide) dX8_bring_25 ?_
        refine V.aload_n (pc := 31) C 0 rfl dX8_bring_31 ?_
        refine V.getR (pc := 32) C clX8 inX8 (sx_0 hG) 0 (by decide) wF_X8_12 rfl dX8_bring_32 ?_
        refine V.bipush (pc := 35) C (nI 7) (by decide) dX8_bring_35 ?_
        obtain ⟨r6, M6, h6, hf⟩ := bd_some hf
        refine V.callVi (pc := 37) (As := [.int (nI 7)]) (rest := []) C (mX0_crowdIn X.2.1 hG (bx_1 hG) h6) mf_X0_crowdIn clX0 (sx_1 hG) wM_X8_134 rfl rfl ⟨by decide, by decide⟩ (Nat.le_of_ble_eq_true rfl) dX8_bring_37 ?_
        refine V.iload_n (pc := 40) C 1 rfl dX8_bring_40 ?_
        refine V.ishr (pc := 41) C dX8_bring_41 ?_
        refine V.iconst (pc := 42) C (nI 1) (by decide) dX8_bring_42 ?_
        refine V.iand (pc := 43) C dX8_bring_43 ?_
        rcases it_some hf with ⟨h7, hf⟩ | ⟨h7, hf⟩
        · refine V.if_neF (pc := 44) C 50 h7 (by decide) dX8_bring_44 ?_
          refine V.bipush (pc := 47) C (mI 3) (by decide) dX8_bring_47 ?_
          exact V.retI (pc := 49) C hf dX8_bring_49
        · refine V.if_neT (pc := 44) C 50 h7 (by decide) dX8_bring_44 ?_
          refine V.aload_n (pc := 50) C 0 rfl dX8_bring_50 ?_
          refine V.getR (pc := 51) C clX8 inX8 (sx_0 hG) 3 (by decide) wF_X8_33 rfl dX8_bring_51 ?_
          refine V.aload_n (pc := 54) C 0 rfl dX8_bring_54 ?_
          refine V.getR (pc := 55) C clX8 inX8 (sx_0 hG) 0 (by decide) wF_X8_12 rfl dX8_bring_55 ?_
          refine V.iload_n (pc := 58) C 1 rfl dX8_bring_58 ?_
          obtain ⟨_, M8, h8, hf⟩ := bd_some hf
          refine V.callVv (pc := 59) (As := [.ref (gA G 1), .int x1]) (rest := []) C (mX2_findForOne X.2.1 hG (bx_1 hG) h8) mf_X2_findForOne clX2 (sx_14 hG) wM_X8_162 rfl rfl ⟨by decide, by decide⟩ (Nat.le_of_ble_eq_true rfl) dX8_bring_59 ?_
          refine V.aload_n (pc := 62) C 0 rfl dX8_bring_62 ?_
          refine V.getR (pc := 63) C clX8 inX8 (sx_0 hG) 3 (by decide) wF_X8_33 rfl dX8_bring_63 ?_
          refine V.iload_n (pc := 66) C 2 rfl dX8_bring_66 ?_
          refine V.aload_n (pc := 67) C 0 rfl dX8_bring_67 ?_
          refine V.getR (pc := 68) C clX8 inX8 (sx_0 hG) 3 (by decide) wF_X8_33 rfl dX8_bring_68 ?_
          refine V.getI (pc := 71) C clX2 inX2 (sx_14 hG) 1 (by decide) wF_X8_166 rfl dX8_bring_71 ?_
          obtain ⟨r9, M9, h9, hf⟩ := bd_some hf
          refine V.callVi (pc := 74) (As := [.int x2, .int (M8.1 14 1)]) (rest := []) C (mX2_answer X.2.1 hG  h9) mf_X2_answer clX2 (sx_14 hG) wM_X8_158 rfl rfl ⟨by decide, by decide⟩ (Nat.le_of_ble_eq_true rfl) dX8_bring_74 ?_
          exact V.retI (pc := 77) C hf dX8_bring_77
theorem dX2_lotsEvenWith_0 : decode cX2_lotsEvenWith 0 = .ok (.lconst 0, 1) := by decide +kernel
theorem dX2_lotsEvenWith_1 : decode cX2_lotsEvenWith 1 = .ok (.lstore_n 2, 1) := by decide +kernel
theorem dX2_lotsEvenWith_2 : decode cX2_lotsEvenWith 2 = .ok (.iconst 1, 1) := by decide +kernel
theorem dX2_lotsEvenWith_3 : decode cX2_lotsEvenWith 3 = .ok (.istore 4, 2) := by decide +kernel
theorem dX2_lotsEvenWith_5 : decode cX2_lotsEvenWith 5 = .ok (.iload 4, 2) := by decide +kernel
theorem dX2_lotsEvenWith_7 : decode cX2_lotsEvenWith 7 = .ok (.bipush 64, 2) := by decide +kernel
theorem dX2_lotsEvenWith_9 : decode cX2_lotsEvenWith 9 = .ok (.if_icmp .ge 44, 3) := by decide +kernel
theorem dX2_lotsEvenWith_12 : decode cX2_lotsEvenWith 12 = .ok (.iload 4, 2) := by decide +kernel
theorem dX2_lotsEvenWith_14 : decode cX2_lotsEvenWith 14 = .ok (.aload_n 0, 1) := by decide +kernel
theorem dX2_lotsEvenWith_15 : decode cX2_lotsEvenWith 15 = .ok (.getfield 63, 3) := by decide +kernel
theorem dX2_lotsEvenWith_18 : decode cX2_lotsEvenWith 18 = .ok (.iconst (-1), 1) := by decide +kernel
theorem dX2_lotsEvenWith_19 : decode cX2_lotsEvenWith 19 = .ok (.ixor, 1) := by decide +kernel
theorem dX2_lotsEvenWith_20 : decode cX2_lotsEvenWith 20 = .ok (.iand, 1) := by decide +kernel
theorem dX2_lotsEvenWith_21 : decode cX2_lotsEvenWith 21 = .ok (.ifCond .ne 26, 3) := by decide +kernel
theorem dX2_lotsEvenWith_24 : decode cX2_lotsEvenWith 24 = .ok (.aload_n 0, 1) := by decide +kernel
theorem dX2_lotsEvenWith_25 : decode cX2_lotsEvenWith 25 = .ok (.getfield 15, 3) := by decide +kernel
theorem dX2_lotsEvenWith_28 : decode cX2_lotsEvenWith 28 = .ok (.iload 4, 2) := by decide +kernel
theorem dX2_lotsEvenWith_30 : decode cX2_lotsEvenWith 30 = .ok (.iaload, 1) := by decide +kernel
theorem dX2_lotsEvenWith_31 : decode cX2_lotsEvenWith 31 = .ok (.aload_n 0, 1) := by decide +kernel
theorem dX2_lotsEvenWith_32 : decode cX2_lotsEvenWith 32 = .ok (.getfield 9, 3) := by decide +kernel
theorem dX2_lotsEvenWith_35 : decode cX2_lotsEvenWith 35 = .ok (.iload_n 1, 1) := by decide +kernel
theorem dX2_lotsEvenWith_36 : decode cX2_lotsEvenWith 36 = .ok (.iaload, 1) := by decide +kernel
theorem dX2_lotsEvenWith_37 : decode cX2_lotsEvenWith 37 = .ok (.if_icmp .ne 10, 3) := by decide +kernel
theorem dX2_lotsEvenWith_40 : decode cX2_lotsEvenWith 40 = .ok (.lload_n 2, 1) := by decide +kernel
theorem dX2_lotsEvenWith_41 : decode cX2_lotsEvenWith 41 = .ok (.lconst 1, 1) := by decide +kernel
theorem dX2_lotsEvenWith_42 : decode cX2_lotsEvenWith 42 = .ok (.iload 4, 2) := by decide +kernel
theorem dX2_lotsEvenWith_44 : decode cX2_lotsEvenWith 44 = .ok (.lshl, 1) := by decide +kernel
theorem dX2_lotsEvenWith_45 : decode cX2_lotsEvenWith 45 = .ok (.lor, 1) := by decide +kernel
theorem dX2_lotsEvenWith_46 : decode cX2_lotsEvenWith 46 = .ok (.lstore_n 2, 1) := by decide +kernel
theorem dX2_lotsEvenWith_47 : decode cX2_lotsEvenWith 47 = .ok (.iinc 4 1, 3) := by decide +kernel
theorem dX2_lotsEvenWith_50 : decode cX2_lotsEvenWith 50 = .ok (.goto (-45), 3) := by decide +kernel
theorem dX2_lotsEvenWith_53 : decode cX2_lotsEvenWith 53 = .ok (.lload_n 2, 1) := by decide +kernel
theorem dX2_lotsEvenWith_54 : decode cX2_lotsEvenWith 54 = .ok (.lreturn, 1) := by decide +kernel
abbrev cxX2_lotsEvenWith (G : Rg) (X : Ct) : Prop := Cx G X cX2_lotsEvenWith 5 RX2 (some .long) 0 0 (Cond.code yX2_lotsEvenWith cX2_lotsEvenWith 5 (some .long))
def fX2_lotsEvenWith_b5   : Nat → Int32 → Int64 → Int32 → Mm → Option (Int64 × Mm)
  | 0, _, _, _, _ => none
  | n + 1, v1, v2, v4, M =>
    if (nI 64) ≤ v4 then
    (some (v2, M))
    else
    (if (v4 &&& ((M.1 14 3) ^^^ (mI 1))) = (nI 0) then
    (gd (inb v4 64) (
    gd (inb v1 64) (
    if (M.1 16 v4.toNatClampNeg) = (M.1 15 v1.toNatClampNeg) then
    (fX2_lotsEvenWith_b5  n v1 (v2 ||| (jlshl (lN 1) v4)) (v4 + (nI 1)) M)
    else
    (fX2_lotsEvenWith_b5  n v1 v2 (v4 + (nI 1)) M))))
    else
    (fX2_lotsEvenWith_b5  n v1 v2 (v4 + (nI 1)) M))
set_option maxHeartbeats 4000000 in
set_option maxRecDepth 100000 in
theorem vX2_lotsEvenWith_b5 {G : Rg} {X : Ct} {r : Int64} {Mf : Mm}   (C : cxX2_lotsEvenWith G X) (hG : gS G = shX)   : ∀ (n : Nat) (v1 : Int32) (v2 : Int64) (v4 : Int32) (M : Mm), fX2_lotsEvenWith_b5 n v1 v2 v4 M = some (r, Mf) → V G X 5 (some (.long r)) Mf 5 [(0, .ref (gA G 14)), (1, .int v1), (2, .long v2), (4, .int v4)] [] M := by
  intro n
  induction n with
  | zero => intro v1 v2 v4 M hf; rw [fX2_lotsEvenWith_b5] at hf; cases hf
  | succ n ih =>
    intro v1 v2 v4 M hf
    rw [fX2_lotsEvenWith_b5] at hf
    refine V.iload (pc := 5) C 3 rfl dX2_lotsEvenWith_5 ?_
    refine V.bipush (pc := 7) C (nI 64) (by decide) dX2_lotsEvenWith_7 ?_
    rcases it_some hf with ⟨h1, hf⟩ | ⟨h1, hf⟩
    · refine V.ic_geT (pc := 9) C 53 h1 (by decide) dX2_lotsEvenWith_9 ?_
      refine V.lload_n (pc := 53) C 2 rfl dX2_lotsEvenWith_53 ?_
      exact V.retL (pc := 54) C hf dX2_lotsEvenWith_54
    · refine V.ic_geF (pc := 9) C 53 h1 (by decide) dX2_lotsEvenWith_9 ?_
      refine V.iload (pc := 12) C 3 rfl dX2_lotsEvenWith_12 ?_
      refine V.aload_n (pc := 14) C 0 rfl dX2_lotsEvenWith_14 ?_
      refine V.getI (pc := 15) C clX2 inX2 (sx_14 hG) 3 (by decide) wF_X2_63 rfl dX2_lotsEvenWith_15 ?_
      refine V.iconst (pc := 18) C (mI 1) (by decide) dX2_lotsEvenWith_18 ?_
      refine V.ixor (pc := 19) C dX2_lotsEvenWith_19 ?_
      refine V.iand (pc := 20) C dX2_lotsEvenWith_20 ?_
      rcases it_some hf with ⟨h2, hf⟩ | ⟨h2, hf⟩
      · refine V.if_neF (pc := 21) C 47 h2 (by decide) dX2_lotsEvenWith_21 ?_
        refine V.aload_n (pc := 24) C 0 rfl dX2_lotsEvenWith_24 ?_
        refine V.getR (pc := 25) C clX2 inX2 (sx_14 hG) 5 (by decide) wF_X2_15 rfl dX2_lotsEvenWith_25 ?_
        refine V.iload (pc := 28) C 3 rfl dX2_lotsEvenWith_28 ?_
        obtain ⟨g3, hf⟩ := gd_some hf
        refine V.iald (pc := 30) C (sx_16 hG) (inb_in g3) dX2_lotsEvenWith_30 ?_
        refine V.aload_n (pc := 31) C 0 rfl dX2_lotsEvenWith_31 ?_
        refine V.getR (pc := 32) C clX2 inX2 (sx_14 hG) 4 (by decide) wF_X2_9 rfl dX2_lotsEvenWith_32 ?_
        refine V.iload_n (pc := 35) C 1 rfl dX2_lotsEvenWith_35 ?_
        obtain ⟨g4, hf⟩ := gd_some hf
        refine V.iald (pc := 36) C (sx_15 hG) (inb_in g4) dX2_lotsEvenWith_36 ?_
        rcases it_some hf with ⟨h5, hf⟩ | ⟨h5, hf⟩
        · refine V.ic_neF (pc := 37) C 47 h5 (by decide) dX2_lotsEvenWith_37 ?_
          refine V.lload_n (pc := 40) C 2 rfl dX2_lotsEvenWith_40 ?_
          refine V.lconst (pc := 41) C (lN 1) (by decide) dX2_lotsEvenWith_41 ?_
          refine V.iload (pc := 42) C 3 rfl dX2_lotsEvenWith_42 ?_
          refine V.lshl (pc := 44) C dX2_lotsEvenWith_44 ?_
          refine V.lor (pc := 45) C dX2_lotsEvenWith_45 ?_
          refine V.lstore_n (pc := 46) (lv' := [(2, .long (v2 ||| (jlshl (lN 1) v4))), (0, .ref (gA G 14)), (1, .int v1), (4, .int v4)]) C (by decide) rfl dX2_lotsEvenWith_46 ?_
          refine V.iinc (pc := 47) (lv' := [(4, .int (v4 + (nI 1))), (2, .long (v2 ||| (jlshl (lN 1) v4))), (0, .ref (gA G 14)), (1, .int v1)]) C (v4 + (nI 1)) 3 rfl rfl (by decide) rfl dX2_lotsEvenWith_47 ?_
          refine V.goto (pc := 50) C 5 (by decide) dX2_lotsEvenWith_50 ?_
          refine V.sub C [2, 3, 1, 0] (lv' := [(0, .ref (gA G 14)), (1, .int v1), (2, .long (v2 ||| (jlshl (lN 1) v4))), (4, .int (v4 + (nI 1)))]) rfl ?_
          exact ih _ _ _ _ hf
        · refine V.ic_neT (pc := 37) C 47 h5 (by decide) dX2_lotsEvenWith_37 ?_
          refine V.iinc (pc := 47) (lv' := [(4, .int (v4 + (nI 1))), (0, .ref (gA G 14)), (1, .int v1), (2, .long v2)]) C (v4 + (nI 1)) 3 rfl rfl (by decide) rfl dX2_lotsEvenWith_47 ?_
          refine V.goto (pc := 50) C 5 (by decide) dX2_lotsEvenWith_50 ?_
          refine V.sub C [1, 2, 3, 0] (lv' := [(0, .ref (gA G 14)), (1, .int v1), (2, .long v2), (4, .int (v4 + (nI 1)))]) rfl ?_
          exact ih _ _ _ _ hf
      · refine V.if_neT (pc := 21) C 47 h2 (by decide) dX2_lotsEvenWith_21 ?_
        refine V.iinc (pc := 47) (lv' := [(4, .int (v4 + (nI 1))), (0, .ref (gA G 14)), (1, .int v1), (2, .long v2)]) C (v4 + (nI 1)) 3 rfl rfl (by decide) rfl dX2_lotsEvenWith_47 ?_
        refine V.goto (pc := 50) C 5 (by decide) dX2_lotsEvenWith_50 ?_
        refine V.sub C [1, 2, 3, 0] (lv' := [(0, .ref (gA G 14)), (1, .int v1), (2, .long v2), (4, .int (v4 + (nI 1)))]) rfl ?_
        exact ih _ _ _ _ hf
def fX2_lotsEvenWith (x1 : Int32) (M : Mm) : Option (Int64 × Mm) :=
fX2_lotsEvenWith_b5 fu x1 (lN 0) (nI 1) M
set_option maxHeartbeats 4000000 in
set_option maxRecDepth 100000 in
theorem mX2_lotsEvenWith (l : Launch) {G : Rg} (hG : gS G = shX) {x1 : Int32}  {M Mf : Mm} {r : Int64} (hf : fX2_lotsEvenWith x1 M = some (r, Mf)) : Mt l G yX2_lotsEvenWith cX2_lotsEvenWith 5 (some .long) 0 0 [.ref (gA G 14), .int x1] M (some (.long r)) Mf := by
  refine Mt.of (by decide) (Nat.le_of_ble_eq_true rfl) ?_
  intro X C hX
  subst hX
  have C : cxX2_lotsEvenWith G X := C
  show V G X 5 (some (.long r)) Mf 0 [(0, .ref (gA G 14)), (1, .int x1)] [] M
  rw [fX2_lotsEvenWith] at hf
  refine V.lconst (pc := 0) C (lN 0) (by decide) dX2_lotsEvenWith_0 ?_
  refine V.lstore_n (pc := 1) (lv' := [(2, .long (lN 0)), (0, .ref (gA G 14)), (1, .int x1)]) C (by decide) rfl dX2_lotsEvenWith_1 ?_
  refine V.iconst (pc := 2) C (nI 1) (by decide) dX2_lotsEvenWith_2 ?_
  refine V.istore (pc := 3) (lv' := [(4, .int (nI 1)), (2, .long (lN 0)), (0, .ref (gA G 14)), (1, .int x1)]) C (by decide) rfl dX2_lotsEvenWith_3 ?_
  refine V.sub C [2, 3, 1, 0] (lv' := [(0, .ref (gA G 14)), (1, .int x1), (2, .long (lN 0)), (4, .int (nI 1))]) rfl ?_
  exact vX2_lotsEvenWith_b5 C hG   fu _ _ _ _ hf
theorem dX2_markEven_0 : decode cX2_markEven 0 = .ok (.iconst 0, 1) := by decide +kernel
theorem dX2_markEven_1 : decode cX2_markEven 1 = .ok (.istore_n 1, 1) := by decide +kernel
theorem dX2_markEven_2 : decode cX2_markEven 2 = .ok (.iload_n 1, 1) := by decide +kernel
theorem dX2_markEven_3 : decode cX2_markEven 3 = .ok (.bipush 64, 2) := by decide +kernel
theorem dX2_markEven_5 : decode cX2_markEven 5 = .ok (.if_icmp .ge 39, 3) := by decide +kernel
theorem dX2_markEven_8 : decode cX2_markEven 8 = .ok (.aload_n 0, 1) := by decide +kernel
theorem dX2_markEven_9 : decode cX2_markEven 9 = .ok (.getfield 18, 3) := by decide +kernel
theorem dX2_markEven_12 : decode cX2_markEven 12 = .ok (.iload_n 1, 1) := by decide +kernel
theorem dX2_markEven_13 : decode cX2_markEven 13 = .ok (.iload_n 1, 1) := by decide +kernel
theorem dX2_markEven_14 : decode cX2_markEven 14 = .ok (.ifCond .eq 22, 3) := by decide +kernel
theorem dX2_markEven_17 : decode cX2_markEven 17 = .ok (.iload_n 1, 1) := by decide +kernel
theorem dX2_markEven_18 : decode cX2_markEven 18 = .ok (.aload_n 0, 1) := by decide +kernel
theorem dX2_markEven_19 : decode cX2_markEven 19 = .ok (.getfield 50, 3) := by decide +kernel
theorem dX2_markEven_22 : decode cX2_markEven 22 = .ok (.iconst (-1), 1) := by decide +kernel
theorem dX2_markEven_23 : decode cX2_markEven 23 = .ok (.ixor, 1) := by decide +kernel
theorem dX2_markEven_24 : decode cX2_markEven 24 = .ok (.iand, 1) := by decide +kernel
theorem dX2_markEven_25 : decode cX2_markEven 25 = .ok (.ifCond .ne 11, 3) := by decide +kernel
theorem dX2_markEven_28 : decode cX2_markEven 28 = .ok (.aload_n 0, 1) := by decide +kernel
theorem dX2_markEven_29 : decode cX2_markEven 29 = .ok (.iload_n 1, 1) := by decide +kernel
theorem dX2_markEven_30 : decode cX2_markEven 30 = .ok (.invokevirtual 96, 3) := by decide +kernel
theorem dX2_markEven_33 : decode cX2_markEven 33 = .ok (.goto 4, 3) := by decide +kernel
theorem dX2_markEven_36 : decode cX2_markEven 36 = .ok (.lconst 0, 1) := by decide +kernel
theorem dX2_markEven_37 : decode cX2_markEven 37 = .ok (.lastore, 1) := by decide +kernel
theorem dX2_markEven_38 : decode cX2_markEven 38 = .ok (.iinc 1 1, 3) := by decide +kernel
theorem dX2_markEven_41 : decode cX2_markEven 41 = .ok (.goto (-39), 3) := by decide +kernel
theorem dX2_markEven_44 : decode cX2_markEven 44 = .ok (.return_, 1) := by decide +kernel
abbrev cxX2_markEven (G : Rg) (X : Ct) : Prop := Cx G X cX2_markEven 2 RX2 (none) 1 24 (Cond.code yX2_markEven cX2_markEven 2 (none))
def fX2_markEven_b2   : Nat → Int32 → Mm → Option (Unit × Mm)
  | 0, _, _ => none
  | n + 1, v1, M =>
    if (nI 64) ≤ v1 then
    (some ((), M))
    else
    (if v1 = (nI 0) then
    (gd (inb v1 64) (
    fX2_markEven_b2  n (v1 + (nI 1)) (sL M 17 v1.toNatClampNeg (lN 0))))
    else
    (if (v1 &&& ((M.1 14 2) ^^^ (mI 1))) = (nI 0) then
    (bd (fX2_lotsEvenWith v1 M) fun r6 M6 =>
    gd (inb v1 64) (
    fX2_markEven_b2  n (v1 + (nI 1)) (sL M6 17 v1.toNatClampNeg r6)))
    else
    (gd (inb v1 64) (
    fX2_markEven_b2  n (v1 + (nI 1)) (sL M 17 v1.toNatClampNeg (lN 0))))))
set_option maxHeartbeats 4000000 in
set_option maxRecDepth 100000 in
theorem vX2_markEven_b2 {G : Rg} {X : Ct} {r : Unit} {Mf : Mm}   (C : cxX2_markEven G X) (hG : gS G = shX)   : ∀ (n : Nat) (v1 : Int32) (M : Mm), fX2_markEven_b2 n v1 M = some (r, Mf) → V G X 2 none Mf 2 [(0, .ref (gA G 14)), (1, .int v1)] [] M := by
  intro n
  induction n with
  | zero => intro v1 M hf; rw [fX2_markEven_b2] at hf; cases hf
  | succ n ih =>
    intro v1 M hf
    rw [fX2_markEven_b2] at hf
    refine V.iload_n (pc := 2) C 1 rfl dX2_markEven_2 ?_
    refine V.bipush (pc := 3) C (nI 64) (by decide) dX2_markEven_3 ?_
    rcases it_some hf with ⟨h1, hf⟩ | ⟨h1, hf⟩
    · refine V.ic_geT (pc := 5) C 44 h1 (by decide) dX2_markEven_5 ?_
      exact V.retV (pc := 44) C hf dX2_markEven_44
    · refine V.ic_geF (pc := 5) C 44 h1 (by decide) dX2_markEven_5 ?_
      refine V.aload_n (pc := 8) C 0 rfl dX2_markEven_8 ?_
      refine V.getR (pc := 9) C clX2 inX2 (sx_14 hG) 6 (by decide) wF_X2_18 rfl dX2_markEven_9 ?_
      refine V.iload_n (pc := 12) C 1 rfl dX2_markEven_12 ?_
      refine V.iload_n (pc := 13) C 1 rfl dX2_markEven_13 ?_
      rcases it_some hf with ⟨h2, hf⟩ | ⟨h2, hf⟩
      · refine V.if_eqT (pc := 14) C 36 h2 (by decide) dX2_markEven_14 ?_
        refine V.lconst (pc := 36) C (lN 0) (by decide) dX2_markEven_36 ?_
        obtain ⟨g3, hf⟩ := gd_some hf
        refine V.last (pc := 37) C (sx_17 hG) (inb_in g3) dX2_markEven_37 ?_
        refine V.iinc (pc := 38) (lv' := [(1, .int (v1 + (nI 1))), (0, .ref (gA G 14))]) C (v1 + (nI 1)) 1 rfl rfl (by decide) rfl dX2_markEven_38 ?_
        refine V.goto (pc := 41) C 2 (by decide) dX2_markEven_41 ?_
        refine V.sub C [1, 0] (lv' := [(0, .ref (gA G 14)), (1, .int (v1 + (nI 1)))]) rfl ?_
        exact ih _ _ hf
      · refine V.if_eqF (pc := 14) C 36 h2 (by decide) dX2_markEven_14 ?_
        refine V.iload_n (pc := 17) C 1 rfl dX2_markEven_17 ?_
        refine V.aload_n (pc := 18) C 0 rfl dX2_markEven_18 ?_
        refine V.getI (pc := 19) C clX2 inX2 (sx_14 hG) 2 (by decide) wF_X2_50 rfl dX2_markEven_19 ?_
        refine V.iconst (pc := 22) C (mI 1) (by decide) dX2_markEven_22 ?_
        refine V.ixor (pc := 23) C dX2_markEven_23 ?_
        refine V.iand (pc := 24) C dX2_markEven_24 ?_
        rcases it_some hf with ⟨h4, hf⟩ | ⟨h4, hf⟩
        · refine V.if_neF (pc := 25) C 36 h4 (by decide) dX2_markEven_25 ?_
          refine V.aload_n (pc := 28) C 0 rfl dX2_markEven_28 ?_
          refine V.iload_n (pc := 29) C 1 rfl dX2_markEven_29 ?_
          obtain ⟨r6, M6, h6, hf⟩ := bd_some hf
          refine V.callVl (pc := 30) (As := [.int v1]) (rest := [.int v1, .ref (gA G 17)]) C (mX2_lotsEvenWith X.2.1 hG  h6) mf_X2_lotsEvenWith clX2 (sx_14 hG) wM_X2_96 rfl rfl ⟨by decide, by decide⟩ (Nat.le_of_ble_eq_true rfl) dX2_markEven_30 ?_
          refine V.goto (pc := 33) C 37 (by decide) dX2_markEven_33 ?_
          obtain ⟨g7, hf⟩ := gd_some hf
          refine V.last (pc := 37) C (sx_17 hG) (inb_in g7) dX2_markEven_37 ?_
          refine V.iinc (pc := 38) (lv' := [(1, .int (v1 + (nI 1))), (0, .ref (gA G 14))]) C (v1 + (nI 1)) 1 rfl rfl (by decide) rfl dX2_markEven_38 ?_
          refine V.goto (pc := 41) C 2 (by decide) dX2_markEven_41 ?_
          refine V.sub C [1, 0] (lv' := [(0, .ref (gA G 14)), (1, .int (v1 + (nI 1)))]) rfl ?_
          exact ih _ _ hf
        · refine V.if_neT (pc := 25) C 36 h4 (by decide) dX2_markEven_25 ?_
          refine V.lconst (pc := 36) C (lN 0) (by decide) dX2_markEven_36 ?_
          obtain ⟨g5, hf⟩ := gd_some hf
          refine V.last (pc := 37) C (sx_17 hG) (inb_in g5) dX2_markEven_37 ?_
          refine V.iinc (pc := 38) (lv' := [(1, .int (v1 + (nI 1))), (0, .ref (gA G 14))]) C (v1 + (nI 1)) 1 rfl rfl (by decide) rfl dX2_markEven_38 ?_
          refine V.goto (pc := 41) C 2 (by decide) dX2_markEven_41 ?_
          refine V.sub C [1, 0] (lv' := [(0, .ref (gA G 14)), (1, .int (v1 + (nI 1)))]) rfl ?_
          exact ih _ _ hf
def fX2_markEven  (M : Mm) : Option (Unit × Mm) :=
fX2_markEven_b2 fu (nI 0) M
set_option maxHeartbeats 4000000 in
set_option maxRecDepth 100000 in
theorem mX2_markEven (l : Launch) {G : Rg} (hG : gS G = shX)   {M Mf : Mm} {r : Unit} (hf : fX2_markEven  M = some (r, Mf)) : Mt l G yX2_markEven cX2_markEven 2 (none) 1 24 [.ref (gA G 14)] M none Mf := by
  refine Mt.of (by decide) (Nat.le_of_ble_eq_true rfl) ?_
  intro X C hX
  subst hX
  have C : cxX2_markEven G X := C
  show V G X 2 none Mf 0 [(0, .ref (gA G 14))] [] M
  rw [fX2_markEven] at hf
  refine V.iconst (pc := 0) C (nI 0) (by decide) dX2_markEven_0 ?_
  refine V.istore_n (pc := 1) (lv' := [(1, .int (nI 0)), (0, .ref (gA G 14))]) C (by decide) rfl dX2_markEven_1 ?_
  refine V.sub C [1, 0] (lv' := [(0, .ref (gA G 14)), (1, .int (nI 0))]) rfl ?_
  exact vX2_markEven_b2 C hG   fu _ _ hf
