theorem dX9_fair_0 : decode cX9_fair 0 = .ok (.iload_n 1, 1) := by decide +kernel
theorem dX9_fair_1 : decode cX9_fair 1 = .ok (.invokestatic 78, 3) := by decide +kernel
theorem dX9_fair_4 : decode cX9_fair 4 = .ok (.ifCond .ne 6, 3) := by decide +kernel
theorem dX9_fair_7 : decode cX9_fair 7 = .ok (.bipush (-2), 2) := by decide +kernel
theorem dX9_fair_9 : decode cX9_fair 9 = .ok (.ireturn, 1) := by decide +kernel
theorem dX9_fair_10 : decode cX9_fair 10 = .ok (.aload_n 0, 1) := by decide +kernel
theorem dX9_fair_11 : decode cX9_fair 11 = .ok (.getfield 16, 3) := by decide +kernel
theorem dX9_fair_14 : decode cX9_fair 14 = .ok (.iload_n 1, 1) := by decide +kernel
theorem dX9_fair_15 : decode cX9_fair 15 = .ok (.iaload, 1) := by decide +kernel
theorem dX9_fair_16 : decode cX9_fair 16 = .ok (.istore_n 2, 1) := by decide +kernel
theorem dX9_fair_17 : decode cX9_fair 17 = .ok (.bipush (-6), 2) := by decide +kernel
theorem dX9_fair_19 : decode cX9_fair 19 = .ok (.istore_n 3, 1) := by decide +kernel
theorem dX9_fair_20 : decode cX9_fair 20 = .ok (.bipush 99, 2) := by decide +kernel
theorem dX9_fair_22 : decode cX9_fair 22 = .ok (.istore 4, 2) := by decide +kernel
theorem dX9_fair_24 : decode cX9_fair 24 = .ok (.iload 4, 2) := by decide +kernel
theorem dX9_fair_26 : decode cX9_fair 26 = .ok (.ifCond .le 31, 3) := by decide +kernel
theorem dX9_fair_29 : decode cX9_fair 29 = .ok (.aload_n 0, 1) := by decide +kernel
theorem dX9_fair_30 : decode cX9_fair 30 = .ok (.getfield 16, 3) := by decide +kernel
theorem dX9_fair_33 : decode cX9_fair 33 = .ok (.iload_n 1, 1) := by decide +kernel
theorem dX9_fair_34 : decode cX9_fair 34 = .ok (.iload 4, 2) := by decide +kernel
theorem dX9_fair_36 : decode cX9_fair 36 = .ok (.iastore, 1) := by decide +kernel
theorem dX9_fair_37 : decode cX9_fair 37 = .ok (.aload_n 0, 1) := by decide +kernel
theorem dX9_fair_38 : decode cX9_fair 38 = .ok (.invokevirtual 227, 3) := by decide +kernel
theorem dX9_fair_41 : decode cX9_fair 41 = .ok (.ifCond .eq 8, 3) := by decide +kernel
theorem dX9_fair_44 : decode cX9_fair 44 = .ok (.iload 4, 2) := by decide +kernel
theorem dX9_fair_46 : decode cX9_fair 46 = .ok (.goto 4, 3) := by decide +kernel
theorem dX9_fair_49 : decode cX9_fair 49 = .ok (.iload_n 3, 1) := by decide +kernel
theorem dX9_fair_50 : decode cX9_fair 50 = .ok (.istore_n 3, 1) := by decide +kernel
theorem dX9_fair_51 : decode cX9_fair 51 = .ok (.iinc 4 (-1), 3) := by decide +kernel
theorem dX9_fair_54 : decode cX9_fair 54 = .ok (.goto (-30), 3) := by decide +kernel
theorem dX9_fair_57 : decode cX9_fair 57 = .ok (.aload_n 0, 1) := by decide +kernel
theorem dX9_fair_58 : decode cX9_fair 58 = .ok (.getfield 16, 3) := by decide +kernel
theorem dX9_fair_61 : decode cX9_fair 61 = .ok (.iload_n 1, 1) := by decide +kernel
theorem dX9_fair_62 : decode cX9_fair 62 = .ok (.iload_n 2, 1) := by decide +kernel
theorem dX9_fair_63 : decode cX9_fair 63 = .ok (.iastore, 1) := by decide +kernel
theorem dX9_fair_64 : decode cX9_fair 64 = .ok (.iload_n 3, 1) := by decide +kernel
theorem dX9_fair_65 : decode cX9_fair 65 = .ok (.ireturn, 1) := by decide +kernel
abbrev cxX9_fair (G : Rg) (X : Ct) : Prop := Cx G X cX9_fair 5 RX9 (some .int) 5 110 (Cond.code yX9_fair cX9_fair 5 (some .int))
def fX9_fair_b24   : Nat → Int32 → Int32 → Int32 → Int32 → Mm → Option (Int32 × Mm)
  | 0, _, _, _, _, _ => none
  | n + 1, v1, v2, v3, v4, M =>
    if v4 ≤ (nI 0) then
    (gd (inb v1 6) (
    some (v3, (sI M 3 v1.toNatClampNeg v2))))
    else
    (gd (inb v1 6) (
    bd (fX9_isAllEven (sI M 3 v1.toNatClampNeg v4)) fun r4 M4 =>
    if r4 = (nI 0) then
    (fX9_fair_b24  n v1 v2 v3 (v4 + (mI 1)) M4)
    else
    (fX9_fair_b24  n v1 v2 v4 (v4 + (mI 1)) M4)))
set_option maxHeartbeats 4000000 in
set_option maxRecDepth 100000 in
theorem vX9_fair_b24 {G : Rg} {X : Ct} {r : Int32} {Mf : Mm}   (C : cxX9_fair G X) (hG : gS G = shM)   : ∀ (n : Nat) (v1 : Int32) (v2 : Int32) (v3 : Int32) (v4 : Int32) (M : Mm), fX9_fair_b24 n v1 v2 v3 v4 M = some (r, Mf) → V G X 5 (some (.int r)) Mf 24 [(0, .ref (gA G 0)), (1, .int v1), (2, .int v2), (3, .int v3), (4, .int v4)] [] M := by
  intro n
  induction n with
  | zero => intro v1 v2 v3 v4 M hf; rw [fX9_fair_b24] at hf; cases hf
  | succ n ih =>
    intro v1 v2 v3 v4 M hf
    rw [fX9_fair_b24] at hf
    refine V.iload (pc := 24) C 4 rfl dX9_fair_24 ?_
    rcases it_some hf with ⟨h1, hf⟩ | ⟨h1, hf⟩
    · refine V.if_leT (pc := 26) C 57 h1 (by decide) dX9_fair_26 ?_
      refine V.aload_n (pc := 57) C 0 rfl dX9_fair_57 ?_
      refine V.getR (pc := 58) C clX9 inX9 (sm_0 hG) 4 (by decide) wF_X9_16 rfl dX9_fair_58 ?_
      refine V.iload_n (pc := 61) C 1 rfl dX9_fair_61 ?_
      refine V.iload_n (pc := 62) C 2 rfl dX9_fair_62 ?_
      obtain ⟨g2, hf⟩ := gd_some hf
      refine V.iast (pc := 63) C (sm_3 hG) (inb_in g2) dX9_fair_63 ?_
      refine V.iload_n (pc := 64) C 3 rfl dX9_fair_64 ?_
      exact V.retI (pc := 65) C hf dX9_fair_65
    · refine V.if_leF (pc := 26) C 57 h1 (by decide) dX9_fair_26 ?_
      refine V.aload_n (pc := 29) C 0 rfl dX9_fair_29 ?_
      refine V.getR (pc := 30) C clX9 inX9 (sm_0 hG) 4 (by decide) wF_X9_16 rfl dX9_fair_30 ?_
      refine V.iload_n (pc := 33) C 1 rfl dX9_fair_33 ?_
      refine V.iload (pc := 34) C 4 rfl dX9_fair_34 ?_
      obtain ⟨g3, hf⟩ := gd_some hf
      refine V.iast (pc := 36) C (sm_3 hG) (inb_in g3) dX9_fair_36 ?_
      refine V.aload_n (pc := 37) C 0 rfl dX9_fair_37 ?_
      obtain ⟨r4, M4, h4, hf⟩ := bd_some hf
      refine V.callVi (pc := 38) (As := []) (rest := []) C (mX9_isAllEven X.2.1 hG  h4) mf_X9_isAllEven clX9 (sm_0 hG) wM_X9_227 rfl rfl ⟨by decide, by decide⟩ (Nat.le_of_ble_eq_true rfl) dX9_fair_38 ?_
      rcases it_some hf with ⟨h5, hf⟩ | ⟨h5, hf⟩
      · refine V.if_eqT (pc := 41) C 49 h5 (by decide) dX9_fair_41 ?_
        refine V.iload_n (pc := 49) C 3 rfl dX9_fair_49 ?_
        refine V.istore_n (pc := 50) (lv' := [(3, .int v3), (0, .ref (gA G 0)), (1, .int v1), (2, .int v2), (4, .int v4)]) C (by decide) rfl dX9_fair_50 ?_
        refine V.iinc (pc := 51) (lv' := [(4, .int (v4 + (mI 1))), (3, .int v3), (0, .ref (gA G 0)), (1, .int v1), (2, .int v2)]) C (v4 + (mI 1)) 4 rfl (congrArg (fun z => v4 + z) (by decide)) (by decide) rfl dX9_fair_51 ?_
        refine V.goto (pc := 54) C 24 (by decide) dX9_fair_54 ?_
        refine V.sub C [2, 3, 4, 1, 0] (lv' := [(0, .ref (gA G 0)), (1, .int v1), (2, .int v2), (3, .int v3), (4, .int (v4 + (mI 1)))]) rfl ?_
        exact ih _ _ _ _ _ hf
      · refine V.if_eqF (pc := 41) C 49 h5 (by decide) dX9_fair_41 ?_
        refine V.iload (pc := 44) C 4 rfl dX9_fair_44 ?_
        refine V.goto (pc := 46) C 50 (by decide) dX9_fair_46 ?_
        refine V.istore_n (pc := 50) (lv' := [(3, .int v4), (0, .ref (gA G 0)), (1, .int v1), (2, .int v2), (4, .int v4)]) C (by decide) rfl dX9_fair_50 ?_
        refine V.iinc (pc := 51) (lv' := [(4, .int (v4 + (mI 1))), (3, .int v4), (0, .ref (gA G 0)), (1, .int v1), (2, .int v2)]) C (v4 + (mI 1)) 4 rfl (congrArg (fun z => v4 + z) (by decide)) (by decide) rfl dX9_fair_51 ?_
        refine V.goto (pc := 54) C 24 (by decide) dX9_fair_54 ?_
        refine V.sub C [2, 3, 4, 1, 0] (lv' := [(0, .ref (gA G 0)), (1, .int v1), (2, .int v2), (3, .int v4), (4, .int (v4 + (mI 1)))]) rfl ?_
        exact ih _ _ _ _ _ hf
def fX9_fair (x1 : Int32) (M : Mm) : Option (Int32 × Mm) :=
bd (fX9_isRank x1 M) fun r1 M1 =>
if r1 = (nI 0) then
(some ((mI 2), M1))
else
(gd (inb x1 6) (
fX9_fair_b24 fu x1 (M1.1 3 x1.toNatClampNeg) (mI 6) (nI 99) M1))
set_option maxHeartbeats 4000000 in
set_option maxRecDepth 100000 in
theorem mX9_fair (l : Launch) {G : Rg} (hG : gS G = shM) {x1 : Int32}  {M Mf : Mm} {r : Int32} (hf : fX9_fair x1 M = some (r, Mf)) : Mt l G yX9_fair cX9_fair 5 (some .int) 5 110 [.ref (gA G 0), .int x1] M (some (.int r)) Mf := by
  refine Mt.of (by decide) (Nat.le_of_ble_eq_true rfl) ?_
  intro X C hX
  subst hX
  have C : cxX9_fair G X := C
  show V G X 5 (some (.int r)) Mf 0 [(0, .ref (gA G 0)), (1, .int x1)] [] M
  rw [fX9_fair] at hf
  refine V.iload_n (pc := 0) C 1 rfl dX9_fair_0 ?_
  obtain ⟨r1, M1, h1, hf⟩ := bd_some hf
  refine V.callSi (pc := 1) (As := [.int x1]) (rest := []) C (mX9_isRank X.2.1 hG  h1) mf_X9_isRank wM_X9_78 rfl rfl ⟨by decide, by decide⟩ (Nat.le_of_ble_eq_true rfl) dX9_fair_1 ?_
  rcases it_some hf with ⟨h2, hf⟩ | ⟨h2, hf⟩
  · refine V.if_neF (pc := 4) C 10 h2 (by decide) dX9_fair_4 ?_
    refine V.bipush (pc := 7) C (mI 2) (by decide) dX9_fair_7 ?_
    exact V.retI (pc := 9) C hf dX9_fair_9
  · refine V.if_neT (pc := 4) C 10 h2 (by decide) dX9_fair_4 ?_
    refine V.aload_n (pc := 10) C 0 rfl dX9_fair_10 ?_
    refine V.getR (pc := 11) C clX9 inX9 (sm_0 hG) 4 (by decide) wF_X9_16 rfl dX9_fair_11 ?_
    refine V.iload_n (pc := 14) C 1 rfl dX9_fair_14 ?_
    obtain ⟨g3, hf⟩ := gd_some hf
    refine V.iald (pc := 15) C (sm_3 hG) (inb_in g3) dX9_fair_15 ?_
    refine V.istore_n (pc := 16) (lv' := [(2, .int (M1.1 3 x1.toNatClampNeg)), (0, .ref (gA G 0)), (1, .int x1)]) C (by decide) rfl dX9_fair_16 ?_
    refine V.bipush (pc := 17) C (mI 6) (by decide) dX9_fair_17 ?_
    refine V.istore_n (pc := 19) (lv' := [(3, .int (mI 6)), (2, .int (M1.1 3 x1.toNatClampNeg)), (0, .ref (gA G 0)), (1, .int x1)]) C (by decide) rfl dX9_fair_19 ?_
    refine V.bipush (pc := 20) C (nI 99) (by decide) dX9_fair_20 ?_
    refine V.istore (pc := 22) (lv' := [(4, .int (nI 99)), (3, .int (mI 6)), (2, .int (M1.1 3 x1.toNatClampNeg)), (0, .ref (gA G 0)), (1, .int x1)]) C (by decide) rfl dX9_fair_22 ?_
    refine V.sub C [3, 4, 2, 1, 0] (lv' := [(0, .ref (gA G 0)), (1, .int x1), (2, .int (M1.1 3 x1.toNatClampNeg)), (3, .int (mI 6)), (4, .int (nI 99))]) rfl ?_
    exact vX9_fair_b24 C hG   fu _ _ _ _ _ hf
theorem dX9_seen_0 : decode cX9_seen 0 = .ok (.iload_n 1, 1) := by decide +kernel
theorem dX9_seen_1 : decode cX9_seen 1 = .ok (.i2l, 1) := by decide +kernel
theorem dX9_seen_2 : decode cX9_seen 2 = .ok (.lconst 1, 1) := by decide +kernel
theorem dX9_seen_3 : decode cX9_seen 3 = .ok (.ldc2_w 231, 3) := by decide +kernel
theorem dX9_seen_6 : decode cX9_seen 6 = .ok (.invokestatic 69, 3) := by decide +kernel
theorem dX9_seen_9 : decode cX9_seen 9 = .ok (.ifCond .eq 19, 3) := by decide +kernel
theorem dX9_seen_12 : decode cX9_seen 12 = .ok (.iload_n 2, 1) := by decide +kernel
theorem dX9_seen_13 : decode cX9_seen 13 = .ok (.i2l, 1) := by decide +kernel
theorem dX9_seen_14 : decode cX9_seen 14 = .ok (.lconst 1, 1) := by decide +kernel
theorem dX9_seen_15 : decode cX9_seen 15 = .ok (.ldc2_w 231, 3) := by decide +kernel
theorem dX9_seen_18 : decode cX9_seen 18 = .ok (.invokestatic 69, 3) := by decide +kernel
theorem dX9_seen_21 : decode cX9_seen 21 = .ok (.ifCond .eq 7, 3) := by decide +kernel
theorem dX9_seen_24 : decode cX9_seen 24 = .ok (.iconst 1, 1) := by decide +kernel
theorem dX9_seen_25 : decode cX9_seen 25 = .ok (.goto 4, 3) := by decide +kernel
theorem dX9_seen_28 : decode cX9_seen 28 = .ok (.iconst 0, 1) := by decide +kernel
theorem dX9_seen_29 : decode cX9_seen 29 = .ok (.istore 4, 2) := by decide +kernel
theorem dX9_seen_31 : decode cX9_seen 31 = .ok (.iload 4, 2) := by decide +kernel
theorem dX9_seen_33 : decode cX9_seen 33 = .ok (.ifCond .eq 19, 3) := by decide +kernel
theorem dX9_seen_36 : decode cX9_seen 36 = .ok (.iload_n 1, 1) := by decide +kernel
theorem dX9_seen_37 : decode cX9_seen 37 = .ok (.iload_n 2, 1) := by decide +kernel
theorem dX9_seen_38 : decode cX9_seen 38 = .ok (.bipush 6, 2) := by decide +kernel
theorem dX9_seen_40 : decode cX9_seen 40 = .ok (.ishl, 1) := by decide +kernel
theorem dX9_seen_41 : decode cX9_seen 41 = .ok (.ior, 1) := by decide +kernel
theorem dX9_seen_42 : decode cX9_seen 42 = .ok (.aload_n 0, 1) := by decide +kernel
theorem dX9_seen_43 : decode cX9_seen 43 = .ok (.getfield 73, 3) := by decide +kernel
theorem dX9_seen_46 : decode cX9_seen 46 = .ok (.iconst (-1), 1) := by decide +kernel
theorem dX9_seen_47 : decode cX9_seen 47 = .ok (.ixor, 1) := by decide +kernel
theorem dX9_seen_48 : decode cX9_seen 48 = .ok (.iand, 1) := by decide +kernel
theorem dX9_seen_49 : decode cX9_seen 49 = .ok (.ifCond .eq 5, 3) := by decide +kernel
theorem dX9_seen_52 : decode cX9_seen 52 = .ok (.iconst (-1), 1) := by decide +kernel
theorem dX9_seen_53 : decode cX9_seen 53 = .ok (.ireturn, 1) := by decide +kernel
theorem dX9_seen_54 : decode cX9_seen 54 = .ok (.aload_n 0, 1) := by decide +kernel
theorem dX9_seen_55 : decode cX9_seen 55 = .ok (.getfield 233, 3) := by decide +kernel
theorem dX9_seen_58 : decode cX9_seen 58 = .ok (.bipush 8, 2) := by decide +kernel
theorem dX9_seen_60 : decode cX9_seen 60 = .ok (.if_icmp .ne 6, 3) := by decide +kernel
theorem dX9_seen_63 : decode cX9_seen 63 = .ok (.bipush (-4), 2) := by decide +kernel
theorem dX9_seen_65 : decode cX9_seen 65 = .ok (.ireturn, 1) := by decide +kernel
theorem dX9_seen_66 : decode cX9_seen 66 = .ok (.aload_n 0, 1) := by decide +kernel
theorem dX9_seen_67 : decode cX9_seen 67 = .ok (.getfield 19, 3) := by decide +kernel
theorem dX9_seen_70 : decode cX9_seen 70 = .ok (.aload_n 0, 1) := by decide +kernel
theorem dX9_seen_71 : decode cX9_seen 71 = .ok (.getfield 233, 3) := by decide +kernel
theorem dX9_seen_74 : decode cX9_seen 74 = .ok (.iload_n 1, 1) := by decide +kernel
theorem dX9_seen_75 : decode cX9_seen 75 = .ok (.iastore, 1) := by decide +kernel
theorem dX9_seen_76 : decode cX9_seen 76 = .ok (.aload_n 0, 1) := by decide +kernel
theorem dX9_seen_77 : decode cX9_seen 77 = .ok (.getfield 22, 3) := by decide +kernel
theorem dX9_seen_80 : decode cX9_seen 80 = .ok (.aload_n 0, 1) := by decide +kernel
theorem dX9_seen_81 : decode cX9_seen 81 = .ok (.getfield 233, 3) := by decide +kernel
theorem dX9_seen_84 : decode cX9_seen 84 = .ok (.iload_n 2, 1) := by decide +kernel
theorem dX9_seen_85 : decode cX9_seen 85 = .ok (.iastore, 1) := by decide +kernel
theorem dX9_seen_86 : decode cX9_seen 86 = .ok (.aload_n 0, 1) := by decide +kernel
theorem dX9_seen_87 : decode cX9_seen 87 = .ok (.getfield 25, 3) := by decide +kernel
theorem dX9_seen_90 : decode cX9_seen 90 = .ok (.aload_n 0, 1) := by decide +kernel
theorem dX9_seen_91 : decode cX9_seen 91 = .ok (.getfield 233, 3) := by decide +kernel
theorem dX9_seen_94 : decode cX9_seen 94 = .ok (.iload_n 3, 1) := by decide +kernel
theorem dX9_seen_95 : decode cX9_seen 95 = .ok (.ifCond .eq 7, 3) := by decide +kernel
theorem dX9_seen_98 : decode cX9_seen 98 = .ok (.iconst 1, 1) := by decide +kernel
theorem dX9_seen_99 : decode cX9_seen 99 = .ok (.goto 4, 3) := by decide +kernel
theorem dX9_seen_102 : decode cX9_seen 102 = .ok (.iconst 0, 1) := by decide +kernel
theorem dX9_seen_103 : decode cX9_seen 103 = .ok (.iastore, 1) := by decide +kernel
theorem dX9_seen_104 : decode cX9_seen 104 = .ok (.aload_n 0, 1) := by decide +kernel
theorem dX9_seen_105 : decode cX9_seen 105 = .ok (.dup, 1) := by decide +kernel
theorem dX9_seen_106 : decode cX9_seen 106 = .ok (.getfield 233, 3) := by decide +kernel
theorem dX9_seen_109 : decode cX9_seen 109 = .ok (.iconst 1, 1) := by decide +kernel
theorem dX9_seen_110 : decode cX9_seen 110 = .ok (.iadd, 1) := by decide +kernel
theorem dX9_seen_111 : decode cX9_seen 111 = .ok (.putfield 233, 3) := by decide +kernel
theorem dX9_seen_114 : decode cX9_seen 114 = .ok (.aload_n 0, 1) := by decide +kernel
theorem dX9_seen_115 : decode cX9_seen 115 = .ok (.getfield 233, 3) := by decide +kernel
theorem dX9_seen_118 : decode cX9_seen 118 = .ok (.ireturn, 1) := by decide +kernel
abbrev cxX9_seen (G : Rg) (X : Ct) : Prop := Cx G X cX9_seen 5 RX9 (some .int) 1 25 (Cond.code yX9_seen cX9_seen 5 (some .int))
def fX9_seen_b103   (s1 : Int32) (s2 : Int32) (M : Mm) : Option (Int32 × Mm) :=
gd (inb s1 8) (
some (((sI (sI M 6 s1.toNatClampNeg s2) 0 8 (((sI M 6 s1.toNatClampNeg s2).1 0 8) + (nI 1))).1 0 8), (sI (sI M 6 s1.toNatClampNeg s2) 0 8 (((sI M 6 s1.toNatClampNeg s2).1 0 8) + (nI 1)))))
set_option maxHeartbeats 4000000 in
set_option maxRecDepth 100000 in
theorem vX9_seen_b103 {G : Rg} {X : Ct} {r : Int32} {Mf : Mm}   (C : cxX9_seen G X) (hG : gS G = shM)   (s1 : Int32) (s2 : Int32) (M : Mm) (hf : fX9_seen_b103 s1 s2 M = some (r, Mf)) : V G X 5 (some (.int r)) Mf 103 [(0, .ref (gA G 0))] [.int s2, .int s1, .ref (gA G 6)] M := by
  rw [fX9_seen_b103] at hf
  obtain ⟨g1, hf⟩ := gd_some hf
  refine V.iast (pc := 103) C (sm_6 hG) (inb_in g1) dX9_seen_103 ?_
  refine V.aload_n (pc := 104) C 0 rfl dX9_seen_104 ?_
  refine V.dup (pc := 105) C rfl dX9_seen_105 ?_
  refine V.getI (pc := 106) C clX9 inX9 (sm_0 hG) 8 (by decide) wF_X9_233 rfl dX9_seen_106 ?_
  refine V.iconst (pc := 109) C (nI 1) (by decide) dX9_seen_109 ?_
  refine V.iadd (pc := 110) C dX9_seen_110 ?_
  refine V.putI (pc := 111) C clX9 inX9 (sm_0 hG) 8 (by decide) wF_X9_233 tyX9 tyX9_ok nmX9 rfl (tyX9_ok 8 (by decide)) rfl dX9_seen_111 ?_
  refine V.aload_n (pc := 114) C 0 rfl dX9_seen_114 ?_
  refine V.getI (pc := 115) C clX9 inX9 (sm_0 hG) 8 (by decide) wF_X9_233 rfl dX9_seen_115 ?_
  exact V.retI (pc := 118) C hf dX9_seen_118
def fX9_seen_b29   (v1 : Int32) (v2 : Int32) (v3 : Int32) (s0 : Int32) (M : Mm) : Option (Int32 × Mm) :=
if s0 = (nI 0) then
(some ((mI 1), M))
else
(if ((v1 ||| (jshl v2 (nI 6))) &&& ((M.1 0 0) ^^^ (mI 1))) = (nI 0) then
(if (M.1 0 8) = (nI 8) then
(some ((mI 4), M))
else
(gd (inb (M.1 0 8) 8) (
gd (inb ((sI M 4 (M.1 0 8).toNatClampNeg v1).1 0 8) 8) (
if v3 = (nI 0) then
(fX9_seen_b103 ((sI (sI M 4 (M.1 0 8).toNatClampNeg v1) 5 ((sI M 4 (M.1 0 8).toNatClampNeg v1).1 0 8).toNatClampNeg v2).1 0 8) (nI 0) (sI (sI M 4 (M.1 0 8).toNatClampNeg v1) 5 ((sI M 4 (M.1 0 8).toNatClampNeg v1).1 0 8).toNatClampNeg v2))
else
(fX9_seen_b103 ((sI (sI M 4 (M.1 0 8).toNatClampNeg v1) 5 ((sI M 4 (M.1 0 8).toNatClampNeg v1).1 0 8).toNatClampNeg v2).1 0 8) (nI 1) (sI (sI M 4 (M.1 0 8).toNatClampNeg v1) 5 ((sI M 4 (M.1 0 8).toNatClampNeg v1).1 0 8).toNatClampNeg v2))))))
else
(some ((mI 1), M)))
set_option maxHeartbeats 4000000 in
set_option maxRecDepth 100000 in
theorem vX9_seen_b29 {G : Rg} {X : Ct} {r : Int32} {Mf : Mm}   (C : cxX9_seen G X) (hG : gS G = shM)   (v1 : Int32) (v2 : Int32) (v3 : Int32) (s0 : Int32) (M : Mm) (hf : fX9_seen_b29 v1 v2 v3 s0 M = some (r, Mf)) : V G X 5 (some (.int r)) Mf 29 [(0, .ref (gA G 0)), (1, .int v1), (2, .int v2), (3, .int v3)] [.int s0] M := by
  rw [fX9_seen_b29] at hf
  refine V.istore (pc := 29) (lv' := [(4, .int s0), (0, .ref (gA G 0)), (1, .int v1), (2, .int v2), (3, .int v3)]) C (by decide) rfl dX9_seen_29 ?_
  refine V.iload (pc := 31) C 0 rfl dX9_seen_31 ?_
  rcases it_some hf with ⟨h1, hf⟩ | ⟨h1, hf⟩
  · refine V.if_eqT (pc := 33) C 52 h1 (by decide) dX9_seen_33 ?_
    refine V.iconst (pc := 52) C (mI 1) (by decide) dX9_seen_52 ?_
    exact V.retI (pc := 53) C hf dX9_seen_53
  · refine V.if_eqF (pc := 33) C 52 h1 (by decide) dX9_seen_33 ?_
    refine V.iload_n (pc := 36) C 2 rfl dX9_seen_36 ?_
    refine V.iload_n (pc := 37) C 3 rfl dX9_seen_37 ?_
    refine V.bipush (pc := 38) C (nI 6) (by decide) dX9_seen_38 ?_
    refine V.ishl (pc := 40) C dX9_seen_40 ?_
    refine V.ior (pc := 41) C dX9_seen_41 ?_
    refine V.aload_n (pc := 42) C 1 rfl dX9_seen_42 ?_
    refine V.getI (pc := 43) C clX9 inX9 (sm_0 hG) 0 (by decide) wF_X9_73 rfl dX9_seen_43 ?_
    refine V.iconst (pc := 46) C (mI 1) (by decide) dX9_seen_46 ?_
    refine V.ixor (pc := 47) C dX9_seen_47 ?_
    refine V.iand (pc := 48) C dX9_seen_48 ?_
    rcases it_some hf with ⟨h2, hf⟩ | ⟨h2, hf⟩
    · refine V.if_eqT (pc := 49) C 54 h2 (by decide) dX9_seen_49 ?_
      refine V.aload_n (pc := 54) C 1 rfl dX9_seen_54 ?_
      refine V.getI (pc := 55) C clX9 inX9 (sm_0 hG) 8 (by decide) wF_X9_233 rfl dX9_seen_55 ?_
      refine V.bipush (pc := 58) C (nI 8) (by decide) dX9_seen_58 ?_
      rcases it_some hf with ⟨h3, hf⟩ | ⟨h3, hf⟩
      · refine V.ic_neF (pc := 60) C 66 h3 (by decide) dX9_seen_60 ?_
        refine V.bipush (pc := 63) C (mI 4) (by decide) dX9_seen_63 ?_
        exact V.retI (pc := 65) C hf dX9_seen_65
      · refine V.ic_neT (pc := 60) C 66 h3 (by decide) dX9_seen_60 ?_
        refine V.aload_n (pc := 66) C 1 rfl dX9_seen_66 ?_
        refine V.getR (pc := 67) C clX9 inX9 (sm_0 hG) 5 (by decide) wF_X9_19 rfl dX9_seen_67 ?_
        refine V.aload_n (pc := 70) C 1 rfl dX9_seen_70 ?_
        refine V.getI (pc := 71) C clX9 inX9 (sm_0 hG) 8 (by decide) wF_X9_233 rfl dX9_seen_71 ?_
        refine V.iload_n (pc := 74) C 2 rfl dX9_seen_74 ?_
        obtain ⟨g4, hf⟩ := gd_some hf
        refine V.iast (pc := 75) C (sm_4 hG) (inb_in g4) dX9_seen_75 ?_
        refine V.aload_n (pc := 76) C 1 rfl dX9_seen_76 ?_
        refine V.getR (pc := 77) C clX9 inX9 (sm_0 hG) 6 (by decide) wF_X9_22 rfl dX9_seen_77 ?_
        refine V.aload_n (pc := 80) C 1 rfl dX9_seen_80 ?_
        refine V.getI (pc := 81) C clX9 inX9 (sm_0 hG) 8 (by decide) wF_X9_233 rfl dX9_seen_81 ?_
        refine V.iload_n (pc := 84) C 3 rfl dX9_seen_84 ?_
        obtain ⟨g5, hf⟩ := gd_some hf
        refine V.iast (pc := 85) C (sm_5 hG) (inb_in g5) dX9_seen_85 ?_
        refine V.aload_n (pc := 86) C 1 rfl dX9_seen_86 ?_
        refine V.getR (pc := 87) C clX9 inX9 (sm_0 hG) 7 (by decide) wF_X9_25 rfl dX9_seen_87 ?_
        refine V.aload_n (pc := 90) C 1 rfl dX9_seen_90 ?_
        refine V.getI (pc := 91) C clX9 inX9 (sm_0 hG) 8 (by decide) wF_X9_233 rfl dX9_seen_91 ?_
        refine V.iload_n (pc := 94) C 4 rfl dX9_seen_94 ?_
        rcases it_some hf with ⟨h6, hf⟩ | ⟨h6, hf⟩
        · refine V.if_eqT (pc := 95) C 102 h6 (by decide) dX9_seen_95 ?_
          refine V.iconst (pc := 102) C (nI 0) (by decide) dX9_seen_102 ?_
          refine V.sub C [1] (lv' := [(0, .ref (gA G 0))]) rfl ?_
          exact vX9_seen_b103 C hG    _ _ _ hf
        · refine V.if_eqF (pc := 95) C 102 h6 (by decide) dX9_seen_95 ?_
          refine V.iconst (pc := 98) C (nI 1) (by decide) dX9_seen_98 ?_
          refine V.goto (pc := 99) C 103 (by decide) dX9_seen_99 ?_
          refine V.sub C [1] (lv' := [(0, .ref (gA G 0))]) rfl ?_
          exact vX9_seen_b103 C hG    _ _ _ hf
    · refine V.if_eqF (pc := 49) C 54 h2 (by decide) dX9_seen_49 ?_
      refine V.iconst (pc := 52) C (mI 1) (by decide) dX9_seen_52 ?_
      exact V.retI (pc := 53) C hf dX9_seen_53
def fX9_seen_b28   (v1 : Int32) (v2 : Int32) (v3 : Int32) (M : Mm) : Option (Int32 × Mm) :=
fX9_seen_b29 v1 v2 v3 (nI 0) M
set_option maxHeartbeats 4000000 in
set_option maxRecDepth 100000 in
theorem vX9_seen_b28 {G : Rg} {X : Ct} {r : Int32} {Mf : Mm}   (C : cxX9_seen G X) (hG : gS G = shM)   (v1 : Int32) (v2 : Int32) (v3 : Int32) (M : Mm) (hf : fX9_seen_b28 v1 v2 v3 M = some (r, Mf)) : V G X 5 (some (.int r)) Mf 28 [(0, .ref (gA G 0)), (1, .int v1), (2, .int v2), (3, .int v3)] [] M := by
  rw [fX9_seen_b28] at hf
  refine V.iconst (pc := 28) C (nI 0) (by decide) dX9_seen_28 ?_
  exact vX9_seen_b29 C hG    _ _ _ _ _ hf
def fX9_seen (x1 : Int32) (x2 : Int32) (x3 : Int32) (M : Mm) : Option (Int32 × Mm) :=
bd (fX9_in x1.toInt64 (lN 1) (lN 63) M) fun r1 M1 =>
if r1 = (nI 0) then
(fX9_seen_b28 x1 x2 x3 M1)
else
(bd (fX9_in x2.toInt64 (lN 1) (lN 63) M1) fun r3 M3 =>
if r3 = (nI 0) then
(fX9_seen_b28 x1 x2 x3 M3)
else
(fX9_seen_b29 x1 x2 x3 (nI 1) M3))
set_option maxHeartbeats 4000000 in
set_option maxRecDepth 100000 in
theorem mX9_seen (l : Launch) {G : Rg} (hG : gS G = shM) {x1 : Int32} {x2 : Int32} {x3 : Int32}  {M Mf : Mm} {r : Int32} (hf : fX9_seen x1 x2 x3 M = some (r, Mf)) : Mt l G yX9_seen cX9_seen 5 (some .int) 1 25 [.ref (gA G 0), .int x1, .int x2, .int x3] M (some (.int r)) Mf := by
  refine Mt.of (by decide) (Nat.le_of_ble_eq_true rfl) ?_
  intro X C hX
  subst hX
  have C : cxX9_seen G X := C
  show V G X 5 (some (.int r)) Mf 0 [(0, .ref (gA G 0)), (1, .int x1), (2, .int x2), (3, .int x3)] [] M
  rw [fX9_seen] at hf
  refine V.iload_n (pc := 0) C 1 rfl dX9_seen_0 ?_
  refine V.i2l (pc := 1) C dX9_seen_1 ?_
  refine V.lconst (pc := 2) C (lN 1) (by decide) dX9_seen_2 ?_
  refine V.ldc2 (pc := 3) C wL_X9_231 dX9_seen_3 ?_
  obtain ⟨r1, M1, h1, hf⟩ := bd_some hf
  refine V.callSi (pc := 6) (As := [.long x1.toInt64, .long (lN 1), .long (lN 63)]) (rest := []) C (mX9_in X.2.1 hG  h1) mf_X9_in wM_X9_69 rfl rfl ⟨by decide, by decide⟩ (Nat.le_of_ble_eq_true rfl) dX9_seen_6 ?_
  rcases it_some hf with ⟨h2, hf⟩ | ⟨h2, hf⟩
  · refine V.if_eqT (pc := 9) C 28 h2 (by decide) dX9_seen_9 ?_
    exact vX9_seen_b28 C hG    _ _ _ _ hf
  · refine V.if_eqF (pc := 9) C 28 h2 (by decide) dX9_seen_9 ?_
    refine V.iload_n (pc := 12) C 2 rfl dX9_seen_12 ?_
    refine V.i2l (pc := 13) C dX9_seen_13 ?_
    refine V.lconst (pc := 14) C (lN 1) (by decide) dX9_seen_14 ?_
    refine V.ldc2 (pc := 15) C wL_X9_231 dX9_seen_15 ?_
    obtain ⟨r3, M3, h3, hf⟩ := bd_some hf
    refine V.callSi (pc := 18) (As := [.long x2.toInt64, .long (lN 1), .long (lN 63)]) (rest := []) C (mX9_in X.2.1 hG  h3) mf_X9_in wM_X9_69 rfl rfl ⟨by decide, by decide⟩ (Nat.le_of_ble_eq_true rfl) dX9_seen_18 ?_
    rcases it_some hf with ⟨h4, hf⟩ | ⟨h4, hf⟩
    · refine V.if_eqT (pc := 21) C 28 h4 (by decide) dX9_seen_21 ?_
      exact vX9_seen_b28 C hG    _ _ _ _ hf
    · refine V.if_eqF (pc := 21) C 28 h4 (by decide) dX9_seen_21 ?_
      refine V.iconst (pc := 24) C (nI 1) (by decide) dX9_seen_24 ?_
      refine V.goto (pc := 25) C 29 (by decide) dX9_seen_25 ?_
      exact vX9_seen_b29 C hG    _ _ _ _ _ hf
theorem dX9_forget_0 : decode cX9_forget 0 = .ok (.aload_n 0, 1) := by decide +kernel
theorem dX9_forget_1 : decode cX9_forget 1 = .ok (.getfield 233, 3) := by decide +kernel
theorem dX9_forget_4 : decode cX9_forget 4 = .ok (.istore_n 1, 1) := by decide +kernel
theorem dX9_forget_5 : decode cX9_forget 5 = .ok (.aload_n 0, 1) := by decide +kernel
theorem dX9_forget_6 : decode cX9_forget 6 = .ok (.iconst 0, 1) := by decide +kernel
theorem dX9_forget_7 : decode cX9_forget 7 = .ok (.putfield 233, 3) := by decide +kernel
theorem dX9_forget_10 : decode cX9_forget 10 = .ok (.iload_n 1, 1) := by decide +kernel
theorem dX9_forget_11 : decode cX9_forget 11 = .ok (.ireturn, 1) := by decide +kernel
abbrev cxX9_forget (G : Rg) (X : Ct) : Prop := Cx G X cX9_forget 2 RX9 (some .int) 0 0 (Cond.code yX9_forget cX9_forget 2 (some .int))
def fX9_forget  (M : Mm) : Option (Int32 × Mm) :=
some ((M.1 0 8), (sI M 0 8 (nI 0)))
set_option maxHeartbeats 4000000 in
set_option maxRecDepth 100000 in
theorem mX9_forget (l : Launch) {G : Rg} (hG : gS G = shM)   {M Mf : Mm} {r : Int32} (hf : fX9_forget  M = some (r, Mf)) : Mt l G yX9_forget cX9_forget 2 (some .int) 0 0 [.ref (gA G 0)] M (some (.int r)) Mf := by
  refine Mt.of (by decide) (Nat.le_of_ble_eq_true rfl) ?_
  intro X C hX
  subst hX
  have C : cxX9_forget G X := C
  show V G X 2 (some (.int r)) Mf 0 [(0, .ref (gA G 0))] [] M
  rw [fX9_forget] at hf
  refine V.aload_n (pc := 0) C 0 rfl dX9_forget_0 ?_
  refine V.getI (pc := 1) C clX9 inX9 (sm_0 hG) 8 (by decide) wF_X9_233 rfl dX9_forget_1 ?_
  refine V.istore_n (pc := 4) (lv' := [(1, .int (M.1 0 8)), (0, .ref (gA G 0))]) C (by decide) rfl dX9_forget_4 ?_
  refine V.aload_n (pc := 5) C 1 rfl dX9_forget_5 ?_
  refine V.iconst (pc := 6) C (nI 0) (by decide) dX9_forget_6 ?_
  refine V.putI (pc := 7) C clX9 inX9 (sm_0 hG) 8 (by decide) wF_X9_233 tyX9 tyX9_ok nmX9 rfl (tyX9_ok 8 (by decide)) rfl dX9_forget_7 ?_
  refine V.iload_n (pc := 10) C 0 rfl dX9_forget_10 ?_
  exact V.retI (pc := 11) C hf dX9_forget_11
theorem dX9_rateIn_0 : decode cX9_rateIn 0 = .ok (.iload_n 1, 1) := by decide +kernel
theorem dX9_rateIn_1 : decode cX9_rateIn 1 = .ok (.ifCond .lt 23, 3) := by decide +kernel
theorem dX9_rateIn_4 : decode cX9_rateIn 4 = .ok (.iload_n 1, 1) := by decide +kernel
theorem dX9_rateIn_5 : decode cX9_rateIn 5 = .ok (.bipush 6, 2) := by decide +kernel
theorem dX9_rateIn_7 : decode cX9_rateIn 7 = .ok (.idiv, 1) := by decide +kernel
theorem dX9_rateIn_8 : decode cX9_rateIn 8 = .ok (.iload_n 2, 1) := by decide +kernel
theorem dX9_rateIn_9 : decode cX9_rateIn 9 = .ok (.if_icmp .ne 15, 3) := by decide +kernel
theorem dX9_rateIn_12 : decode cX9_rateIn 12 = .ok (.aload_n 0, 1) := by decide +kernel
theorem dX9_rateIn_13 : decode cX9_rateIn 13 = .ok (.getfield 16, 3) := by decide +kernel
theorem dX9_rateIn_16 : decode cX9_rateIn 16 = .ok (.iload_n 1, 1) := by decide +kernel
theorem dX9_rateIn_17 : decode cX9_rateIn 17 = .ok (.bipush 6, 2) := by decide +kernel
theorem dX9_rateIn_19 : decode cX9_rateIn 19 = .ok (.irem, 1) := by decide +kernel
theorem dX9_rateIn_20 : decode cX9_rateIn 20 = .ok (.iaload, 1) := by decide +kernel
theorem dX9_rateIn_21 : decode cX9_rateIn 21 = .ok (.goto 8, 3) := by decide +kernel
theorem dX9_rateIn_24 : decode cX9_rateIn 24 = .ok (.aload_n 0, 1) := by decide +kernel
theorem dX9_rateIn_25 : decode cX9_rateIn 25 = .ok (.iload_n 2, 1) := by decide +kernel
theorem dX9_rateIn_26 : decode cX9_rateIn 26 = .ok (.invokevirtual 131, 3) := by decide +kernel
theorem dX9_rateIn_29 : decode cX9_rateIn 29 = .ok (.ireturn, 1) := by decide +kernel
abbrev cxX9_rateIn (G : Rg) (X : Ct) : Prop := Cx G X cX9_rateIn 3 RX9 (some .int) 1 21 (Cond.code yX9_rateIn cX9_rateIn 3 (some .int))
def fX9_rateIn_b24   (v2 : Int32) (M : Mm) : Option (Int32 × Mm) :=
bd (fX9_rateOf v2 M) fun r1 M1 =>
some (r1, M1)
set_option maxHeartbeats 4000000 in
set_option maxRecDepth 100000 in
theorem vX9_rateIn_b24 {G : Rg} {X : Ct} {r : Int32} {Mf : Mm}   (C : cxX9_rateIn G X) (hG : gS G = shM)   (v2 : Int32) (M : Mm) (hf : fX9_rateIn_b24 v2 M = some (r, Mf)) : V G X 3 (some (.int r)) Mf 24 [(0, .ref (gA G 0)), (2, .int v2)] [] M := by
  rw [fX9_rateIn_b24] at hf
  refine V.aload_n (pc := 24) C 0 rfl dX9_rateIn_24 ?_
  refine V.iload_n (pc := 25) C 1 rfl dX9_rateIn_25 ?_
  obtain ⟨r1, M1, h1, hf⟩ := bd_some hf
  refine V.callVi (pc := 26) (As := [.int v2]) (rest := []) C (mX9_rateOf X.2.1 hG  h1) mf_X9_rateOf clX9 (sm_0 hG) wM_X9_131 rfl rfl ⟨by decide, by decide⟩ (Nat.le_of_ble_eq_true rfl) dX9_rateIn_26 ?_
  exact V.retI (pc := 29) C hf dX9_rateIn_29
def fX9_rateIn (x1 : Int32) (x2 : Int32) (M : Mm) : Option (Int32 × Mm) :=
if x1 < (nI 0) then
(fX9_rateIn_b24 x2 M)
else
(if (x1 / (nI 6)) = x2 then
(gd (inb (jrem x1 (nI 6)) 6) (
some ((M.1 3 (jrem x1 (nI 6)).toNatClampNeg), M)))
else
(fX9_rateIn_b24 x2 M))
set_option maxHeartbeats 4000000 in
set_option maxRecDepth 100000 in
theorem mX9_rateIn (l : Launch) {G : Rg} (hG : gS G = shM) {x1 : Int32} {x2 : Int32}  {M Mf : Mm} {r : Int32} (hf : fX9_rateIn x1 x2 M = some (r, Mf)) : Mt l G yX9_rateIn cX9_rateIn 3 (some .int) 1 21 [.ref (gA G 0), .int x1, .int x2] M (some (.int r)) Mf := by
  refine Mt.of (by decide) (Nat.le_of_ble_eq_true rfl) ?_
  intro X C hX
  subst hX
  have C : cxX9_rateIn G X := C
  show V G X 3 (some (.int r)) Mf 0 [(0, .ref (gA G 0)), (1, .int x1), (2, .int x2)] [] M
  rw [fX9_rateIn] at hf
  refine V.iload_n (pc := 0) C 1 rfl dX9_rateIn_0 ?_
  rcases it_some hf with ⟨h1, hf⟩ | ⟨h1, hf⟩
  · refine V.if_ltT (pc := 1) C 24 h1 (by decide) dX9_rateIn_1 ?_
    refine V.sub C [0, 2] (lv' := [(0, .ref (gA G 0)), (2, .int x2)]) rfl ?_
    exact vX9_rateIn_b24 C hG    _ _ hf
  · refine V.if_ltF (pc := 1) C 24 h1 (by decide) dX9_rateIn_1 ?_
    refine V.iload_n (pc := 4) C 1 rfl dX9_rateIn_4 ?_
    refine V.bipush (pc := 5) C (nI 6) (by decide) dX9_rateIn_5 ?_
    refine V.idiv (pc := 7) C (by decide) dX9_rateIn_7 ?_
    refine V.iload_n (pc := 8) C 2 rfl dX9_rateIn_8 ?_
    rcases it_some hf with ⟨h2, hf⟩ | ⟨h2, hf⟩
    · refine V.ic_neF (pc := 9) C 24 h2 (by decide) dX9_rateIn_9 ?_
      refine V.aload_n (pc := 12) C 0 rfl dX9_rateIn_12 ?_
      refine V.getR (pc := 13) C clX9 inX9 (sm_0 hG) 4 (by decide) wF_X9_16 rfl dX9_rateIn_13 ?_
      refine V.iload_n (pc := 16) C 1 rfl dX9_rateIn_16 ?_
      refine V.bipush (pc := 17) C (nI 6) (by decide) dX9_rateIn_17 ?_
      refine V.irem (pc := 19) C (by decide) dX9_rateIn_19 ?_
      obtain ⟨g3, hf⟩ := gd_some hf
      refine V.iald (pc := 20) C (sm_3 hG) (inb_in g3) dX9_rateIn_20 ?_
      refine V.goto (pc := 21) C 29 (by decide) dX9_rateIn_21 ?_
      exact V.retI (pc := 29) C hf dX9_rateIn_29
    · refine V.ic_neT (pc := 9) C 24 h2 (by decide) dX9_rateIn_9 ?_
      refine V.sub C [0, 2] (lv' := [(0, .ref (gA G 0)), (2, .int x2)]) rfl ?_
      exact vX9_rateIn_b24 C hG    _ _ hf
theorem dX9_isEvenIn_0 : decode cX9_isEvenIn 0 = .ok (.iload_n 2, 1) := by decide +kernel
theorem dX9_isEvenIn_1 : decode cX9_isEvenIn 1 = .ok (.iload_n 3, 1) := by decide +kernel
theorem dX9_isEvenIn_2 : decode cX9_isEvenIn 2 = .ok (.bipush 6, 2) := by decide +kernel
theorem dX9_isEvenIn_4 : decode cX9_isEvenIn 4 = .ok (.ishl, 1) := by decide +kernel
theorem dX9_isEvenIn_5 : decode cX9_isEvenIn 5 = .ok (.ior, 1) := by decide +kernel
theorem dX9_isEvenIn_6 : decode cX9_isEvenIn 6 = .ok (.aload_n 0, 1) := by decide +kernel
theorem dX9_isEvenIn_7 : decode cX9_isEvenIn 7 = .ok (.getfield 73, 3) := by decide +kernel
theorem dX9_isEvenIn_10 : decode cX9_isEvenIn 10 = .ok (.iand, 1) := by decide +kernel
theorem dX9_isEvenIn_11 : decode cX9_isEvenIn 11 = .ok (.istore 4, 2) := by decide +kernel
theorem dX9_isEvenIn_13 : decode cX9_isEvenIn 13 = .ok (.iconst 0, 1) := by decide +kernel
theorem dX9_isEvenIn_14 : decode cX9_isEvenIn 14 = .ok (.istore 5, 2) := by decide +kernel
theorem dX9_isEvenIn_16 : decode cX9_isEvenIn 16 = .ok (.iconst 0, 1) := by decide +kernel
theorem dX9_isEvenIn_17 : decode cX9_isEvenIn 17 = .ok (.istore 6, 2) := by decide +kernel
theorem dX9_isEvenIn_19 : decode cX9_isEvenIn 19 = .ok (.iload 6, 2) := by decide +kernel
theorem dX9_isEvenIn_21 : decode cX9_isEvenIn 21 = .ok (.bipush 12, 2) := by decide +kernel
theorem dX9_isEvenIn_23 : decode cX9_isEvenIn 23 = .ok (.if_icmp .ge 58, 3) := by decide +kernel
theorem dX9_isEvenIn_26 : decode cX9_isEvenIn 26 = .ok (.iload 6, 2) := by decide +kernel
theorem dX9_isEvenIn_28 : decode cX9_isEvenIn 28 = .ok (.bipush 6, 2) := by decide +kernel
theorem dX9_isEvenIn_30 : decode cX9_isEvenIn 30 = .ok (.if_icmp .ge 13, 3) := by decide +kernel
theorem dX9_isEvenIn_33 : decode cX9_isEvenIn 33 = .ok (.aload_n 0, 1) := by decide +kernel
theorem dX9_isEvenIn_34 : decode cX9_isEvenIn 34 = .ok (.iload_n 1, 1) := by decide +kernel
theorem dX9_isEvenIn_35 : decode cX9_isEvenIn 35 = .ok (.iload 6, 2) := by decide +kernel
theorem dX9_isEvenIn_37 : decode cX9_isEvenIn 37 = .ok (.invokevirtual 236, 3) := by decide +kernel
theorem dX9_isEvenIn_40 : decode cX9_isEvenIn 40 = .ok (.goto 11, 3) := by decide +kernel
theorem dX9_isEvenIn_43 : decode cX9_isEvenIn 43 = .ok (.aload_n 0, 1) := by decide +kernel
theorem dX9_isEvenIn_44 : decode cX9_isEvenIn 44 = .ok (.iload_n 1, 1) := by decide +kernel
theorem dX9_isEvenIn_45 : decode cX9_isEvenIn 45 = .ok (.iload 6, 2) := by decide +kernel
theorem dX9_isEvenIn_47 : decode cX9_isEvenIn 47 = .ok (.invokevirtual 236, 3) := by decide +kernel
theorem dX9_isEvenIn_50 : decode cX9_isEvenIn 50 = .ok (.ineg, 1) := by decide +kernel
theorem dX9_isEvenIn_51 : decode cX9_isEvenIn 51 = .ok (.istore 7, 2) := by decide +kernel
theorem dX9_isEvenIn_53 : decode cX9_isEvenIn 53 = .ok (.iload 5, 2) := by decide +kernel
theorem dX9_isEvenIn_55 : decode cX9_isEvenIn 55 = .ok (.iload 4, 2) := by decide +kernel
theorem dX9_isEvenIn_57 : decode cX9_isEvenIn 57 = .ok (.iload 6, 2) := by decide +kernel
theorem dX9_isEvenIn_59 : decode cX9_isEvenIn 59 = .ok (.ishr, 1) := by decide +kernel
theorem dX9_isEvenIn_60 : decode cX9_isEvenIn 60 = .ok (.iconst 1, 1) := by decide +kernel
theorem dX9_isEvenIn_61 : decode cX9_isEvenIn 61 = .ok (.iand, 1) := by decide +kernel
theorem dX9_isEvenIn_62 : decode cX9_isEvenIn 62 = .ok (.iconst 1, 1) := by decide +kernel
theorem dX9_isEvenIn_63 : decode cX9_isEvenIn 63 = .ok (.if_icmp .ne 8, 3) := by decide +kernel
theorem dX9_isEvenIn_66 : decode cX9_isEvenIn 66 = .ok (.iload 7, 2) := by decide +kernel
theorem dX9_isEvenIn_68 : decode cX9_isEvenIn 68 = .ok (.goto 4, 3) := by decide +kernel
theorem dX9_isEvenIn_71 : decode cX9_isEvenIn 71 = .ok (.iconst 0, 1) := by decide +kernel
theorem dX9_isEvenIn_72 : decode cX9_isEvenIn 72 = .ok (.iadd, 1) := by decide +kernel
theorem dX9_isEvenIn_73 : decode cX9_isEvenIn 73 = .ok (.istore 5, 2) := by decide +kernel
theorem dX9_isEvenIn_75 : decode cX9_isEvenIn 75 = .ok (.iinc 6 1, 3) := by decide +kernel
theorem dX9_isEvenIn_78 : decode cX9_isEvenIn 78 = .ok (.goto (-59), 3) := by decide +kernel
theorem dX9_isEvenIn_81 : decode cX9_isEvenIn 81 = .ok (.iload 5, 2) := by decide +kernel
theorem dX9_isEvenIn_83 : decode cX9_isEvenIn 83 = .ok (.ifCond .ne 7, 3) := by decide +kernel
theorem dX9_isEvenIn_86 : decode cX9_isEvenIn 86 = .ok (.iconst 1, 1) := by decide +kernel
theorem dX9_isEvenIn_87 : decode cX9_isEvenIn 87 = .ok (.goto 4, 3) := by decide +kernel
theorem dX9_isEvenIn_90 : decode cX9_isEvenIn 90 = .ok (.iconst 0, 1) := by decide +kernel
theorem dX9_isEvenIn_91 : decode cX9_isEvenIn 91 = .ok (.ireturn, 1) := by decide +kernel
abbrev cxX9_isEvenIn (G : Rg) (X : Ct) : Prop := Cx G X cX9_isEvenIn 8 RX9 (some .boolean) 2 43 (Cond.code yX9_isEvenIn cX9_isEvenIn 8 (some .boolean))
def fX9_isEvenIn_b81   (v5 : Int32) (M : Mm) : Option (Int32 × Mm) :=
if v5 = (nI 0) then
(some ((nI 1), M))
else
(some ((nI 0), M))
set_option maxHeartbeats 4000000 in
set_option maxRecDepth 100000 in
theorem vX9_isEvenIn_b81 {G : Rg} {X : Ct} {r : Int32} {Mf : Mm}   (C : cxX9_isEvenIn G X) (hG : gS G = shM)   (v5 : Int32) (M : Mm) (hf : fX9_isEvenIn_b81 v5 M = some (r, Mf)) : V G X 8 (some (.int r)) Mf 81 [(5, .int v5)] [] M := by
  rw [fX9_isEvenIn_b81] at hf
  refine V.iload (pc := 81) C 0 rfl dX9_isEvenIn_81 ?_
  rcases it_some hf with ⟨h1, hf⟩ | ⟨h1, hf⟩
  · refine V.if_neF (pc := 83) C 90 h1 (by decide) dX9_isEvenIn_83 ?_
    refine V.iconst (pc := 86) C (nI 1) (by decide) dX9_isEvenIn_86 ?_
    refine V.goto (pc := 87) C 91 (by decide) dX9_isEvenIn_87 ?_
    exact V.retZ (pc := 91) C (Or.inr rfl) hf dX9_isEvenIn_91
  · refine V.if_neT (pc := 83) C 90 h1 (by decide) dX9_isEvenIn_83 ?_
    refine V.iconst (pc := 90) C (nI 0) (by decide) dX9_isEvenIn_90 ?_
    exact V.retZ (pc := 91) C (Or.inl rfl) hf dX9_isEvenIn_91
def fX9_isEvenIn_b51 (nx19 : Int32 → Int32 → Int32 → Int32 → Mm → Option (Int32 × Mm))  (v1 : Int32) (v4 : Int32) (v5 : Int32) (v6 : Int32) (s0 : Int32) (M : Mm) : Option (Int32 × Mm) :=
if ((jshr v4 v6) &&& (nI 1)) = (nI 1) then
(nx19 v1 v4 (v5 + s0) (v6 + (nI 1)) M)
else
(nx19 v1 v4 (v5 + (nI 0)) (v6 + (nI 1)) M)
set_option maxHeartbeats 4000000 in
set_option maxRecDepth 100000 in
theorem vX9_isEvenIn_b51 {G : Rg} {X : Ct} {r : Int32} {Mf : Mm}  {nx19 : Int32 → Int32 → Int32 → Int32 → Mm → Option (Int32 × Mm)} (C : cxX9_isEvenIn G X) (hG : gS G = shM)  (hx19 : ∀ (v1 : Int32) (v4 : Int32) (v5 : Int32) (v6 : Int32) (M : Mm), nx19 v1 v4 v5 v6 M = some (r, Mf) → V G X 8 (some (.int r)) Mf 19 [(0, .ref (gA G 0)), (1, .int v1), (4, .int v4), (5, .int v5), (6, .int v6)] [] M) (v1 : Int32) (v4 : Int32) (v5 : Int32) (v6 : Int32) (s0 : Int32) (M : Mm) (hf : fX9_isEvenIn_b51 nx19 v1 v4 v5 v6 s0 M = some (r, Mf)) : V G X 8 (some (.int r)) Mf 51 [(0, .ref (gA G 0)), (1, .int v1), (4, .int v4), (5, .int v5), (6, .int v6)] [.int s0] M := by
  rw [fX9_isEvenIn_b51] at hf
  refine V.istore (pc := 51) (lv' := [(7, .int s0), (0, .ref (gA G 0)), (1, .int v1), (4, .int v4), (5, .int v5), (6, .int v6)]) C (by decide) rfl dX9_isEvenIn_51 ?_
  refine V.iload (pc := 53) C 4 rfl dX9_isEvenIn_53 ?_
  refine V.iload (pc := 55) C 3 rfl dX9_isEvenIn_55 ?_
  refine V.iload (pc := 57) C 5 rfl dX9_isEvenIn_57 ?_
  refine V.ishr (pc := 59) C dX9_isEvenIn_59 ?_
  refine V.iconst (pc := 60) C (nI 1) (by decide) dX9_isEvenIn_60 ?_
  refine V.iand (pc := 61) C dX9_isEvenIn_61 ?_
  refine V.iconst (pc := 62) C (nI 1) (by decide) dX9_isEvenIn_62 ?_
  rcases it_some hf with ⟨h1, hf⟩ | ⟨h1, hf⟩
  · refine V.ic_neF (pc := 63) C 71 h1 (by decide) dX9_isEvenIn_63 ?_
    refine V.iload (pc := 66) C 0 rfl dX9_isEvenIn_66 ?_
    refine V.goto (pc := 68) C 72 (by decide) dX9_isEvenIn_68 ?_
    refine V.iadd (pc := 72) C dX9_isEvenIn_72 ?_
    refine V.istore (pc := 73) (lv' := [(5, .int (v5 + s0)), (7, .int s0), (0, .ref (gA G 0)), (1, .int v1), (4, .int v4), (6, .int v6)]) C (by decide) rfl dX9_isEvenIn_73 ?_
    refine V.iinc (pc := 75) (lv' := [(6, .int (v6 + (nI 1))), (5, .int (v5 + s0)), (7, .int s0), (0, .ref (gA G 0)), (1, .int v1), (4, .int v4)]) C (v6 + (nI 1)) 5 rfl rfl (by decide) rfl dX9_isEvenIn_75 ?_
    refine V.goto (pc := 78) C 19 (by decide) dX9_isEvenIn_78 ?_
    refine V.sub C [3, 4, 5, 1, 0] (lv' := [(0, .ref (gA G 0)), (1, .int v1), (4, .int v4), (5, .int (v5 + s0)), (6, .int (v6 + (nI 1)))]) rfl ?_
    exact hx19 _ _ _ _ _ hf
  · refine V.ic_neT (pc := 63) C 71 h1 (by decide) dX9_isEvenIn_63 ?_
    refine V.iconst (pc := 71) C (nI 0) (by decide) dX9_isEvenIn_71 ?_
    refine V.iadd (pc := 72) C dX9_isEvenIn_72 ?_
    refine V.istore (pc := 73) (lv' := [(5, .int (v5 + (nI 0))), (7, .int s0), (0, .ref (gA G 0)), (1, .int v1), (4, .int v4), (6, .int v6)]) C (by decide) rfl dX9_isEvenIn_73 ?_
    refine V.iinc (pc := 75) (lv' := [(6, .int (v6 + (nI 1))), (5, .int (v5 + (nI 0))), (7, .int s0), (0, .ref (gA G 0)), (1, .int v1), (4, .int v4)]) C (v6 + (nI 1)) 5 rfl rfl (by decide) rfl dX9_isEvenIn_75 ?_
    refine V.goto (pc := 78) C 19 (by decide) dX9_isEvenIn_78 ?_
    refine V.sub C [3, 4, 5, 1, 0] (lv' := [(0, .ref (gA G 0)), (1, .int v1), (4, .int v4), (5, .int (v5 + (nI 0))), (6, .int (v6 + (nI 1)))]) rfl ?_
    exact hx19 _ _ _ _ _ hf
def fX9_isEvenIn_b19   : Nat → Int32 → Int32 → Int32 → Int32 → Mm → Option (Int32 × Mm)
  | 0, _, _, _, _, _ => none
  | n + 1, v1, v4, v5, v6, M =>
    if (nI 12) ≤ v6 then
    (fX9_isEvenIn_b81 v5 M)
    else
    (if (nI 6) ≤ v6 then
    (bd (fX9_rateIn v1 v6 M) fun r3 M3 =>
    fX9_isEvenIn_b51 (fX9_isEvenIn_b19  n) v1 v4 v5 v6 (-r3) M3)
    else
    (bd (fX9_rateIn v1 v6 M) fun r4 M4 =>
    fX9_isEvenIn_b51 (fX9_isEvenIn_b19  n) v1 v4 v5 v6 r4 M4))
set_option maxHeartbeats 4000000 in
set_option maxRecDepth 100000 in
theorem vX9_isEvenIn_b19 {G : Rg} {X : Ct} {r : Int32} {Mf : Mm}   (C : cxX9_isEvenIn G X) (hG : gS G = shM)   : ∀ (n : Nat) (v1 : Int32) (v4 : Int32) (v5 : Int32) (v6 : Int32) (M : Mm), fX9_isEvenIn_b19 n v1 v4 v5 v6 M = some (r, Mf) → V G X 8 (some (.int r)) Mf 19 [(0, .ref (gA G 0)), (1, .int v1), (4, .int v4), (5, .int v5), (6, .int v6)] [] M := by
  intro n
  induction n with
  | zero => intro v1 v4 v5 v6 M hf; rw [fX9_isEvenIn_b19] at hf; cases hf
  | succ n ih =>
    intro v1 v4 v5 v6 M hf
    rw [fX9_isEvenIn_b19] at hf
    refine V.iload (pc := 19) C 4 rfl dX9_isEvenIn_19 ?_
    refine V.bipush (pc := 21) C (nI 12) (by decide) dX9_isEvenIn_21 ?_
    rcases it_some hf with ⟨h1, hf⟩ | ⟨h1, hf⟩
    · refine V.ic_geT (pc := 23) C 81 h1 (by decide) dX9_isEvenIn_23 ?_
      refine V.sub C [3] (lv' := [(5, .int v5)]) rfl ?_
      exact vX9_isEvenIn_b81 C hG    _ _ hf
    · refine V.ic_geF (pc := 23) C 81 h1 (by decide) dX9_isEvenIn_23 ?_
      refine V.iload (pc := 26) C 4 rfl dX9_isEvenIn_26 ?_
      refine V.bipush (pc := 28) C (nI 6) (by decide) dX9_isEvenIn_28 ?_
      rcases it_some hf with ⟨h2, hf⟩ | ⟨h2, hf⟩
      · refine V.ic_geT (pc := 30) C 43 h2 (by decide) dX9_isEvenIn_30 ?_
        refine V.aload_n (pc := 43) C 0 rfl dX9_isEvenIn_43 ?_
        refine V.iload_n (pc := 44) C 1 rfl dX9_isEvenIn_44 ?_
        refine V.iload (pc := 45) C 4 rfl dX9_isEvenIn_45 ?_
        obtain ⟨r3, M3, h3, hf⟩ := bd_some hf
        refine V.callVi (pc := 47) (As := [.int v1, .int v6]) (rest := []) C (mX9_rateIn X.2.1 hG  h3) mf_X9_rateIn clX9 (sm_0 hG) wM_X9_236 rfl rfl ⟨by decide, by decide⟩ (Nat.le_of_ble_eq_true rfl) dX9_isEvenIn_47 ?_
        refine V.ineg (pc := 50) C dX9_isEvenIn_50 ?_
        exact vX9_isEvenIn_b51 C hG  ih  _ _ _ _ _ _ hf
      · refine V.ic_geF (pc := 30) C 43 h2 (by decide) dX9_isEvenIn_30 ?_
        refine V.aload_n (pc := 33) C 0 rfl dX9_isEvenIn_33 ?_
        refine V.iload_n (pc := 34) C 1 rfl dX9_isEvenIn_34 ?_
        refine V.iload (pc := 35) C 4 rfl dX9_isEvenIn_35 ?_
        obtain ⟨r4, M4, h4, hf⟩ := bd_some hf
        refine V.callVi (pc := 37) (As := [.int v1, .int v6]) (rest := []) C (mX9_rateIn X.2.1 hG  h4) mf_X9_rateIn clX9 (sm_0 hG) wM_X9_236 rfl rfl ⟨by decide, by decide⟩ (Nat.le_of_ble_eq_true rfl) dX9_isEvenIn_37 ?_
        refine V.goto (pc := 40) C 51 (by decide) dX9_isEvenIn_40 ?_
        exact vX9_isEvenIn_b51 C hG  ih  _ _ _ _ _ _ hf
def fX9_isEvenIn (x1 : Int32) (x2 : Int32) (x3 : Int32) (M : Mm) : Option (Int32 × Mm) :=
fX9_isEvenIn_b19 fu x1 ((x2 ||| (jshl x3 (nI 6))) &&& (M.1 0 0)) (nI 0) (nI 0) M
set_option maxHeartbeats 4000000 in
set_option maxRecDepth 100000 in
theorem mX9_isEvenIn (l : Launch) {G : Rg} (hG : gS G = shM) {x1 : Int32} {x2 : Int32} {x3 : Int32}  {M Mf : Mm} {r : Int32} (hf : fX9_isEvenIn x1 x2 x3 M = some (r, Mf)) : Mt l G yX9_isEvenIn cX9_isEvenIn 8 (some .boolean) 2 43 [.ref (gA G 0), .int x1, .int x2, .int x3] M (some (.int r)) Mf := by
  refine Mt.of (by decide) (Nat.le_of_ble_eq_true rfl) ?_
  intro X C hX
  subst hX
  have C : cxX9_isEvenIn G X := C
  show V G X 8 (some (.int r)) Mf 0 [(0, .ref (gA G 0)), (1, .int x1), (2, .int x2), (3, .int x3)] [] M
  rw [fX9_isEvenIn] at hf
  refine V.iload_n (pc := 0) C 2 rfl dX9_isEvenIn_0 ?_
  refine V.iload_n (pc := 1) C 3 rfl dX9_isEvenIn_1 ?_
  refine V.bipush (pc := 2) C (nI 6) (by decide) dX9_isEvenIn_2 ?_
  refine V.ishl (pc := 4) C dX9_isEvenIn_4 ?_
  refine V.ior (pc := 5) C dX9_isEvenIn_5 ?_
  refine V.aload_n (pc := 6) C 0 rfl dX9_isEvenIn_6 ?_
  refine V.getI (pc := 7) C clX9 inX9 (sm_0 hG) 0 (by decide) wF_X9_73 rfl dX9_isEvenIn_7 ?_
  refine V.iand (pc := 10) C dX9_isEvenIn_10 ?_
  refine V.istore (pc := 11) (lv' := [(4, .int ((x2 ||| (jshl x3 (nI 6))) &&& (M.1 0 0))), (0, .ref (gA G 0)), (1, .int x1), (2, .int x2), (3, .int x3)]) C (by decide) rfl dX9_isEvenIn_11 ?_
  refine V.iconst (pc := 13) C (nI 0) (by decide) dX9_isEvenIn_13 ?_
  refine V.istore (pc := 14) (lv' := [(5, .int (nI 0)), (4, .int ((x2 ||| (jshl x3 (nI 6))) &&& (M.1 0 0))), (0, .ref (gA G 0)), (1, .int x1), (2, .int x2), (3, .int x3)]) C (by decide) rfl dX9_isEvenIn_14 ?_
  refine V.iconst (pc := 16) C (nI 0) (by decide) dX9_isEvenIn_16 ?_
  refine V.istore (pc := 17) (lv' := [(6, .int (nI 0)), (5, .int (nI 0)), (4, .int ((x2 ||| (jshl x3 (nI 6))) &&& (M.1 0 0))), (0, .ref (gA G 0)), (1, .int x1), (2, .int x2), (3, .int x3)]) C (by decide) rfl dX9_isEvenIn_17 ?_
  refine V.sub C [3, 4, 2, 1, 0] (lv' := [(0, .ref (gA G 0)), (1, .int x1), (4, .int ((x2 ||| (jshl x3 (nI 6))) &&& (M.1 0 0))), (5, .int (nI 0)), (6, .int (nI 0))]) rfl ?_
  exact vX9_isEvenIn_b19 C hG   fu _ _ _ _ _ hf
theorem dX9_isWorld_0 : decode cX9_isWorld 0 = .ok (.iload_n 1, 1) := by decide +kernel
theorem dX9_isWorld_1 : decode cX9_isWorld 1 = .ok (.ifCond .lt 30, 3) := by decide +kernel
theorem dX9_isWorld_4 : decode cX9_isWorld 4 = .ok (.aload_n 0, 1) := by decide +kernel
theorem dX9_isWorld_5 : decode cX9_isWorld 5 = .ok (.iload_n 1, 1) := by decide +kernel
theorem dX9_isWorld_6 : decode cX9_isWorld 6 = .ok (.bipush 6, 2) := by decide +kernel
theorem dX9_isWorld_8 : decode cX9_isWorld 8 = .ok (.idiv, 1) := by decide +kernel
theorem dX9_isWorld_9 : decode cX9_isWorld 9 = .ok (.invokevirtual 86, 3) := by decide +kernel
theorem dX9_isWorld_12 : decode cX9_isWorld 12 = .ok (.ifCond .eq 23, 3) := by decide +kernel
theorem dX9_isWorld_15 : decode cX9_isWorld 15 = .ok (.aload_n 0, 1) := by decide +kernel
theorem dX9_isWorld_16 : decode cX9_isWorld 16 = .ok (.getfield 7, 3) := by decide +kernel
theorem dX9_isWorld_19 : decode cX9_isWorld 19 = .ok (.iload_n 1, 1) := by decide +kernel
theorem dX9_isWorld_20 : decode cX9_isWorld 20 = .ok (.bipush 6, 2) := by decide +kernel
theorem dX9_isWorld_22 : decode cX9_isWorld 22 = .ok (.idiv, 1) := by decide +kernel
theorem dX9_isWorld_23 : decode cX9_isWorld 23 = .ok (.iaload, 1) := by decide +kernel
theorem dX9_isWorld_24 : decode cX9_isWorld 24 = .ok (.iload_n 1, 1) := by decide +kernel
theorem dX9_isWorld_25 : decode cX9_isWorld 25 = .ok (.bipush 6, 2) := by decide +kernel
theorem dX9_isWorld_27 : decode cX9_isWorld 27 = .ok (.irem, 1) := by decide +kernel
theorem dX9_isWorld_28 : decode cX9_isWorld 28 = .ok (.if_icmp .eq 7, 3) := by decide +kernel
theorem dX9_isWorld_31 : decode cX9_isWorld 31 = .ok (.iconst 1, 1) := by decide +kernel
theorem dX9_isWorld_32 : decode cX9_isWorld 32 = .ok (.goto 4, 3) := by decide +kernel
theorem dX9_isWorld_35 : decode cX9_isWorld 35 = .ok (.iconst 0, 1) := by decide +kernel
theorem dX9_isWorld_36 : decode cX9_isWorld 36 = .ok (.istore_n 2, 1) := by decide +kernel
theorem dX9_isWorld_37 : decode cX9_isWorld 37 = .ok (.iconst 0, 1) := by decide +kernel
theorem dX9_isWorld_38 : decode cX9_isWorld 38 = .ok (.istore_n 3, 1) := by decide +kernel
theorem dX9_isWorld_39 : decode cX9_isWorld 39 = .ok (.iload_n 3, 1) := by decide +kernel
theorem dX9_isWorld_40 : decode cX9_isWorld 40 = .ok (.aload_n 0, 1) := by decide +kernel
theorem dX9_isWorld_41 : decode cX9_isWorld 41 = .ok (.getfield 233, 3) := by decide +kernel
theorem dX9_isWorld_44 : decode cX9_isWorld 44 = .ok (.if_icmp .ge 54, 3) := by decide +kernel
theorem dX9_isWorld_47 : decode cX9_isWorld 47 = .ok (.iload_n 2, 1) := by decide +kernel
theorem dX9_isWorld_48 : decode cX9_isWorld 48 = .ok (.ifCond .eq 42, 3) := by decide +kernel
theorem dX9_isWorld_51 : decode cX9_isWorld 51 = .ok (.aload_n 0, 1) := by decide +kernel
theorem dX9_isWorld_52 : decode cX9_isWorld 52 = .ok (.iload_n 1, 1) := by decide +kernel
theorem dX9_isWorld_53 : decode cX9_isWorld 53 = .ok (.aload_n 0, 1) := by decide +kernel
theorem dX9_isWorld_54 : decode cX9_isWorld 54 = .ok (.getfield 19, 3) := by decide +kernel
theorem dX9_isWorld_57 : decode cX9_isWorld 57 = .ok (.iload_n 3, 1) := by decide +kernel
theorem dX9_isWorld_58 : decode cX9_isWorld 58 = .ok (.iaload, 1) := by decide +kernel
theorem dX9_isWorld_59 : decode cX9_isWorld 59 = .ok (.aload_n 0, 1) := by decide +kernel
theorem dX9_isWorld_60 : decode cX9_isWorld 60 = .ok (.getfield 22, 3) := by decide +kernel
theorem dX9_isWorld_63 : decode cX9_isWorld 63 = .ok (.iload_n 3, 1) := by decide +kernel
theorem dX9_isWorld_64 : decode cX9_isWorld 64 = .ok (.iaload, 1) := by decide +kernel
theorem dX9_isWorld_65 : decode cX9_isWorld 65 = .ok (.invokevirtual 239, 3) := by decide +kernel
theorem dX9_isWorld_68 : decode cX9_isWorld 68 = .ok (.aload_n 0, 1) := by decide +kernel
theorem dX9_isWorld_69 : decode cX9_isWorld 69 = .ok (.getfield 25, 3) := by decide +kernel
theorem dX9_isWorld_72 : decode cX9_isWorld 72 = .ok (.iload_n 3, 1) := by decide +kernel
theorem dX9_isWorld_73 : decode cX9_isWorld 73 = .ok (.iaload, 1) := by decide +kernel
theorem dX9_isWorld_74 : decode cX9_isWorld 74 = .ok (.iconst 1, 1) := by decide +kernel
theorem dX9_isWorld_75 : decode cX9_isWorld 75 = .ok (.if_icmp .ne 7, 3) := by decide +kernel
theorem dX9_isWorld_78 : decode cX9_isWorld 78 = .ok (.iconst 1, 1) := by decide +kernel
theorem dX9_isWorld_79 : decode cX9_isWorld 79 = .ok (.goto 4, 3) := by decide +kernel
theorem dX9_isWorld_82 : decode cX9_isWorld 82 = .ok (.iconst 0, 1) := by decide +kernel
theorem dX9_isWorld_83 : decode cX9_isWorld 83 = .ok (.if_icmp .ne 7, 3) := by decide +kernel
theorem dX9_isWorld_86 : decode cX9_isWorld 86 = .ok (.iconst 1, 1) := by decide +kernel
theorem dX9_isWorld_87 : decode cX9_isWorld 87 = .ok (.goto 4, 3) := by decide +kernel
theorem dX9_isWorld_90 : decode cX9_isWorld 90 = .ok (.iconst 0, 1) := by decide +kernel
theorem dX9_isWorld_91 : decode cX9_isWorld 91 = .ok (.istore_n 2, 1) := by decide +kernel
theorem dX9_isWorld_92 : decode cX9_isWorld 92 = .ok (.iinc 3 1, 3) := by decide +kernel
theorem dX9_isWorld_95 : decode cX9_isWorld 95 = .ok (.goto (-56), 3) := by decide +kernel
theorem dX9_isWorld_98 : decode cX9_isWorld 98 = .ok (.iload_n 2, 1) := by decide +kernel
theorem dX9_isWorld_99 : decode cX9_isWorld 99 = .ok (.ireturn, 1) := by decide +kernel
abbrev cxX9_isWorld (G : Rg) (X : Ct) : Prop := Cx G X cX9_isWorld 4 RX9 (some .boolean) 3 70 (Cond.code yX9_isWorld cX9_isWorld 4 (some .boolean))
def fX9_isWorld_b83 (nx39 : Int32 → Int32 → Int32 → Mm → Option (Int32 × Mm))  (v1 : Int32) (v3 : Int32) (s0 : Int32) (s1 : Int32) (M : Mm) : Option (Int32 × Mm) :=
if s0 = s1 then
(nx39 v1 (nI 1) (v3 + (nI 1)) M)
else
(nx39 v1 (nI 0) (v3 + (nI 1)) M)
set_option maxHeartbeats 4000000 in
set_option maxRecDepth 100000 in
theorem vX9_isWorld_b83 {G : Rg} {X : Ct} {r : Int32} {Mf : Mm}  {nx39 : Int32 → Int32 → Int32 → Mm → Option (Int32 × Mm)} (C : cxX9_isWorld G X) (hG : gS G = shM)  (hx39 : ∀ (v1 : Int32) (v2 : Int32) (v3 : Int32) (M : Mm), nx39 v1 v2 v3 M = some (r, Mf) → V G X 4 (some (.int r)) Mf 39 [(0, .ref (gA G 0)), (1, .int v1), (2, .int v2), (3, .int v3)] [] M) (v1 : Int32) (v3 : Int32) (s0 : Int32) (s1 : Int32) (M : Mm) (hf : fX9_isWorld_b83 nx39 v1 v3 s0 s1 M = some (r, Mf)) : V G X 4 (some (.int r)) Mf 83 [(0, .ref (gA G 0)), (1, .int v1), (3, .int v3)] [.int s1, .int s0] M := by
  rw [fX9_isWorld_b83] at hf
  rcases it_some hf with ⟨h1, hf⟩ | ⟨h1, hf⟩
  · refine V.ic_neF (pc := 83) C 90 h1 (by decide) dX9_isWorld_83 ?_
    refine V.iconst (pc := 86) C (nI 1) (by decide) dX9_isWorld_86 ?_
    refine V.goto (pc := 87) C 91 (by decide) dX9_isWorld_87 ?_
    refine V.istore_n (pc := 91) (lv' := [(2, .int (nI 1)), (0, .ref (gA G 0)), (1, .int v1), (3, .int v3)]) C (by decide) rfl dX9_isWorld_91 ?_
    refine V.iinc (pc := 92) (lv' := [(3, .int (v3 + (nI 1))), (2, .int (nI 1)), (0, .ref (gA G 0)), (1, .int v1)]) C (v3 + (nI 1)) 3 rfl rfl (by decide) rfl dX9_isWorld_92 ?_
    refine V.goto (pc := 95) C 39 (by decide) dX9_isWorld_95 ?_
    refine V.sub C [2, 3, 1, 0] (lv' := [(0, .ref (gA G 0)), (1, .int v1), (2, .int (nI 1)), (3, .int (v3 + (nI 1)))]) rfl ?_
    exact hx39 _ _ _ _ hf
  · refine V.ic_neT (pc := 83) C 90 h1 (by decide) dX9_isWorld_83 ?_
    refine V.iconst (pc := 90) C (nI 0) (by decide) dX9_isWorld_90 ?_
    refine V.istore_n (pc := 91) (lv' := [(2, .int (nI 0)), (0, .ref (gA G 0)), (1, .int v1), (3, .int v3)]) C (by decide) rfl dX9_isWorld_91 ?_
    refine V.iinc (pc := 92) (lv' := [(3, .int (v3 + (nI 1))), (2, .int (nI 0)), (0, .ref (gA G 0)), (1, .int v1)]) C (v3 + (nI 1)) 3 rfl rfl (by decide) rfl dX9_isWorld_92 ?_
    refine V.goto (pc := 95) C 39 (by decide) dX9_isWorld_95 ?_
    refine V.sub C [2, 3, 1, 0] (lv' := [(0, .ref (gA G 0)), (1, .int v1), (2, .int (nI 0)), (3, .int (v3 + (nI 1)))]) rfl ?_
    exact hx39 _ _ _ _ hf
def fX9_isWorld_b39   : Nat → Int32 → Int32 → Int32 → Mm → Option (Int32 × Mm)
  | 0, _, _, _, _ => none
  | n + 1, v1, v2, v3, M =>
    if (M.1 0 8) ≤ v3 then
    (gd (decide (v2 = nI 0 ∨ v2 = nI 1)) (
    some (v2, M)))
    else
    (if v2 = (nI 0) then
    (fX9_isWorld_b39  n v1 (nI 0) (v3 + (nI 1)) M)
    else
    (gd (inb v3 8) (
    gd (inb v3 8) (
    bd (fX9_isEvenIn v1 (M.1 4 v3.toNatClampNeg) (M.1 5 v3.toNatClampNeg) M) fun r6 M6 =>
    gd (inb v3 8) (
    if (M6.1 6 v3.toNatClampNeg) = (nI 1) then
    (fX9_isWorld_b83 (fX9_isWorld_b39  n) v1 v3 r6 (nI 1) M6)
    else
    (fX9_isWorld_b83 (fX9_isWorld_b39  n) v1 v3 r6 (nI 0) M6))))))
set_option maxHeartbeats 4000000 in
set_option maxRecDepth 100000 in
theorem vX9_isWorld_b39 {G : Rg} {X : Ct} {r : Int32} {Mf : Mm}   (C : cxX9_isWorld G X) (hG : gS G = shM)   : ∀ (n : Nat) (v1 : Int32) (v2 : Int32) (v3 : Int32) (M : Mm), fX9_isWorld_b39 n v1 v2 v3 M = some (r, Mf) → V G X 4 (some (.int r)) Mf 39 [(0, .ref (gA G 0)), (1, .int v1), (2, .int v2), (3, .int v3)] [] M := by
  intro n
  induction n with
  | zero => intro v1 v2 v3 M hf; rw [fX9_isWorld_b39] at hf; cases hf
  | succ n ih =>
    intro v1 v2 v3 M hf
    rw [fX9_isWorld_b39] at hf
    refine V.iload_n (pc := 39) C 3 rfl dX9_isWorld_39 ?_
    refine V.aload_n (pc := 40) C 0 rfl dX9_isWorld_40 ?_
    refine V.getI (pc := 41) C clX9 inX9 (sm_0 hG) 8 (by decide) wF_X9_233 rfl dX9_isWorld_41 ?_
    rcases it_some hf with ⟨h1, hf⟩ | ⟨h1, hf⟩
    · refine V.ic_geT (pc := 44) C 98 h1 (by decide) dX9_isWorld_44 ?_
      refine V.iload_n (pc := 98) C 2 rfl dX9_isWorld_98 ?_
      obtain ⟨g2, hf⟩ := gd_some hf
      exact V.retZ (pc := 99) C (dec_some g2) hf dX9_isWorld_99
    · refine V.ic_geF (pc := 44) C 98 h1 (by decide) dX9_isWorld_44 ?_
      refine V.iload_n (pc := 47) C 2 rfl dX9_isWorld_47 ?_
      rcases it_some hf with ⟨h3, hf⟩ | ⟨h3, hf⟩
      · refine V.if_eqT (pc := 48) C 90 h3 (by decide) dX9_isWorld_48 ?_
        refine V.iconst (pc := 90) C (nI 0) (by decide) dX9_isWorld_90 ?_
        refine V.istore_n (pc := 91) (lv' := [(2, .int (nI 0)), (0, .ref (gA G 0)), (1, .int v1), (3, .int v3)]) C (by decide) rfl dX9_isWorld_91 ?_
        refine V.iinc (pc := 92) (lv' := [(3, .int (v3 + (nI 1))), (2, .int (nI 0)), (0, .ref (gA G 0)), (1, .int v1)]) C (v3 + (nI 1)) 3 rfl rfl (by decide) rfl dX9_isWorld_92 ?_
        refine V.goto (pc := 95) C 39 (by decide) dX9_isWorld_95 ?_
        refine V.sub C [2, 3, 1, 0] (lv' := [(0, .ref (gA G 0)), (1, .int v1), (2, .int (nI 0)), (3, .int (v3 + (nI 1)))]) rfl ?_
        exact ih _ _ _ _ hf
      · refine V.if_eqF (pc := 48) C 90 h3 (by decide) dX9_isWorld_48 ?_
        refine V.aload_n (pc := 51) C 0 rfl dX9_isWorld_51 ?_
        refine V.iload_n (pc := 52) C 1 rfl dX9_isWorld_52 ?_
        refine V.aload_n (pc := 53) C 0 rfl dX9_isWorld_53 ?_
        refine V.getR (pc := 54) C clX9 inX9 (sm_0 hG) 5 (by decide) wF_X9_19 rfl dX9_isWorld_54 ?_
        refine V.iload_n (pc := 57) C 3 rfl dX9_isWorld_57 ?_
        obtain ⟨g4, hf⟩ := gd_some hf
        refine V.iald (pc := 58) C (sm_4 hG) (inb_in g4) dX9_isWorld_58 ?_
        refine V.aload_n (pc := 59) C 0 rfl dX9_isWorld_59 ?_
        refine V.getR (pc := 60) C clX9 inX9 (sm_0 hG) 6 (by decide) wF_X9_22 rfl dX9_isWorld_60 ?_
        refine V.iload_n (pc := 63) C 3 rfl dX9_isWorld_63 ?_
        obtain ⟨g5, hf⟩ := gd_some hf
        refine V.iald (pc := 64) C (sm_5 hG) (inb_in g5) dX9_isWorld_64 ?_
        obtain ⟨r6, M6, h6, hf⟩ := bd_some hf
        refine V.callVi (pc := 65) (As := [.int v1, .int (M.1 4 v3.toNatClampNeg), .int (M.1 5 v3.toNatClampNeg)]) (rest := []) C (mX9_isEvenIn X.2.1 hG  h6) mf_X9_isEvenIn clX9 (sm_0 hG) wM_X9_239 rfl rfl ⟨by decide, by decide⟩ (Nat.le_of_ble_eq_true rfl) dX9_isWorld_65 ?_
        refine V.aload_n (pc := 68) C 0 rfl dX9_isWorld_68 ?_
        refine V.getR (pc := 69) C clX9 inX9 (sm_0 hG) 7 (by decide) wF_X9_25 rfl dX9_isWorld_69 ?_
        refine V.iload_n (pc := 72) C 3 rfl dX9_isWorld_72 ?_
        obtain ⟨g7, hf⟩ := gd_some hf
        refine V.iald (pc := 73) C (sm_6 hG) (inb_in g7) dX9_isWorld_73 ?_
        refine V.iconst (pc := 74) C (nI 1) (by decide) dX9_isWorld_74 ?_
        rcases it_some hf with ⟨h8, hf⟩ | ⟨h8, hf⟩
        · refine V.ic_neF (pc := 75) C 82 h8 (by decide) dX9_isWorld_75 ?_
          refine V.iconst (pc := 78) C (nI 1) (by decide) dX9_isWorld_78 ?_
          refine V.goto (pc := 79) C 83 (by decide) dX9_isWorld_79 ?_
          refine V.sub C [0, 1, 3] (lv' := [(0, .ref (gA G 0)), (1, .int v1), (3, .int v3)]) rfl ?_
          exact vX9_isWorld_b83 C hG  ih  _ _ _ _ _ hf
        · refine V.ic_neT (pc := 75) C 82 h8 (by decide) dX9_isWorld_75 ?_
          refine V.iconst (pc := 82) C (nI 0) (by decide) dX9_isWorld_82 ?_
          refine V.sub C [0, 1, 3] (lv' := [(0, .ref (gA G 0)), (1, .int v1), (3, .int v3)]) rfl ?_
          exact vX9_isWorld_b83 C hG  ih  _ _ _ _ _ hf
def fX9_isWorld (x1 : Int32) (M : Mm) : Option (Int32 × Mm) :=
if x1 < (nI 0) then
(fX9_isWorld_b39 fu x1 (nI 1) (nI 0) M)
else
(bd (fX9_isOfficer (x1 / (nI 6)) M) fun r2 M2 =>
if r2 = (nI 0) then
(fX9_isWorld_b39 fu x1 (nI 0) (nI 0) M2)
else
(gd (inb (x1 / (nI 6)) 12) (
if (M2.1 1 (x1 / (nI 6)).toNatClampNeg) = (jrem x1 (nI 6)) then
(fX9_isWorld_b39 fu x1 (nI 0) (nI 0) M2)
else
(fX9_isWorld_b39 fu x1 (nI 1) (nI 0) M2))))
set_option maxHeartbeats 4000000 in
set_option maxRecDepth 100000 in
theorem mX9_isWorld (l : Launch) {G : Rg} (hG : gS G = shM) {x1 : Int32}  {M Mf : Mm} {r : Int32} (hf : fX9_isWorld x1 M = some (r, Mf)) : Mt l G yX9_isWorld cX9_isWorld 4 (some .boolean) 3 70 [.ref (gA G 0), .int x1] M (some (.int r)) Mf := by
  refine Mt.of (by decide) (Nat.le_of_ble_eq_true rfl) ?_
  intro X C hX
  subst hX
  have C : cxX9_isWorld G X := C
  show V G X 4 (some (.int r)) Mf 0 [(0, .ref (gA G 0)), (1, .int x1)] [] M
  rw [fX9_isWorld] at hf
  refine V.iload_n (pc := 0) C 1 rfl dX9_isWorld_0 ?_
  rcases it_some hf with ⟨h1, hf⟩ | ⟨h1, hf⟩
  · refine V.if_ltT (pc := 1) C 31 h1 (by decide) dX9_isWorld_1 ?_
    refine V.iconst (pc := 31) C (nI 1) (by decide) dX9_isWorld_31 ?_
    refine V.goto (pc := 32) C 36 (by decide) dX9_isWorld_32 ?_
    refine V.istore_n (pc := 36) (lv' := [(2, .int (nI 1)), (0, .ref (gA G 0)), (1, .int x1)]) C (by decide) rfl dX9_isWorld_36 ?_
    refine V.iconst (pc := 37) C (nI 0) (by decide) dX9_isWorld_37 ?_
    refine V.istore_n (pc := 38) (lv' := [(3, .int (nI 0)), (2, .int (nI 1)), (0, .ref (gA G 0)), (1, .int x1)]) C (by decide) rfl dX9_isWorld_38 ?_
    refine V.sub C [2, 3, 1, 0] (lv' := [(0, .ref (gA G 0)), (1, .int x1), (2, .int (nI 1)), (3, .int (nI 0))]) rfl ?_
    exact vX9_isWorld_b39 C hG   fu _ _ _ _ hf
  · refine V.if_ltF (pc := 1) C 31 h1 (by decide) dX9_isWorld_1 ?_
    refine V.aload_n (pc := 4) C 0 rfl dX9_isWorld_4 ?_
    refine V.iload_n (pc := 5) C 1 rfl dX9_isWorld_5 ?_
    refine V.bipush (pc := 6) C (nI 6) (by decide) dX9_isWorld_6 ?_
    refine V.idiv (pc := 8) C (by decide) dX9_isWorld_8 ?_
    obtain ⟨r2, M2, h2, hf⟩ := bd_some hf
    refine V.callVi (pc := 9) (As := [.int (x1 / (nI 6))]) (rest := []) C (mX9_isOfficer X.2.1 hG  h2) mf_X9_isOfficer clX9 (sm_0 hG) wM_X9_86 rfl rfl ⟨by decide, by decide⟩ (Nat.le_of_ble_eq_true rfl) dX9_isWorld_9 ?_
    rcases it_some hf with ⟨h3, hf⟩ | ⟨h3, hf⟩
    · refine V.if_eqT (pc := 12) C 35 h3 (by decide) dX9_isWorld_12 ?_
      refine V.iconst (pc := 35) C (nI 0) (by decide) dX9_isWorld_35 ?_
      refine V.istore_n (pc := 36) (lv' := [(2, .int (nI 0)), (0, .ref (gA G 0)), (1, .int x1)]) C (by decide) rfl dX9_isWorld_36 ?_
      refine V.iconst (pc := 37) C (nI 0) (by decide) dX9_isWorld_37 ?_
      refine V.istore_n (pc := 38) (lv' := [(3, .int (nI 0)), (2, .int (nI 0)), (0, .ref (gA G 0)), (1, .int x1)]) C (by decide) rfl dX9_isWorld_38 ?_
      refine V.sub C [2, 3, 1, 0] (lv' := [(0, .ref (gA G 0)), (1, .int x1), (2, .int (nI 0)), (3, .int (nI 0))]) rfl ?_
      exact vX9_isWorld_b39 C hG   fu _ _ _ _ hf
    · refine V.if_eqF (pc := 12) C 35 h3 (by decide) dX9_isWorld_12 ?_
      refine V.aload_n (pc := 15) C 0 rfl dX9_isWorld_15 ?_
      refine V.getR (pc := 16) C clX9 inX9 (sm_0 hG) 2 (by decide) wF_X9_7 rfl dX9_isWorld_16 ?_
      refine V.iload_n (pc := 19) C 1 rfl dX9_isWorld_19 ?_
      refine V.bipush (pc := 20) C (nI 6) (by decide) dX9_isWorld_20 ?_
      refine V.idiv (pc := 22) C (by decide) dX9_isWorld_22 ?_
      obtain ⟨g4, hf⟩ := gd_some hf
      refine V.iald (pc := 23) C (sm_1 hG) (inb_in g4) dX9_isWorld_23 ?_
      refine V.iload_n (pc := 24) C 1 rfl dX9_isWorld_24 ?_
      refine V.bipush (pc := 25) C (nI 6) (by decide) dX9_isWorld_25 ?_
      refine V.irem (pc := 27) C (by decide) dX9_isWorld_27 ?_
      rcases it_some hf with ⟨h5, hf⟩ | ⟨h5, hf⟩
      · refine V.ic_eqT (pc := 28) C 35 h5 (by decide) dX9_isWorld_28 ?_
        refine V.iconst (pc := 35) C (nI 0) (by decide) dX9_isWorld_35 ?_
        refine V.istore_n (pc := 36) (lv' := [(2, .int (nI 0)), (0, .ref (gA G 0)), (1, .int x1)]) C (by decide) rfl dX9_isWorld_36 ?_
        refine V.iconst (pc := 37) C (nI 0) (by decide) dX9_isWorld_37 ?_
        refine V.istore_n (pc := 38) (lv' := [(3, .int (nI 0)), (2, .int (nI 0)), (0, .ref (gA G 0)), (1, .int x1)]) C (by decide) rfl dX9_isWorld_38 ?_
        refine V.sub C [2, 3, 1, 0] (lv' := [(0, .ref (gA G 0)), (1, .int x1), (2, .int (nI 0)), (3, .int (nI 0))]) rfl ?_
        exact vX9_isWorld_b39 C hG   fu _ _ _ _ hf
      · refine V.ic_eqF (pc := 28) C 35 h5 (by decide) dX9_isWorld_28 ?_
        refine V.iconst (pc := 31) C (nI 1) (by decide) dX9_isWorld_31 ?_
        refine V.goto (pc := 32) C 36 (by decide) dX9_isWorld_32 ?_
        refine V.istore_n (pc := 36) (lv' := [(2, .int (nI 1)), (0, .ref (gA G 0)), (1, .int x1)]) C (by decide) rfl dX9_isWorld_36 ?_
        refine V.iconst (pc := 37) C (nI 0) (by decide) dX9_isWorld_37 ?_
        refine V.istore_n (pc := 38) (lv' := [(3, .int (nI 0)), (2, .int (nI 1)), (0, .ref (gA G 0)), (1, .int x1)]) C (by decide) rfl dX9_isWorld_38 ?_
        refine V.sub C [2, 3, 1, 0] (lv' := [(0, .ref (gA G 0)), (1, .int x1), (2, .int (nI 1)), (3, .int (nI 0))]) rfl ?_
        exact vX9_isWorld_b39 C hG   fu _ _ _ _ hf
theorem dX9_findWorlds_0 : decode cX9_findWorlds 0 = .ok (.aload_n 0, 1) := by decide +kernel
theorem dX9_findWorlds_1 : decode cX9_findWorlds 1 = .ok (.iconst 0, 1) := by decide +kernel
theorem dX9_findWorlds_2 : decode cX9_findWorlds 2 = .ok (.putfield 243, 3) := by decide +kernel
theorem dX9_findWorlds_5 : decode cX9_findWorlds 5 = .ok (.iconst (-1), 1) := by decide +kernel
theorem dX9_findWorlds_6 : decode cX9_findWorlds 6 = .ok (.istore_n 1, 1) := by decide +kernel
theorem dX9_findWorlds_7 : decode cX9_findWorlds 7 = .ok (.iload_n 1, 1) := by decide +kernel
theorem dX9_findWorlds_8 : decode cX9_findWorlds 8 = .ok (.bipush 72, 2) := by decide +kernel
theorem dX9_findWorlds_10 : decode cX9_findWorlds 10 = .ok (.if_icmp .ge 37, 3) := by decide +kernel
theorem dX9_findWorlds_13 : decode cX9_findWorlds 13 = .ok (.aload_n 0, 1) := by decide +kernel
theorem dX9_findWorlds_14 : decode cX9_findWorlds 14 = .ok (.iload_n 1, 1) := by decide +kernel
theorem dX9_findWorlds_15 : decode cX9_findWorlds 15 = .ok (.invokevirtual 246, 3) := by decide +kernel
theorem dX9_findWorlds_18 : decode cX9_findWorlds 18 = .ok (.ifCond .eq 23, 3) := by decide +kernel
theorem dX9_findWorlds_21 : decode cX9_findWorlds 21 = .ok (.aload_n 0, 1) := by decide +kernel
theorem dX9_findWorlds_22 : decode cX9_findWorlds 22 = .ok (.getfield 49, 3) := by decide +kernel
theorem dX9_findWorlds_25 : decode cX9_findWorlds 25 = .ok (.aload_n 0, 1) := by decide +kernel
theorem dX9_findWorlds_26 : decode cX9_findWorlds 26 = .ok (.getfield 243, 3) := by decide +kernel
theorem dX9_findWorlds_29 : decode cX9_findWorlds 29 = .ok (.iload_n 1, 1) := by decide +kernel
theorem dX9_findWorlds_30 : decode cX9_findWorlds 30 = .ok (.iastore, 1) := by decide +kernel
theorem dX9_findWorlds_31 : decode cX9_findWorlds 31 = .ok (.aload_n 0, 1) := by decide +kernel
theorem dX9_findWorlds_32 : decode cX9_findWorlds 32 = .ok (.dup, 1) := by decide +kernel
theorem dX9_findWorlds_33 : decode cX9_findWorlds 33 = .ok (.getfield 243, 3) := by decide +kernel
theorem dX9_findWorlds_36 : decode cX9_findWorlds 36 = .ok (.iconst 1, 1) := by decide +kernel
theorem dX9_findWorlds_37 : decode cX9_findWorlds 37 = .ok (.iadd, 1) := by decide +kernel
theorem dX9_findWorlds_38 : decode cX9_findWorlds 38 = .ok (.putfield 243, 3) := by decide +kernel
theorem dX9_findWorlds_41 : decode cX9_findWorlds 41 = .ok (.iinc 1 1, 3) := by decide +kernel
theorem dX9_findWorlds_44 : decode cX9_findWorlds 44 = .ok (.goto (-37), 3) := by decide +kernel
theorem dX9_findWorlds_47 : decode cX9_findWorlds 47 = .ok (.return_, 1) := by decide +kernel
abbrev cxX9_findWorlds (G : Rg) (X : Ct) : Prop := Cx G X cX9_findWorlds 2 RX9 (none) 4 93 (Cond.code yX9_findWorlds cX9_findWorlds 2 (none))
def fX9_findWorlds_b7   : Nat → Int32 → Mm → Option (Unit × Mm)
  | 0, _, _ => none
  | n + 1, v1, M =>
    if (nI 72) ≤ v1 then
    (some ((), M))
    else
    (bd (fX9_isWorld v1 M) fun r2 M2 =>
    if r2 = (nI 0) then
    (fX9_findWorlds_b7  n (v1 + (nI 1)) M2)
    else
    (gd (inb (M2.1 0 27) 73) (
    fX9_findWorlds_b7  n (v1 + (nI 1)) (sI (sI M2 14 (M2.1 0 27).toNatClampNeg v1) 0 27 (((sI M2 14 (M2.1 0 27).toNatClampNeg v1).1 0 27) + (nI 1))))))
set_option maxHeartbeats 4000000 in
set_option maxRecDepth 100000 in
theorem vX9_findWorlds_b7 {G : Rg} {X : Ct} {r : Unit} {Mf : Mm}   (C : cxX9_findWorlds G X) (hG : gS G = shM)   : ∀ (n : Nat) (v1 : Int32) (M : Mm), fX9_findWorlds_b7 n v1 M = some (r, Mf) → V G X 2 none Mf 7 [(0, .ref (gA G 0)), (1, .int v1)] [] M := by
  intro n
  induction n with
  | zero => intro v1 M hf; rw [fX9_findWorlds_b7] at hf; cases hf
  | succ n ih =>
    intro v1 M hf
    rw [fX9_findWorlds_b7] at hf
    refine V.iload_n (pc := 7) C 1 rfl dX9_findWorlds_7 ?_
    refine V.bipush (pc := 8) C (nI 72) (by decide) dX9_findWorlds_8 ?_
    rcases it_some hf with ⟨h1, hf⟩ | ⟨h1, hf⟩
    · refine V.ic_geT (pc := 10) C 47 h1 (by decide) dX9_findWorlds_10 ?_
      exact V.retV (pc := 47) C hf dX9_findWorlds_47
    · refine V.ic_geF (pc := 10) C 47 h1 (by decide) dX9_findWorlds_10 ?_
      refine V.aload_n (pc := 13) C 0 rfl dX9_findWorlds_13 ?_
      refine V.iload_n (pc := 14) C 1 rfl dX9_findWorlds_14 ?_
      obtain ⟨r2, M2, h2, hf⟩ := bd_some hf
      refine V.callVi (pc := 15) (As := [.int v1]) (rest := []) C (mX9_isWorld X.2.1 hG  h2) mf_X9_isWorld clX9 (sm_0 hG) wM_X9_246 rfl rfl ⟨by decide, by decide⟩ (Nat.le_of_ble_eq_true rfl) dX9_findWorlds_15 ?_
      rcases it_some hf with ⟨h3, hf⟩ | ⟨h3, hf⟩
      · refine V.if_eqT (pc := 18) C 41 h3 (by decide) dX9_findWorlds_18 ?_
        refine V.iinc (pc := 41) (lv' := [(1, .int (v1 + (nI 1))), (0, .ref (gA G 0))]) C (v1 + (nI 1)) 1 rfl rfl (by decide) rfl dX9_findWorlds_41 ?_
        refine V.goto (pc := 44) C 7 (by decide) dX9_findWorlds_44 ?_
        refine V.sub C [1, 0] (lv' := [(0, .ref (gA G 0)), (1, .int (v1 + (nI 1)))]) rfl ?_
        exact ih _ _ hf
      · refine V.if_eqF (pc := 18) C 41 h3 (by decide) dX9_findWorlds_18 ?_
        refine V.aload_n (pc := 21) C 0 rfl dX9_findWorlds_21 ?_
        refine V.getR (pc := 22) C clX9 inX9 (sm_0 hG) 26 (by decide) wF_X9_49 rfl dX9_findWorlds_22 ?_
        refine V.aload_n (pc := 25) C 0 rfl dX9_findWorlds_25 ?_
        refine V.getI (pc := 26) C clX9 inX9 (sm_0 hG) 27 (by decide) wF_X9_243 rfl dX9_findWorlds_26 ?_
        refine V.iload_n (pc := 29) C 1 rfl dX9_findWorlds_29 ?_
        obtain ⟨g4, hf⟩ := gd_some hf
        refine V.iast (pc := 30) C (sm_14 hG) (inb_in g4) dX9_findWorlds_30 ?_
        refine V.aload_n (pc := 31) C 0 rfl dX9_findWorlds_31 ?_
        refine V.dup (pc := 32) C rfl dX9_findWorlds_32 ?_
        refine V.getI (pc := 33) C clX9 inX9 (sm_0 hG) 27 (by decide) wF_X9_243 rfl dX9_findWorlds_33 ?_
        refine V.iconst (pc := 36) C (nI 1) (by decide) dX9_findWorlds_36 ?_
        refine V.iadd (pc := 37) C dX9_findWorlds_37 ?_
        refine V.putI (pc := 38) C clX9 inX9 (sm_0 hG) 27 (by decide) wF_X9_243 tyX9 tyX9_ok nmX9 rfl (tyX9_ok 27 (by decide)) rfl dX9_findWorlds_38 ?_
        refine V.iinc (pc := 41) (lv' := [(1, .int (v1 + (nI 1))), (0, .ref (gA G 0))]) C (v1 + (nI 1)) 1 rfl rfl (by decide) rfl dX9_findWorlds_41 ?_
        refine V.goto (pc := 44) C 7 (by decide) dX9_findWorlds_44 ?_
        refine V.sub C [1, 0] (lv' := [(0, .ref (gA G 0)), (1, .int (v1 + (nI 1)))]) rfl ?_
        exact ih _ _ hf
def fX9_findWorlds  (M : Mm) : Option (Unit × Mm) :=
fX9_findWorlds_b7 fu (mI 1) (sI M 0 27 (nI 0))
set_option maxHeartbeats 4000000 in
set_option maxRecDepth 100000 in
theorem mX9_findWorlds (l : Launch) {G : Rg} (hG : gS G = shM)   {M Mf : Mm} {r : Unit} (hf : fX9_findWorlds  M = some (r, Mf)) : Mt l G yX9_findWorlds cX9_findWorlds 2 (none) 4 93 [.ref (gA G 0)] M none Mf := by
  refine Mt.of (by decide) (Nat.le_of_ble_eq_true rfl) ?_
  intro X C hX
  subst hX
  have C : cxX9_findWorlds G X := C
  show V G X 2 none Mf 0 [(0, .ref (gA G 0))] [] M
  rw [fX9_findWorlds] at hf
  refine V.aload_n (pc := 0) C 0 rfl dX9_findWorlds_0 ?_
  refine V.iconst (pc := 1) C (nI 0) (by decide) dX9_findWorlds_1 ?_
  refine V.putI (pc := 2) C clX9 inX9 (sm_0 hG) 27 (by decide) wF_X9_243 tyX9 tyX9_ok nmX9 rfl (tyX9_ok 27 (by decide)) rfl dX9_findWorlds_2 ?_
  refine V.iconst (pc := 5) C (mI 1) (by decide) dX9_findWorlds_5 ?_
  refine V.istore_n (pc := 6) (lv' := [(1, .int (mI 1)), (0, .ref (gA G 0))]) C (by decide) rfl dX9_findWorlds_6 ?_
  refine V.sub C [1, 0] (lv' := [(0, .ref (gA G 0)), (1, .int (mI 1))]) rfl ?_
  exact vX9_findWorlds_b7 C hG   fu _ _ hf
theorem dX9_forged_0 : decode cX9_forged 0 = .ok (.iload_n 1, 1) := by decide +kernel
theorem dX9_forged_1 : decode cX9_forged 1 = .ok (.i2l, 1) := by decide +kernel
theorem dX9_forged_2 : decode cX9_forged 2 = .ok (.lconst 0, 1) := by decide +kernel
theorem dX9_forged_3 : decode cX9_forged 3 = .ok (.lconst 1, 1) := by decide +kernel
theorem dX9_forged_4 : decode cX9_forged 4 = .ok (.invokestatic 69, 3) := by decide +kernel
theorem dX9_forged_7 : decode cX9_forged 7 = .ok (.ifCond .ne 6, 3) := by decide +kernel
theorem dX9_forged_10 : decode cX9_forged 10 = .ok (.bipush (-2), 2) := by decide +kernel
theorem dX9_forged_12 : decode cX9_forged 12 = .ok (.ireturn, 1) := by decide +kernel
theorem dX9_forged_13 : decode cX9_forged 13 = .ok (.aload_n 0, 1) := by decide +kernel
theorem dX9_forged_14 : decode cX9_forged 14 = .ok (.invokevirtual 249, 3) := by decide +kernel
theorem dX9_forged_17 : decode cX9_forged 17 = .ok (.iconst 0, 1) := by decide +kernel
theorem dX9_forged_18 : decode cX9_forged 18 = .ok (.istore_n 2, 1) := by decide +kernel
theorem dX9_forged_19 : decode cX9_forged 19 = .ok (.iconst 0, 1) := by decide +kernel
theorem dX9_forged_20 : decode cX9_forged 20 = .ok (.istore_n 3, 1) := by decide +kernel
theorem dX9_forged_21 : decode cX9_forged 21 = .ok (.iload_n 3, 1) := by decide +kernel
theorem dX9_forged_22 : decode cX9_forged 22 = .ok (.aload_n 0, 1) := by decide +kernel
theorem dX9_forged_23 : decode cX9_forged 23 = .ok (.getfield 243, 3) := by decide +kernel
theorem dX9_forged_26 : decode cX9_forged 26 = .ok (.if_icmp .ge 36, 3) := by decide +kernel
theorem dX9_forged_29 : decode cX9_forged 29 = .ok (.iload_n 2, 1) := by decide +kernel
theorem dX9_forged_30 : decode cX9_forged 30 = .ok (.aload_n 0, 1) := by decide +kernel
theorem dX9_forged_31 : decode cX9_forged 31 = .ok (.getfield 49, 3) := by decide +kernel
theorem dX9_forged_34 : decode cX9_forged 34 = .ok (.iload_n 3, 1) := by decide +kernel
theorem dX9_forged_35 : decode cX9_forged 35 = .ok (.iaload, 1) := by decide +kernel
theorem dX9_forged_36 : decode cX9_forged 36 = .ok (.ifCond .ge 7, 3) := by decide +kernel
theorem dX9_forged_39 : decode cX9_forged 39 = .ok (.iconst 0, 1) := by decide +kernel
theorem dX9_forged_40 : decode cX9_forged 40 = .ok (.goto 14, 3) := by decide +kernel
theorem dX9_forged_43 : decode cX9_forged 43 = .ok (.iconst 1, 1) := by decide +kernel
theorem dX9_forged_44 : decode cX9_forged 44 = .ok (.aload_n 0, 1) := by decide +kernel
theorem dX9_forged_45 : decode cX9_forged 45 = .ok (.getfield 49, 3) := by decide +kernel
theorem dX9_forged_48 : decode cX9_forged 48 = .ok (.iload_n 3, 1) := by decide +kernel
theorem dX9_forged_49 : decode cX9_forged 49 = .ok (.iaload, 1) := by decide +kernel
theorem dX9_forged_50 : decode cX9_forged 50 = .ok (.bipush 6, 2) := by decide +kernel
theorem dX9_forged_52 : decode cX9_forged 52 = .ok (.idiv, 1) := by decide +kernel
theorem dX9_forged_53 : decode cX9_forged 53 = .ok (.ishl, 1) := by decide +kernel
theorem dX9_forged_54 : decode cX9_forged 54 = .ok (.ior, 1) := by decide +kernel
theorem dX9_forged_55 : decode cX9_forged 55 = .ok (.istore_n 2, 1) := by decide +kernel
theorem dX9_forged_56 : decode cX9_forged 56 = .ok (.iinc 3 1, 3) := by decide +kernel
theorem dX9_forged_59 : decode cX9_forged 59 = .ok (.goto (-38), 3) := by decide +kernel
theorem dX9_forged_62 : decode cX9_forged 62 = .ok (.iload_n 1, 1) := by decide +kernel
theorem dX9_forged_63 : decode cX9_forged 63 = .ok (.ifCond .ne 10, 3) := by decide +kernel
theorem dX9_forged_66 : decode cX9_forged 66 = .ok (.aload_n 0, 1) := by decide +kernel
theorem dX9_forged_67 : decode cX9_forged 67 = .ok (.getfield 243, 3) := by decide +kernel
theorem dX9_forged_70 : decode cX9_forged 70 = .ok (.goto 4, 3) := by decide +kernel
theorem dX9_forged_73 : decode cX9_forged 73 = .ok (.iload_n 2, 1) := by decide +kernel
theorem dX9_forged_74 : decode cX9_forged 74 = .ok (.ireturn, 1) := by decide +kernel
abbrev cxX9_forged (G : Rg) (X : Ct) : Prop := Cx G X cX9_forged 4 RX9 (some .int) 5 114 (Cond.code yX9_forged cX9_forged 4 (some .int))
def fX9_forged_b62   (v1 : Int32) (v2 : Int32) (M : Mm) : Option (Int32 × Mm) :=
if v1 = (nI 0) then
(some ((M.1 0 27), M))
else
(some (v2, M))
set_option maxHeartbeats 4000000 in
set_option maxRecDepth 100000 in
theorem vX9_forged_b62 {G : Rg} {X : Ct} {r : Int32} {Mf : Mm}   (C : cxX9_forged G X) (hG : gS G = shM)   (v1 : Int32) (v2 : Int32) (M : Mm) (hf : fX9_forged_b62 v1 v2 M = some (r, Mf)) : V G X 4 (some (.int r)) Mf 62 [(0, .ref (gA G 0)), (1, .int v1), (2, .int v2)] [] M := by
  rw [fX9_forged_b62] at hf
  refine V.iload_n (pc := 62) C 1 rfl dX9_forged_62 ?_
  rcases it_some hf with ⟨h1, hf⟩ | ⟨h1, hf⟩
  · refine V.if_neF (pc := 63) C 73 h1 (by decide) dX9_forged_63 ?_
    refine V.aload_n (pc := 66) C 0 rfl dX9_forged_66 ?_
    refine V.getI (pc := 67) C clX9 inX9 (sm_0 hG) 27 (by decide) wF_X9_243 rfl dX9_forged_67 ?_
    refine V.goto (pc := 70) C 74 (by decide) dX9_forged_70 ?_
    exact V.retI (pc := 74) C hf dX9_forged_74
  · refine V.if_neT (pc := 63) C 73 h1 (by decide) dX9_forged_63 ?_
    refine V.iload_n (pc := 73) C 2 rfl dX9_forged_73 ?_
    exact V.retI (pc := 74) C hf dX9_forged_74
def fX9_forged_b21   : Nat → Int32 → Int32 → Int32 → Mm → Option (Int32 × Mm)
  | 0, _, _, _, _ => none
  | n + 1, v1, v2, v3, M =>
    if (M.1 0 27) ≤ v3 then
    (fX9_forged_b62 v1 v2 M)
    else
    (gd (inb v3 73) (
    if (nI 0) ≤ (M.1 14 v3.toNatClampNeg) then
    (gd (inb v3 73) (
    fX9_forged_b21  n v1 (v2 ||| (jshl (nI 1) ((M.1 14 v3.toNatClampNeg) / (nI 6)))) (v3 + (nI 1)) M))
    else
    (fX9_forged_b21  n v1 (v2 ||| (nI 0)) (v3 + (nI 1)) M)))
set_option maxHeartbeats 4000000 in
set_option maxRecDepth 100000 in
theorem vX9_forged_b21 {G : Rg} {X : Ct} {r : Int32} {Mf : Mm}   (C : cxX9_forged G X) (hG : gS G = shM)   : ∀ (n : Nat) (v1 : Int32) (v2 : Int32) (v3 : Int32) (M : Mm), fX9_forged_b21 n v1 v2 v3 M = some (r, Mf) → V G X 4 (some (.int r)) Mf 21 [(0, .ref (gA G 0)), (1, .int v1), (2, .int v2), (3, .int v3)] [] M := by
  intro n
  induction n with
  | zero => intro v1 v2 v3 M hf; rw [fX9_forged_b21] at hf; cases hf
  | succ n ih =>
    intro v1 v2 v3 M hf
    rw [fX9_forged_b21] at hf
    refine V.iload_n (pc := 21) C 3 rfl dX9_forged_21 ?_
    refine V.aload_n (pc := 22) C 0 rfl dX9_forged_22 ?_
    refine V.getI (pc := 23) C clX9 inX9 (sm_0 hG) 27 (by decide) wF_X9_243 rfl dX9_forged_23 ?_
    rcases it_some hf with ⟨h1, hf⟩ | ⟨h1, hf⟩
    · refine V.ic_geT (pc := 26) C 62 h1 (by decide) dX9_forged_26 ?_
      refine V.sub C [0, 1, 2] (lv' := [(0, .ref (gA G 0)), (1, .int v1), (2, .int v2)]) rfl ?_
      exact vX9_forged_b62 C hG    _ _ _ hf
    · refine V.ic_geF (pc := 26) C 62 h1 (by decide) dX9_forged_26 ?_
      refine V.iload_n (pc := 29) C 2 rfl dX9_forged_29 ?_
      refine V.aload_n (pc := 30) C 0 rfl dX9_forged_30 ?_
      refine V.getR (pc := 31) C clX9 inX9 (sm_0 hG) 26 (by decide) wF_X9_49 rfl dX9_forged_31 ?_
      refine V.iload_n (pc := 34) C 3 rfl dX9_forged_34 ?_
      obtain ⟨g2, hf⟩ := gd_some hf
      refine V.iald (pc := 35) C (sm_14 hG) (inb_in g2) dX9_forged_35 ?_
      rcases it_some hf with ⟨h3, hf⟩ | ⟨h3, hf⟩
      · refine V.if_geT (pc := 36) C 43 h3 (by decide) dX9_forged_36 ?_
        refine V.iconst (pc := 43) C (nI 1) (by decide) dX9_forged_43 ?_
        refine V.aload_n (pc := 44) C 0 rfl dX9_forged_44 ?_
        refine V.getR (pc := 45) C clX9 inX9 (sm_0 hG) 26 (by decide) wF_X9_49 rfl dX9_forged_45 ?_
        refine V.iload_n (pc := 48) C 3 rfl dX9_forged_48 ?_
        obtain ⟨g4, hf⟩ := gd_some hf
        refine V.iald (pc := 49) C (sm_14 hG) (inb_in g4) dX9_forged_49 ?_
        refine V.bipush (pc := 50) C (nI 6) (by decide) dX9_forged_50 ?_
        refine V.idiv (pc := 52) C (by decide) dX9_forged_52 ?_
        refine V.ishl (pc := 53) C dX9_forged_53 ?_
        refine V.ior (pc := 54) C dX9_forged_54 ?_
        refine V.istore_n (pc := 55) (lv' := [(2, .int (v2 ||| (jshl (nI 1) ((M.1 14 v3.toNatClampNeg) / (nI 6))))), (0, .ref (gA G 0)), (1, .int v1), (3, .int v3)]) C (by decide) rfl dX9_forged_55 ?_
        refine V.iinc (pc := 56) (lv' := [(3, .int (v3 + (nI 1))), (2, .int (v2 ||| (jshl (nI 1) ((M.1 14 v3.toNatClampNeg) / (nI 6))))), (0, .ref (gA G 0)), (1, .int v1)]) C (v3 + (nI 1)) 3 rfl rfl (by decide) rfl dX9_forged_56 ?_
        refine V.goto (pc := 59) C 21 (by decide) dX9_forged_59 ?_
        refine V.sub C [2, 3, 1, 0] (lv' := [(0, .ref (gA G 0)), (1, .int v1), (2, .int (v2 ||| (jshl (nI 1) ((M.1 14 v3.toNatClampNeg) / (nI 6))))), (3, .int (v3 + (nI 1)))]) rfl ?_
        exact ih _ _ _ _ hf
      · refine V.if_geF (pc := 36) C 43 h3 (by decide) dX9_forged_36 ?_
        refine V.iconst (pc := 39) C (nI 0) (by decide) dX9_forged_39 ?_
        refine V.goto (pc := 40) C 54 (by decide) dX9_forged_40 ?_
        refine V.ior (pc := 54) C dX9_forged_54 ?_
        refine V.istore_n (pc := 55) (lv' := [(2, .int (v2 ||| (nI 0))), (0, .ref (gA G 0)), (1, .int v1), (3, .int v3)]) C (by decide) rfl dX9_forged_55 ?_
        refine V.iinc (pc := 56) (lv' := [(3, .int (v3 + (nI 1))), (2, .int (v2 ||| (nI 0))), (0, .ref (gA G 0)), (1, .int v1)]) C (v3 + (nI 1)) 3 rfl rfl (by decide) rfl dX9_forged_56 ?_
        refine V.goto (pc := 59) C 21 (by decide) dX9_forged_59 ?_
        refine V.sub C [2, 3, 1, 0] (lv' := [(0, .ref (gA G 0)), (1, .int v1), (2, .int (v2 ||| (nI 0))), (3, .int (v3 + (nI 1)))]) rfl ?_
        exact ih _ _ _ _ hf
def fX9_forged (x1 : Int32) (M : Mm) : Option (Int32 × Mm) :=
bd (fX9_in x1.toInt64 (lN 0) (lN 1) M) fun r1 M1 =>
if r1 = (nI 0) then
(some ((mI 2), M1))
else
(bd (fX9_findWorlds M1) fun _ M3 =>
fX9_forged_b21 fu x1 (nI 0) (nI 0) M3)
set_option maxHeartbeats 4000000 in
set_option maxRecDepth 100000 in
theorem mX9_forged (l : Launch) {G : Rg} (hG : gS G = shM) {x1 : Int32}  {M Mf : Mm} {r : Int32} (hf : fX9_forged x1 M = some (r, Mf)) : Mt l G yX9_forged cX9_forged 4 (some .int) 5 114 [.ref (gA G 0), .int x1] M (some (.int r)) Mf := by
  refine Mt.of (by decide) (Nat.le_of_ble_eq_true rfl) ?_
  intro X C hX
  subst hX
  have C : cxX9_forged G X := C
  show V G X 4 (some (.int r)) Mf 0 [(0, .ref (gA G 0)), (1, .int x1)] [] M
  rw [fX9_forged] at hf
  refine V.iload_n (pc := 0) C 1 rfl dX9_forged_0 ?_
  refine V.i2l (pc := 1) C dX9_forged_1 ?_
  refine V.lconst (pc := 2) C (lN 0) (by decide) dX9_forged_2 ?_
  refine V.lconst (pc := 3) C (lN 1) (by decide) dX9_forged_3 ?_
  obtain ⟨r1, M1, h1, hf⟩ := bd_some hf
  refine V.callSi (pc := 4) (As := [.long x1.toInt64, .long (lN 0), .long (lN 1)]) (rest := []) C (mX9_in X.2.1 hG  h1) mf_X9_in wM_X9_69 rfl rfl ⟨by decide, by decide⟩ (Nat.le_of_ble_eq_true rfl) dX9_forged_4 ?_
  rcases it_some hf with ⟨h2, hf⟩ | ⟨h2, hf⟩
  · refine V.if_neF (pc := 7) C 13 h2 (by decide) dX9_forged_7 ?_
    refine V.bipush (pc := 10) C (mI 2) (by decide) dX9_forged_10 ?_
    exact V.retI (pc := 12) C hf dX9_forged_12
  · refine V.if_neT (pc := 7) C 13 h2 (by decide) dX9_forged_7 ?_
    refine V.aload_n (pc := 13) C 0 rfl dX9_forged_13 ?_
    obtain ⟨_, M3, h3, hf⟩ := bd_some hf
    refine V.callVv (pc := 14) (As := []) (rest := []) C (mX9_findWorlds X.2.1 hG  h3) mf_X9_findWorlds clX9 (sm_0 hG) wM_X9_249 rfl rfl ⟨by decide, by decide⟩ (Nat.le_of_ble_eq_true rfl) dX9_forged_14 ?_
    refine V.iconst (pc := 17) C (nI 0) (by decide) dX9_forged_17 ?_
    refine V.istore_n (pc := 18) (lv' := [(2, .int (nI 0)), (0, .ref (gA G 0)), (1, .int x1)]) C (by decide) rfl dX9_forged_18 ?_
    refine V.iconst (pc := 19) C (nI 0) (by decide) dX9_forged_19 ?_
    refine V.istore_n (pc := 20) (lv' := [(3, .int (nI 0)), (2, .int (nI 0)), (0, .ref (gA G 0)), (1, .int x1)]) C (by decide) rfl dX9_forged_20 ?_
    refine V.sub C [2, 3, 1, 0] (lv' := [(0, .ref (gA G 0)), (1, .int x1), (2, .int (nI 0)), (3, .int (nI 0))]) rfl ?_
    exact vX9_forged_b21 C hG   fu _ _ _ _ hf
theorem dX9_rank_0 : decode cX9_rank 0 = .ok (.aload_n 0, 1) := by decide +kernel
theorem dX9_rank_1 : decode cX9_rank 1 = .ok (.iload_n 1, 1) := by decide +kernel
theorem dX9_rank_2 : decode cX9_rank 2 = .ok (.invokevirtual 86, 3) := by decide +kernel
theorem dX9_rank_5 : decode cX9_rank 5 = .ok (.ifCond .ne 5, 3) := by decide +kernel
theorem dX9_rank_8 : decode cX9_rank 8 = .ok (.iconst (-1), 1) := by decide +kernel
theorem dX9_rank_9 : decode cX9_rank 9 = .ok (.ireturn, 1) := by decide +kernel
theorem dX9_rank_10 : decode cX9_rank 10 = .ok (.aload_n 0, 1) := by decide +kernel
theorem dX9_rank_11 : decode cX9_rank 11 = .ok (.invokevirtual 249, 3) := by decide +kernel
theorem dX9_rank_14 : decode cX9_rank 14 = .ok (.iconst 0, 1) := by decide +kernel
theorem dX9_rank_15 : decode cX9_rank 15 = .ok (.istore_n 2, 1) := by decide +kernel
theorem dX9_rank_16 : decode cX9_rank 16 = .ok (.iload_n 2, 1) := by decide +kernel
theorem dX9_rank_17 : decode cX9_rank 17 = .ok (.aload_n 0, 1) := by decide +kernel
theorem dX9_rank_18 : decode cX9_rank 18 = .ok (.getfield 243, 3) := by decide +kernel
theorem dX9_rank_21 : decode cX9_rank 21 = .ok (.if_icmp .ge 41, 3) := by decide +kernel
theorem dX9_rank_24 : decode cX9_rank 24 = .ok (.aload_n 0, 1) := by decide +kernel
theorem dX9_rank_25 : decode cX9_rank 25 = .ok (.getfield 49, 3) := by decide +kernel
theorem dX9_rank_28 : decode cX9_rank 28 = .ok (.iload_n 2, 1) := by decide +kernel
theorem dX9_rank_29 : decode cX9_rank 29 = .ok (.iaload, 1) := by decide +kernel
theorem dX9_rank_30 : decode cX9_rank 30 = .ok (.ifCond .lt 26, 3) := by decide +kernel
theorem dX9_rank_33 : decode cX9_rank 33 = .ok (.aload_n 0, 1) := by decide +kernel
theorem dX9_rank_34 : decode cX9_rank 34 = .ok (.getfield 49, 3) := by decide +kernel
theorem dX9_rank_37 : decode cX9_rank 37 = .ok (.iload_n 2, 1) := by decide +kernel
theorem dX9_rank_38 : decode cX9_rank 38 = .ok (.iaload, 1) := by decide +kernel
theorem dX9_rank_39 : decode cX9_rank 39 = .ok (.bipush 6, 2) := by decide +kernel
theorem dX9_rank_41 : decode cX9_rank 41 = .ok (.idiv, 1) := by decide +kernel
theorem dX9_rank_42 : decode cX9_rank 42 = .ok (.iload_n 1, 1) := by decide +kernel
theorem dX9_rank_43 : decode cX9_rank 43 = .ok (.if_icmp .ne 13, 3) := by decide +kernel
theorem dX9_rank_46 : decode cX9_rank 46 = .ok (.aload_n 0, 1) := by decide +kernel
theorem dX9_rank_47 : decode cX9_rank 47 = .ok (.getfield 49, 3) := by decide +kernel
theorem dX9_rank_50 : decode cX9_rank 50 = .ok (.iload_n 2, 1) := by decide +kernel
theorem dX9_rank_51 : decode cX9_rank 51 = .ok (.iaload, 1) := by decide +kernel
theorem dX9_rank_52 : decode cX9_rank 52 = .ok (.bipush 6, 2) := by decide +kernel
theorem dX9_rank_54 : decode cX9_rank 54 = .ok (.irem, 1) := by decide +kernel
theorem dX9_rank_55 : decode cX9_rank 55 = .ok (.ireturn, 1) := by decide +kernel
theorem dX9_rank_56 : decode cX9_rank 56 = .ok (.iinc 2 1, 3) := by decide +kernel
theorem dX9_rank_59 : decode cX9_rank 59 = .ok (.goto (-43), 3) := by decide +kernel
theorem dX9_rank_62 : decode cX9_rank 62 = .ok (.bipush (-6), 2) := by decide +kernel
theorem dX9_rank_64 : decode cX9_rank 64 = .ok (.ireturn, 1) := by decide +kernel
abbrev cxX9_rank (G : Rg) (X : Ct) : Prop := Cx G X cX9_rank 3 RX9 (some .int) 5 114 (Cond.code yX9_rank cX9_rank 3 (some .int))
def fX9_rank_b16   : Nat → Int32 → Int32 → Mm → Option (Int32 × Mm)
  | 0, _, _, _ => none
  | n + 1, v1, v2, M =>
    if (M.1 0 27) ≤ v2 then
    (some ((mI 6), M))
    else
    (gd (inb v2 73) (
    if (M.1 14 v2.toNatClampNeg) < (nI 0) then
    (fX9_rank_b16  n v1 (v2 + (nI 1)) M)
    else
    (gd (inb v2 73) (
    if ((M.1 14 v2.toNatClampNeg) / (nI 6)) = v1 then
    (gd (inb v2 73) (
    some ((jrem (M.1 14 v2.toNatClampNeg) (nI 6)), M)))
    else
    (fX9_rank_b16  n v1 (v2 + (nI 1)) M)))))
set_option maxHeartbeats 4000000 in
set_option maxRecDepth 100000 in
theorem vX9_rank_b16 {G : Rg} {X : Ct} {r : Int32} {Mf : Mm}   (C : cxX9_rank G X) (hG : gS G = shM)   : ∀ (n : Nat) (v1 : Int32) (v2 : Int32) (M : Mm), fX9_rank_b16 n v1 v2 M = some (r, Mf) → V G X 3 (some (.int r)) Mf 16 [(0, .ref (gA G 0)), (1, .int v1), (2, .int v2)] [] M := by
  intro n
  induction n with
  | zero => intro v1 v2 M hf; rw [fX9_rank_b16] at hf; cases hf
  | succ n ih =>
    intro v1 v2 M hf
    rw [fX9_rank_b16] at hf
    refine V.iload_n (pc := 16) C 2 rfl dX9_rank_16 ?_
    refine V.aload_n (pc := 17) C 0 rfl dX9_rank_17 ?_
    refine V.getI (pc := 18) C clX9 inX9 (sm_0 hG) 27 (by decide) wF_X9_243 rfl dX9_rank_18 ?_
    rcases it_some hf with ⟨h1, hf⟩ | ⟨h1, hf⟩
    · refine V.ic_geT (pc := 21) C 62 h1 (by decide) dX9_rank_21 ?_
      refine V.bipush (pc := 62) C (mI 6) (by decide) dX9_rank_62 ?_
      exact V.retI (pc := 64) C hf dX9_rank_64
    · refine V.ic_geF (pc := 21) C 62 h1 (by decide) dX9_rank_21 ?_
      refine V.aload_n (pc := 24) C 0 rfl dX9_rank_24 ?_
      refine V.getR (pc := 25) C clX9 inX9 (sm_0 hG) 26 (by decide) wF_X9_49 rfl dX9_rank_25 ?_
      refine V.iload_n (pc := 28) C 2 rfl dX9_rank_28 ?_
      obtain ⟨g2, hf⟩ := gd_some hf
      refine V.iald (pc := 29) C (sm_14 hG) (inb_in g2) dX9_rank_29 ?_
      rcases it_some hf with ⟨h3, hf⟩ | ⟨h3, hf⟩
      · refine V.if_ltT (pc := 30) C 56 h3 (by decide) dX9_rank_30 ?_
        refine V.iinc (pc := 56) (lv' := [(2, .int (v2 + (nI 1))), (0, .ref (gA G 0)), (1, .int v1)]) C (v2 + (nI 1)) 2 rfl rfl (by decide) rfl dX9_rank_56 ?_
        refine V.goto (pc := 59) C 16 (by decide) dX9_rank_59 ?_
        refine V.sub C [1, 2, 0] (lv' := [(0, .ref (gA G 0)), (1, .int v1), (2, .int (v2 + (nI 1)))]) rfl ?_
        exact ih _ _ _ hf
      · refine V.if_ltF (pc := 30) C 56 h3 (by decide) dX9_rank_30 ?_
        refine V.aload_n (pc := 33) C 0 rfl dX9_rank_33 ?_
        refine V.getR (pc := 34) C clX9 inX9 (sm_0 hG) 26 (by decide) wF_X9_49 rfl dX9_rank_34 ?_
        refine V.iload_n (pc := 37) C 2 rfl dX9_rank_37 ?_
        obtain ⟨g4, hf⟩ := gd_some hf
        refine V.iald (pc := 38) C (sm_14 hG) (inb_in g4) dX9_rank_38 ?_
        refine V.bipush (pc := 39) C (nI 6) (by decide) dX9_rank_39 ?_
        refine V.idiv (pc := 41) C (by decide) dX9_rank_41 ?_
        refine V.iload_n (pc := 42) C 1 rfl dX9_rank_42 ?_
        rcases it_some hf with ⟨h5, hf⟩ | ⟨h5, hf⟩
        · refine V.ic_neF (pc := 43) C 56 h5 (by decide) dX9_rank_43 ?_
          refine V.aload_n (pc := 46) C 0 rfl dX9_rank_46 ?_
          refine V.getR (pc := 47) C clX9 inX9 (sm_0 hG) 26 (by decide) wF_X9_49 rfl dX9_rank_47 ?_
          refine V.iload_n (pc := 50) C 2 rfl dX9_rank_50 ?_
          obtain ⟨g6, hf⟩ := gd_some hf
          refine V.iald (pc := 51) C (sm_14 hG) (inb_in g6) dX9_rank_51 ?_
          refine V.bipush (pc := 52) C (nI 6) (by decide) dX9_rank_52 ?_
          refine V.irem (pc := 54) C (by decide) dX9_rank_54 ?_
          exact V.retI (pc := 55) C hf dX9_rank_55
        · refine V.ic_neT (pc := 43) C 56 h5 (by decide) dX9_rank_43 ?_
          refine V.iinc (pc := 56) (lv' := [(2, .int (v2 + (nI 1))), (0, .ref (gA G 0)), (1, .int v1)]) C (v2 + (nI 1)) 2 rfl rfl (by decide) rfl dX9_rank_56 ?_
          refine V.goto (pc := 59) C 16 (by decide) dX9_rank_59 ?_
          refine V.sub C [1, 2, 0] (lv' := [(0, .ref (gA G 0)), (1, .int v1), (2, .int (v2 + (nI 1)))]) rfl ?_
          exact ih _ _ _ hf
def fX9_rank (x1 : Int32) (M : Mm) : Option (Int32 × Mm) :=
bd (fX9_isOfficer x1 M) fun r1 M1 =>
if r1 = (nI 0) then
(some ((mI 1), M1))
else
(bd (fX9_findWorlds M1) fun _ M3 =>
fX9_rank_b16 fu x1 (nI 0) M3)
set_option maxHeartbeats 4000000 in
set_option maxRecDepth 100000 in
theorem mX9_rank (l : Launch) {G : Rg} (hG : gS G = shM) {x1 : Int32}  {M Mf : Mm} {r : Int32} (hf : fX9_rank x1 M = some (r, Mf)) : Mt l G yX9_rank cX9_rank 3 (some .int) 5 114 [.ref (gA G 0), .int x1] M (some (.int r)) Mf := by
  refine Mt.of (by decide) (Nat.le_of_ble_eq_true rfl) ?_
  intro X C hX
  subst hX
  have C : cxX9_rank G X := C
  show V G X 3 (some (.int r)) Mf 0 [(0, .ref (gA G 0)), (1, .int x1)] [] M
  rw [fX9_rank] at hf
  refine V.aload_n (pc := 0) C 0 rfl dX9_rank_0 ?_
  refine V.iload_n (pc := 1) C 1 rfl dX9_rank_1 ?_
  obtain ⟨r1, M1, h1, hf⟩ := bd_some hf
  refine V.callVi (pc := 2) (As := [.int x1]) (rest := []) C (mX9_isOfficer X.2.1 hG  h1) mf_X9_isOfficer clX9 (sm_0 hG) wM_X9_86 rfl rfl ⟨by decide, by decide⟩ (Nat.le_of_ble_eq_true rfl) dX9_rank_2 ?_
  rcases it_some hf with ⟨h2, hf⟩ | ⟨h2, hf⟩
  · refine V.if_neF (pc := 5) C 10 h2 (by decide) dX9_rank_5 ?_
    refine V.iconst (pc := 8) C (mI 1) (by decide) dX9_rank_8 ?_
    exact V.retI (pc := 9) C hf dX9_rank_9
  · refine V.if_neT (pc := 5) C 10 h2 (by decide) dX9_rank_5 ?_
    refine V.aload_n (pc := 10) C 0 rfl dX9_rank_10 ?_
    obtain ⟨_, M3, h3, hf⟩ := bd_some hf
    refine V.callVv (pc := 11) (As := []) (rest := []) C (mX9_findWorlds X.2.1 hG  h3) mf_X9_findWorlds clX9 (sm_0 hG) wM_X9_249 rfl rfl ⟨by decide, by decide⟩ (Nat.le_of_ble_eq_true rfl) dX9_rank_11 ?_
    refine V.iconst (pc := 14) C (nI 0) (by decide) dX9_rank_14 ?_
    refine V.istore_n (pc := 15) (lv' := [(2, .int (nI 0)), (0, .ref (gA G 0)), (1, .int x1)]) C (by decide) rfl dX9_rank_15 ?_
    refine V.sub C [1, 2, 0] (lv' := [(0, .ref (gA G 0)), (1, .int x1), (2, .int (nI 0))]) rfl ?_
    exact vX9_rank_b16 C hG   fu _ _ _ hf
theorem dX9_mostLeft_0 : decode cX9_mostLeft 0 = .ok (.iconst 0, 1) := by decide +kernel
theorem dX9_mostLeft_1 : decode cX9_mostLeft 1 = .ok (.istore_n 3, 1) := by decide +kernel
theorem dX9_mostLeft_2 : decode cX9_mostLeft 2 = .ok (.iconst 0, 1) := by decide +kernel
theorem dX9_mostLeft_3 : decode cX9_mostLeft 3 = .ok (.istore 4, 2) := by decide +kernel
theorem dX9_mostLeft_5 : decode cX9_mostLeft 5 = .ok (.iload 4, 2) := by decide +kernel
theorem dX9_mostLeft_7 : decode cX9_mostLeft 7 = .ok (.aload_n 0, 1) := by decide +kernel
theorem dX9_mostLeft_8 : decode cX9_mostLeft 8 = .ok (.getfield 243, 3) := by decide +kernel
theorem dX9_mostLeft_11 : decode cX9_mostLeft 11 = .ok (.if_icmp .ge 40, 3) := by decide +kernel
theorem dX9_mostLeft_14 : decode cX9_mostLeft 14 = .ok (.iload_n 3, 1) := by decide +kernel
theorem dX9_mostLeft_15 : decode cX9_mostLeft 15 = .ok (.aload_n 0, 1) := by decide +kernel
theorem dX9_mostLeft_16 : decode cX9_mostLeft 16 = .ok (.aload_n 0, 1) := by decide +kernel
theorem dX9_mostLeft_17 : decode cX9_mostLeft 17 = .ok (.getfield 49, 3) := by decide +kernel
theorem dX9_mostLeft_20 : decode cX9_mostLeft 20 = .ok (.iload 4, 2) := by decide +kernel
theorem dX9_mostLeft_22 : decode cX9_mostLeft 22 = .ok (.iaload, 1) := by decide +kernel
theorem dX9_mostLeft_23 : decode cX9_mostLeft 23 = .ok (.iconst 1, 1) := by decide +kernel
theorem dX9_mostLeft_24 : decode cX9_mostLeft 24 = .ok (.iload_n 1, 1) := by decide +kernel
theorem dX9_mostLeft_25 : decode cX9_mostLeft 25 = .ok (.ishl, 1) := by decide +kernel
theorem dX9_mostLeft_26 : decode cX9_mostLeft 26 = .ok (.iconst 1, 1) := by decide +kernel
theorem dX9_mostLeft_27 : decode cX9_mostLeft 27 = .ok (.iload_n 2, 1) := by decide +kernel
theorem dX9_mostLeft_28 : decode cX9_mostLeft 28 = .ok (.bipush 6, 2) := by decide +kernel
theorem dX9_mostLeft_30 : decode cX9_mostLeft 30 = .ok (.isub, 1) := by decide +kernel
theorem dX9_mostLeft_31 : decode cX9_mostLeft 31 = .ok (.ishl, 1) := by decide +kernel
theorem dX9_mostLeft_32 : decode cX9_mostLeft 32 = .ok (.invokevirtual 239, 3) := by decide +kernel
theorem dX9_mostLeft_35 : decode cX9_mostLeft 35 = .ok (.ifCond .eq 7, 3) := by decide +kernel
theorem dX9_mostLeft_38 : decode cX9_mostLeft 38 = .ok (.iconst 1, 1) := by decide +kernel
theorem dX9_mostLeft_39 : decode cX9_mostLeft 39 = .ok (.goto 4, 3) := by decide +kernel
theorem dX9_mostLeft_42 : decode cX9_mostLeft 42 = .ok (.iconst 0, 1) := by decide +kernel
theorem dX9_mostLeft_43 : decode cX9_mostLeft 43 = .ok (.iadd, 1) := by decide +kernel
theorem dX9_mostLeft_44 : decode cX9_mostLeft 44 = .ok (.istore_n 3, 1) := by decide +kernel
theorem dX9_mostLeft_45 : decode cX9_mostLeft 45 = .ok (.iinc 4 1, 3) := by decide +kernel
theorem dX9_mostLeft_48 : decode cX9_mostLeft 48 = .ok (.goto (-43), 3) := by decide +kernel
theorem dX9_mostLeft_51 : decode cX9_mostLeft 51 = .ok (.iload_n 3, 1) := by decide +kernel
theorem dX9_mostLeft_52 : decode cX9_mostLeft 52 = .ok (.aload_n 0, 1) := by decide +kernel
theorem dX9_mostLeft_53 : decode cX9_mostLeft 53 = .ok (.getfield 243, 3) := by decide +kernel
theorem dX9_mostLeft_56 : decode cX9_mostLeft 56 = .ok (.iload_n 3, 1) := by decide +kernel
theorem dX9_mostLeft_57 : decode cX9_mostLeft 57 = .ok (.isub, 1) := by decide +kernel
theorem dX9_mostLeft_58 : decode cX9_mostLeft 58 = .ok (.if_icmp .le 7, 3) := by decide +kernel
theorem dX9_mostLeft_61 : decode cX9_mostLeft 61 = .ok (.iload_n 3, 1) := by decide +kernel
theorem dX9_mostLeft_62 : decode cX9_mostLeft 62 = .ok (.goto 9, 3) := by decide +kernel
theorem dX9_mostLeft_65 : decode cX9_mostLeft 65 = .ok (.aload_n 0, 1) := by decide +kernel
theorem dX9_mostLeft_66 : decode cX9_mostLeft 66 = .ok (.getfield 243, 3) := by decide +kernel
theorem dX9_mostLeft_69 : decode cX9_mostLeft 69 = .ok (.iload_n 3, 1) := by decide +kernel
theorem dX9_mostLeft_70 : decode cX9_mostLeft 70 = .ok (.isub, 1) := by decide +kernel
theorem dX9_mostLeft_71 : decode cX9_mostLeft 71 = .ok (.ireturn, 1) := by decide +kernel
abbrev cxX9_mostLeft (G : Rg) (X : Ct) : Prop := Cx G X cX9_mostLeft 5 RX9 (some .int) 3 70 (Cond.code yX9_mostLeft cX9_mostLeft 5 (some .int))
def fX9_mostLeft_b51   (v3 : Int32) (M : Mm) : Option (Int32 × Mm) :=
if v3 ≤ ((M.1 0 27) - v3) then
(some (((M.1 0 27) - v3), M))
else
(some (v3, M))
set_option maxHeartbeats 4000000 in
set_option maxRecDepth 100000 in
theorem vX9_mostLeft_b51 {G : Rg} {X : Ct} {r : Int32} {Mf : Mm}   (C : cxX9_mostLeft G X) (hG : gS G = shM)   (v3 : Int32) (M : Mm) (hf : fX9_mostLeft_b51 v3 M = some (r, Mf)) : V G X 5 (some (.int r)) Mf 51 [(0, .ref (gA G 0)), (3, .int v3)] [] M := by
  rw [fX9_mostLeft_b51] at hf
  refine V.iload_n (pc := 51) C 1 rfl dX9_mostLeft_51 ?_
  refine V.aload_n (pc := 52) C 0 rfl dX9_mostLeft_52 ?_
  refine V.getI (pc := 53) C clX9 inX9 (sm_0 hG) 27 (by decide) wF_X9_243 rfl dX9_mostLeft_53 ?_
  refine V.iload_n (pc := 56) C 1 rfl dX9_mostLeft_56 ?_
  refine V.isub (pc := 57) C dX9_mostLeft_57 ?_
  rcases it_some hf with ⟨h1, hf⟩ | ⟨h1, hf⟩
  · refine V.ic_leT (pc := 58) C 65 h1 (by decide) dX9_mostLeft_58 ?_
    refine V.aload_n (pc := 65) C 0 rfl dX9_mostLeft_65 ?_
    refine V.getI (pc := 66) C clX9 inX9 (sm_0 hG) 27 (by decide) wF_X9_243 rfl dX9_mostLeft_66 ?_
    refine V.iload_n (pc := 69) C 1 rfl dX9_mostLeft_69 ?_
    refine V.isub (pc := 70) C dX9_mostLeft_70 ?_
    exact V.retI (pc := 71) C hf dX9_mostLeft_71
  · refine V.ic_leF (pc := 58) C 65 h1 (by decide) dX9_mostLeft_58 ?_
    refine V.iload_n (pc := 61) C 1 rfl dX9_mostLeft_61 ?_
    refine V.goto (pc := 62) C 71 (by decide) dX9_mostLeft_62 ?_
    exact V.retI (pc := 71) C hf dX9_mostLeft_71
def fX9_mostLeft_b5   : Nat → Int32 → Int32 → Int32 → Int32 → Mm → Option (Int32 × Mm)
  | 0, _, _, _, _, _ => none
  | n + 1, v1, v2, v3, v4, M =>
    if (M.1 0 27) ≤ v4 then
    (fX9_mostLeft_b51 v3 M)
    else
    (gd (inb v4 73) (
    bd (fX9_isEvenIn (M.1 14 v4.toNatClampNeg) (jshl (nI 1) v1) (jshl (nI 1) (v2 - (nI 6))) M) fun r3 M3 =>
    if r3 = (nI 0) then
    (fX9_mostLeft_b5  n v1 v2 (v3 + (nI 0)) (v4 + (nI 1)) M3)
    else
    (fX9_mostLeft_b5  n v1 v2 (v3 + (nI 1)) (v4 + (nI 1)) M3)))
set_option maxHeartbeats 4000000 in
set_option maxRecDepth 100000 in
theorem vX9_mostLeft_b5 {G : Rg} {X : Ct} {r : Int32} {Mf : Mm}   (C : cxX9_mostLeft G X) (hG : gS G = shM)   : ∀ (n : Nat) (v1 : Int32) (v2 : Int32) (v3 : Int32) (v4 : Int32) (M : Mm), fX9_mostLeft_b5 n v1 v2 v3 v4 M = some (r, Mf) → V G X 5 (some (.int r)) Mf 5 [(0, .ref (gA G 0)), (1, .int v1), (2, .int v2), (3, .int v3), (4, .int v4)] [] M := by
  intro n
  induction n with
  | zero => intro v1 v2 v3 v4 M hf; rw [fX9_mostLeft_b5] at hf; cases hf
  | succ n ih =>
    intro v1 v2 v3 v4 M hf
    rw [fX9_mostLeft_b5] at hf
    refine V.iload (pc := 5) C 4 rfl dX9_mostLeft_5 ?_
    refine V.aload_n (pc := 7) C 0 rfl dX9_mostLeft_7 ?_
    refine V.getI (pc := 8) C clX9 inX9 (sm_0 hG) 27 (by decide) wF_X9_243 rfl dX9_mostLeft_8 ?_
    rcases it_some hf with ⟨h1, hf⟩ | ⟨h1, hf⟩
    · refine V.ic_geT (pc := 11) C 51 h1 (by decide) dX9_mostLeft_11 ?_
      refine V.sub C [0, 3] (lv' := [(0, .ref (gA G 0)), (3, .int v3)]) rfl ?_
      exact vX9_mostLeft_b51 C hG    _ _ hf
    · refine V.ic_geF (pc := 11) C 51 h1 (by decide) dX9_mostLeft_11 ?_
      refine V.iload_n (pc := 14) C 3 rfl dX9_mostLeft_14 ?_
      refine V.aload_n (pc := 15) C 0 rfl dX9_mostLeft_15 ?_
      refine V.aload_n (pc := 16) C 0 rfl dX9_mostLeft_16 ?_
      refine V.getR (pc := 17) C clX9 inX9 (sm_0 hG) 26 (by decide) wF_X9_49 rfl dX9_mostLeft_17 ?_
      refine V.iload (pc := 20) C 4 rfl dX9_mostLeft_20 ?_
      obtain ⟨g2, hf⟩ := gd_some hf
      refine V.iald (pc := 22) C (sm_14 hG) (inb_in g2) dX9_mostLeft_22 ?_
      refine V.iconst (pc := 23) C (nI 1) (by decide) dX9_mostLeft_23 ?_
      refine V.iload_n (pc := 24) C 1 rfl dX9_mostLeft_24 ?_
      refine V.ishl (pc := 25) C dX9_mostLeft_25 ?_
      refine V.iconst (pc := 26) C (nI 1) (by decide) dX9_mostLeft_26 ?_
      refine V.iload_n (pc := 27) C 2 rfl dX9_mostLeft_27 ?_
      refine V.bipush (pc := 28) C (nI 6) (by decide) dX9_mostLeft_28 ?_
      refine V.isub (pc := 30) C dX9_mostLeft_30 ?_
      refine V.ishl (pc := 31) C dX9_mostLeft_31 ?_
      obtain ⟨r3, M3, h3, hf⟩ := bd_some hf
      refine V.callVi (pc := 32) (As := [.int (M.1 14 v4.toNatClampNeg), .int (jshl (nI 1) v1), .int (jshl (nI 1) (v2 - (nI 6)))]) (rest := [.int v3]) C (mX9_isEvenIn X.2.1 hG  h3) mf_X9_isEvenIn clX9 (sm_0 hG) wM_X9_239 rfl rfl ⟨by decide, by decide⟩ (Nat.le_of_ble_eq_true rfl) dX9_mostLeft_32 ?_
      rcases it_some hf with ⟨h4, hf⟩ | ⟨h4, hf⟩
      · refine V.if_eqT (pc := 35) C 42 h4 (by decide) dX9_mostLeft_35 ?_
        refine V.iconst (pc := 42) C (nI 0) (by decide) dX9_mostLeft_42 ?_
        refine V.iadd (pc := 43) C dX9_mostLeft_43 ?_
        refine V.istore_n (pc := 44) (lv' := [(3, .int (v3 + (nI 0))), (0, .ref (gA G 0)), (1, .int v1), (2, .int v2), (4, .int v4)]) C (by decide) rfl dX9_mostLeft_44 ?_
        refine V.iinc (pc := 45) (lv' := [(4, .int (v4 + (nI 1))), (3, .int (v3 + (nI 0))), (0, .ref (gA G 0)), (1, .int v1), (2, .int v2)]) C (v4 + (nI 1)) 4 rfl rfl (by decide) rfl dX9_mostLeft_45 ?_
        refine V.goto (pc := 48) C 5 (by decide) dX9_mostLeft_48 ?_
        refine V.sub C [2, 3, 4, 1, 0] (lv' := [(0, .ref (gA G 0)), (1, .int v1), (2, .int v2), (3, .int (v3 + (nI 0))), (4, .int (v4 + (nI 1)))]) rfl ?_
        exact ih _ _ _ _ _ hf
      · refine V.if_eqF (pc := 35) C 42 h4 (by decide) dX9_mostLeft_35 ?_
        refine V.iconst (pc := 38) C (nI 1) (by decide) dX9_mostLeft_38 ?_
        refine V.goto (pc := 39) C 43 (by decide) dX9_mostLeft_39 ?_
        refine V.iadd (pc := 43) C dX9_mostLeft_43 ?_
        refine V.istore_n (pc := 44) (lv' := [(3, .int (v3 + (nI 1))), (0, .ref (gA G 0)), (1, .int v1), (2, .int v2), (4, .int v4)]) C (by decide) rfl dX9_mostLeft_44 ?_
        refine V.iinc (pc := 45) (lv' := [(4, .int (v4 + (nI 1))), (3, .int (v3 + (nI 1))), (0, .ref (gA G 0)), (1, .int v1), (2, .int v2)]) C (v4 + (nI 1)) 4 rfl rfl (by decide) rfl dX9_mostLeft_45 ?_
        refine V.goto (pc := 48) C 5 (by decide) dX9_mostLeft_48 ?_
        refine V.sub C [2, 3, 4, 1, 0] (lv' := [(0, .ref (gA G 0)), (1, .int v1), (2, .int v2), (3, .int (v3 + (nI 1))), (4, .int (v4 + (nI 1)))]) rfl ?_
        exact ih _ _ _ _ _ hf
def fX9_mostLeft (x1 : Int32) (x2 : Int32) (M : Mm) : Option (Int32 × Mm) :=
fX9_mostLeft_b5 fu x1 x2 (nI 0) (nI 0) M
set_option maxHeartbeats 4000000 in
set_option maxRecDepth 100000 in
theorem mX9_mostLeft (l : Launch) {G : Rg} (hG : gS G = shM) {x1 : Int32} {x2 : Int32}  {M Mf : Mm} {r : Int32} (hf : fX9_mostLeft x1 x2 M = some (r, Mf)) : Mt l G yX9_mostLeft cX9_mostLeft 5 (some .int) 3 70 [.ref (gA G 0), .int x1, .int x2] M (some (.int r)) Mf := by
  refine Mt.of (by decide) (Nat.le_of_ble_eq_true rfl) ?_
  intro X C hX
  subst hX
  have C : cxX9_mostLeft G X := C
  show V G X 5 (some (.int r)) Mf 0 [(0, .ref (gA G 0)), (1, .int x1), (2, .int x2)] [] M
  rw [fX9_mostLeft] at hf
  refine V.iconst (pc := 0) C (nI 0) (by decide) dX9_mostLeft_0 ?_
  refine V.istore_n (pc := 1) (lv' := [(3, .int (nI 0)), (0, .ref (gA G 0)), (1, .int x1), (2, .int x2)]) C (by decide) rfl dX9_mostLeft_1 ?_
  refine V.iconst (pc := 2) C (nI 0) (by decide) dX9_mostLeft_2 ?_
  refine V.istore (pc := 3) (lv' := [(4, .int (nI 0)), (3, .int (nI 0)), (0, .ref (gA G 0)), (1, .int x1), (2, .int x2)]) C (by decide) rfl dX9_mostLeft_3 ?_
  refine V.sub C [2, 3, 4, 1, 0] (lv' := [(0, .ref (gA G 0)), (1, .int x1), (2, .int x2), (3, .int (nI 0)), (4, .int (nI 0))]) rfl ?_
  exact vX9_mostLeft_b5 C hG   fu _ _ _ _ _ hf
theorem dX9_weigh_0 : decode cX9_weigh 0 = .ok (.iload_n 1, 1) := by decide +kernel
theorem dX9_weigh_1 : decode cX9_weigh 1 = .ok (.i2l, 1) := by decide +kernel
theorem dX9_weigh_2 : decode cX9_weigh 2 = .ok (.lconst 0, 1) := by decide +kernel
theorem dX9_weigh_3 : decode cX9_weigh 3 = .ok (.lconst 1, 1) := by decide +kernel
theorem dX9_weigh_4 : decode cX9_weigh 4 = .ok (.invokestatic 69, 3) := by decide +kernel
theorem dX9_weigh_7 : decode cX9_weigh 7 = .ok (.ifCond .ne 6, 3) := by decide +kernel
theorem dX9_weigh_10 : decode cX9_weigh 10 = .ok (.bipush (-2), 2) := by decide +kernel
theorem dX9_weigh_12 : decode cX9_weigh 12 = .ok (.ireturn, 1) := by decide +kernel
theorem dX9_weigh_13 : decode cX9_weigh 13 = .ok (.aload_n 0, 1) := by decide +kernel
theorem dX9_weigh_14 : decode cX9_weigh 14 = .ok (.invokevirtual 249, 3) := by decide +kernel
theorem dX9_weigh_17 : decode cX9_weigh 17 = .ok (.bipush (-6), 2) := by decide +kernel
theorem dX9_weigh_19 : decode cX9_weigh 19 = .ok (.istore_n 2, 1) := by decide +kernel
theorem dX9_weigh_20 : decode cX9_weigh 20 = .ok (.iconst 0, 1) := by decide +kernel
theorem dX9_weigh_21 : decode cX9_weigh 21 = .ok (.istore_n 3, 1) := by decide +kernel
theorem dX9_weigh_22 : decode cX9_weigh 22 = .ok (.iconst 0, 1) := by decide +kernel
theorem dX9_weigh_23 : decode cX9_weigh 23 = .ok (.istore 4, 2) := by decide +kernel
theorem dX9_weigh_25 : decode cX9_weigh 25 = .ok (.iload 4, 2) := by decide +kernel
theorem dX9_weigh_27 : decode cX9_weigh 27 = .ok (.bipush 6, 2) := by decide +kernel
theorem dX9_weigh_29 : decode cX9_weigh 29 = .ok (.if_icmp .ge 97, 3) := by decide +kernel
theorem dX9_weigh_32 : decode cX9_weigh 32 = .ok (.bipush 6, 2) := by decide +kernel
theorem dX9_weigh_34 : decode cX9_weigh 34 = .ok (.istore 5, 2) := by decide +kernel
theorem dX9_weigh_36 : decode cX9_weigh 36 = .ok (.iload 5, 2) := by decide +kernel
theorem dX9_weigh_38 : decode cX9_weigh 38 = .ok (.bipush 12, 2) := by decide +kernel
theorem dX9_weigh_40 : decode cX9_weigh 40 = .ok (.if_icmp .ge 80, 3) := by decide +kernel
theorem dX9_weigh_43 : decode cX9_weigh 43 = .ok (.aload_n 0, 1) := by decide +kernel
theorem dX9_weigh_44 : decode cX9_weigh 44 = .ok (.getfield 243, 3) := by decide +kernel
theorem dX9_weigh_47 : decode cX9_weigh 47 = .ok (.ifCond .le 25, 3) := by decide +kernel
theorem dX9_weigh_50 : decode cX9_weigh 50 = .ok (.aload_n 0, 1) := by decide +kernel
theorem dX9_weigh_51 : decode cX9_weigh 51 = .ok (.iload 4, 2) := by decide +kernel
theorem dX9_weigh_53 : decode cX9_weigh 53 = .ok (.invokevirtual 86, 3) := by decide +kernel
theorem dX9_weigh_56 : decode cX9_weigh 56 = .ok (.ifCond .eq 16, 3) := by decide +kernel
theorem dX9_weigh_59 : decode cX9_weigh 59 = .ok (.aload_n 0, 1) := by decide +kernel
theorem dX9_weigh_60 : decode cX9_weigh 60 = .ok (.iload 5, 2) := by decide +kernel
theorem dX9_weigh_62 : decode cX9_weigh 62 = .ok (.invokevirtual 86, 3) := by decide +kernel
theorem dX9_weigh_65 : decode cX9_weigh 65 = .ok (.ifCond .eq 7, 3) := by decide +kernel
theorem dX9_weigh_68 : decode cX9_weigh 68 = .ok (.iconst 1, 1) := by decide +kernel
theorem dX9_weigh_69 : decode cX9_weigh 69 = .ok (.goto 4, 3) := by decide +kernel
theorem dX9_weigh_72 : decode cX9_weigh 72 = .ok (.iconst 0, 1) := by decide +kernel
theorem dX9_weigh_73 : decode cX9_weigh 73 = .ok (.istore 6, 2) := by decide +kernel
theorem dX9_weigh_75 : decode cX9_weigh 75 = .ok (.iload 6, 2) := by decide +kernel
theorem dX9_weigh_77 : decode cX9_weigh 77 = .ok (.ifCond .eq 37, 3) := by decide +kernel
theorem dX9_weigh_80 : decode cX9_weigh 80 = .ok (.iload_n 2, 1) := by decide +kernel
theorem dX9_weigh_81 : decode cX9_weigh 81 = .ok (.ifCond .lt 15, 3) := by decide +kernel
theorem dX9_weigh_84 : decode cX9_weigh 84 = .ok (.aload_n 0, 1) := by decide +kernel
theorem dX9_weigh_85 : decode cX9_weigh 85 = .ok (.iload 4, 2) := by decide +kernel
theorem dX9_weigh_87 : decode cX9_weigh 87 = .ok (.iload 5, 2) := by decide +kernel
theorem dX9_weigh_89 : decode cX9_weigh 89 = .ok (.invokevirtual 252, 3) := by decide +kernel
theorem dX9_weigh_92 : decode cX9_weigh 92 = .ok (.iload_n 3, 1) := by decide +kernel
theorem dX9_weigh_93 : decode cX9_weigh 93 = .ok (.if_icmp .ge 21, 3) := by decide +kernel
theorem dX9_weigh_96 : decode cX9_weigh 96 = .ok (.bipush 12, 2) := by decide +kernel
theorem dX9_weigh_98 : decode cX9_weigh 98 = .ok (.iload 4, 2) := by decide +kernel
theorem dX9_weigh_100 : decode cX9_weigh 100 = .ok (.imul, 1) := by decide +kernel
theorem dX9_weigh_101 : decode cX9_weigh 101 = .ok (.iload 5, 2) := by decide +kernel
theorem dX9_weigh_103 : decode cX9_weigh 103 = .ok (.iadd, 1) := by decide +kernel
theorem dX9_weigh_104 : decode cX9_weigh 104 = .ok (.istore_n 2, 1) := by decide +kernel
theorem dX9_weigh_105 : decode cX9_weigh 105 = .ok (.aload_n 0, 1) := by decide +kernel
theorem dX9_weigh_106 : decode cX9_weigh 106 = .ok (.iload 4, 2) := by decide +kernel
theorem dX9_weigh_108 : decode cX9_weigh 108 = .ok (.iload 5, 2) := by decide +kernel
theorem dX9_weigh_110 : decode cX9_weigh 110 = .ok (.invokevirtual 252, 3) := by decide +kernel
theorem dX9_weigh_113 : decode cX9_weigh 113 = .ok (.istore_n 3, 1) := by decide +kernel
theorem dX9_weigh_114 : decode cX9_weigh 114 = .ok (.iinc 5 1, 3) := by decide +kernel
theorem dX9_weigh_117 : decode cX9_weigh 117 = .ok (.goto (-81), 3) := by decide +kernel
theorem dX9_weigh_120 : decode cX9_weigh 120 = .ok (.iinc 4 1, 3) := by decide +kernel
theorem dX9_weigh_123 : decode cX9_weigh 123 = .ok (.goto (-98), 3) := by decide +kernel
theorem dX9_weigh_126 : decode cX9_weigh 126 = .ok (.iload_n 2, 1) := by decide +kernel
theorem dX9_weigh_127 : decode cX9_weigh 127 = .ok (.ifCond .lt 7, 3) := by decide +kernel
theorem dX9_weigh_130 : decode cX9_weigh 130 = .ok (.iload_n 1, 1) := by decide +kernel
theorem dX9_weigh_131 : decode cX9_weigh 131 = .ok (.ifCond .ne 7, 3) := by decide +kernel
theorem dX9_weigh_134 : decode cX9_weigh 134 = .ok (.iload_n 2, 1) := by decide +kernel
theorem dX9_weigh_135 : decode cX9_weigh 135 = .ok (.goto 4, 3) := by decide +kernel
theorem dX9_weigh_138 : decode cX9_weigh 138 = .ok (.iload_n 3, 1) := by decide +kernel
theorem dX9_weigh_139 : decode cX9_weigh 139 = .ok (.ireturn, 1) := by decide +kernel
abbrev cxX9_weigh (G : Rg) (X : Ct) : Prop := Cx G X cX9_weigh 7 RX9 (some .int) 5 114 (Cond.code yX9_weigh cX9_weigh 7 (some .int))
def fX9_weigh_b126   (v1 : Int32) (v2 : Int32) (v3 : Int32) (M : Mm) : Option (Int32 × Mm) :=
if v2 < (nI 0) then
(some (v2, M))
else
(if v1 = (nI 0) then
(some (v2, M))
else
(some (v3, M)))
set_option maxHeartbeats 4000000 in
set_option maxRecDepth 100000 in
theorem vX9_weigh_b126 {G : Rg} {X : Ct} {r : Int32} {Mf : Mm}   (C : cxX9_weigh G X) (hG : gS G = shM)   (v1 : Int32) (v2 : Int32) (v3 : Int32) (M : Mm) (hf : fX9_weigh_b126 v1 v2 v3 M = some (r, Mf)) : V G X 7 (some (.int r)) Mf 126 [(1, .int v1), (2, .int v2), (3, .int v3)] [] M := by
  rw [fX9_weigh_b126] at hf
  refine V.iload_n (pc := 126) C 1 rfl dX9_weigh_126 ?_
  rcases it_some hf with ⟨h1, hf⟩ | ⟨h1, hf⟩
  · refine V.if_ltT (pc := 127) C 134 h1 (by decide) dX9_weigh_127 ?_
    refine V.iload_n (pc := 134) C 1 rfl dX9_weigh_134 ?_
    refine V.goto (pc := 135) C 139 (by decide) dX9_weigh_135 ?_
    exact V.retI (pc := 139) C hf dX9_weigh_139
  · refine V.if_ltF (pc := 127) C 134 h1 (by decide) dX9_weigh_127 ?_
    refine V.iload_n (pc := 130) C 0 rfl dX9_weigh_130 ?_
    rcases it_some hf with ⟨h2, hf⟩ | ⟨h2, hf⟩
    · refine V.if_neF (pc := 131) C 138 h2 (by decide) dX9_weigh_131 ?_
      refine V.iload_n (pc := 134) C 1 rfl dX9_weigh_134 ?_
      refine V.goto (pc := 135) C 139 (by decide) dX9_weigh_135 ?_
      exact V.retI (pc := 139) C hf dX9_weigh_139
    · refine V.if_neT (pc := 131) C 138 h2 (by decide) dX9_weigh_131 ?_
      refine V.iload_n (pc := 138) C 2 rfl dX9_weigh_138 ?_
      exact V.retI (pc := 139) C hf dX9_weigh_139
def fX9_weigh_b96 (nx25 : Int32 → Int32 → Int32 → Int32 → Mm → Option (Int32 × Mm)) (nx36 : Int32 → Int32 → Int32 → Int32 → Int32 → Mm → Option (Int32 × Mm))  (v1 : Int32) (v4 : Int32) (v5 : Int32) (M : Mm) : Option (Int32 × Mm) :=
bd (fX9_mostLeft v4 v5 M) fun r1 M1 =>
nx36 v1 (((nI 12) * v4) + v5) r1 v4 (v5 + (nI 1)) M1
set_option maxHeartbeats 4000000 in
set_option maxRecDepth 100000 in
theorem vX9_weigh_b96 {G : Rg} {X : Ct} {r : Int32} {Mf : Mm}  {nx25 : Int32 → Int32 → Int32 → Int32 → Mm → Option (Int32 × Mm)} {nx36 : Int32 → Int32 → Int32 → Int32 → Int32 → Mm → Option (Int32 × Mm)} (C : cxX9_weigh G X) (hG : gS G = shM)  (hx25 : ∀ (v1 : Int32) (v2 : Int32) (v3 : Int32) (v4 : Int32) (M : Mm), nx25 v1 v2 v3 v4 M = some (r, Mf) → V G X 7 (some (.int r)) Mf 25 [(0, .ref (gA G 0)), (1, .int v1), (2, .int v2), (3, .int v3), (4, .int v4)] [] M) (hx36 : ∀ (v1 : Int32) (v2 : Int32) (v3 : Int32) (v4 : Int32) (v5 : Int32) (M : Mm), nx36 v1 v2 v3 v4 v5 M = some (r, Mf) → V G X 7 (some (.int r)) Mf 36 [(0, .ref (gA G 0)), (1, .int v1), (2, .int v2), (3, .int v3), (4, .int v4), (5, .int v5)] [] M) (v1 : Int32) (v4 : Int32) (v5 : Int32) (M : Mm) (hf : fX9_weigh_b96 nx25 nx36 v1 v4 v5 M = some (r, Mf)) : V G X 7 (some (.int r)) Mf 96 [(0, .ref (gA G 0)), (1, .int v1), (4, .int v4), (5, .int v5)] [] M := by
  rw [fX9_weigh_b96] at hf
  refine V.bipush (pc := 96) C (nI 12) (by decide) dX9_weigh_96 ?_
  refine V.iload (pc := 98) C 2 rfl dX9_weigh_98 ?_
  refine V.imul (pc := 100) C dX9_weigh_100 ?_
  refine V.iload (pc := 101) C 3 rfl dX9_weigh_101 ?_
  refine V.iadd (pc := 103) C dX9_weigh_103 ?_
  refine V.istore_n (pc := 104) (lv' := [(2, .int (((nI 12) * v4) + v5)), (0, .ref (gA G 0)), (1, .int v1), (4, .int v4), (5, .int v5)]) C (by decide) rfl dX9_weigh_104 ?_
  refine V.aload_n (pc := 105) C 1 rfl dX9_weigh_105 ?_
  refine V.iload (pc := 106) C 3 rfl dX9_weigh_106 ?_
  refine V.iload (pc := 108) C 4 rfl dX9_weigh_108 ?_
  obtain ⟨r1, M1, h1, hf⟩ := bd_some hf
  refine V.callVi (pc := 110) (As := [.int v4, .int v5]) (rest := []) C (mX9_mostLeft X.2.1 hG  h1) mf_X9_mostLeft clX9 (sm_0 hG) wM_X9_252 rfl rfl ⟨by decide, by decide⟩ (Nat.le_of_ble_eq_true rfl) dX9_weigh_110 ?_
  refine V.istore_n (pc := 113) (lv' := [(3, .int r1), (2, .int (((nI 12) * v4) + v5)), (0, .ref (gA G 0)), (1, .int v1), (4, .int v4), (5, .int v5)]) C (by decide) rfl dX9_weigh_113 ?_
  refine V.iinc (pc := 114) (lv' := [(5, .int (v5 + (nI 1))), (3, .int r1), (2, .int (((nI 12) * v4) + v5)), (0, .ref (gA G 0)), (1, .int v1), (4, .int v4)]) C (v5 + (nI 1)) 5 rfl rfl (by decide) rfl dX9_weigh_114 ?_
  refine V.goto (pc := 117) C 36 (by decide) dX9_weigh_117 ?_
  refine V.sub C [3, 4, 2, 1, 5, 0] (lv' := [(0, .ref (gA G 0)), (1, .int v1), (2, .int (((nI 12) * v4) + v5)), (3, .int r1), (4, .int v4), (5, .int (v5 + (nI 1)))]) rfl ?_
  exact hx36 _ _ _ _ _ _ hf
def fX9_weigh_b73 (nx25 : Int32 → Int32 → Int32 → Int32 → Mm → Option (Int32 × Mm)) (nx36 : Int32 → Int32 → Int32 → Int32 → Int32 → Mm → Option (Int32 × Mm))  (v1 : Int32) (v2 : Int32) (v3 : Int32) (v4 : Int32) (v5 : Int32) (s0 : Int32) (M : Mm) : Option (Int32 × Mm) :=
if s0 = (nI 0) then
(nx36 v1 v2 v3 v4 (v5 + (nI 1)) M)
else
(if v2 < (nI 0) then
(fX9_weigh_b96 nx25 nx36 v1 v4 v5 M)
else
(bd (fX9_mostLeft v4 v5 M) fun r3 M3 =>
if v3 ≤ r3 then
(nx36 v1 v2 v3 v4 (v5 + (nI 1)) M3)
else
(fX9_weigh_b96 nx25 nx36 v1 v4 v5 M3)))
set_option maxHeartbeats 4000000 in
set_option maxRecDepth 100000 in
theorem vX9_weigh_b73 {G : Rg} {X : Ct} {r : Int32} {Mf : Mm}  {nx25 : Int32 → Int32 → Int32 → Int32 → Mm → Option (Int32 × Mm)} {nx36 : Int32 → Int32 → Int32 → Int32 → Int32 → Mm → Option (Int32 × Mm)} (C : cxX9_weigh G X) (hG : gS G = shM)  (hx25 : ∀ (v1 : Int32) (v2 : Int32) (v3 : Int32) (v4 : Int32) (M : Mm), nx25 v1 v2 v3 v4 M = some (r, Mf) → V G X 7 (some (.int r)) Mf 25 [(0, .ref (gA G 0)), (1, .int v1), (2, .int v2), (3, .int v3), (4, .int v4)] [] M) (hx36 : ∀ (v1 : Int32) (v2 : Int32) (v3 : Int32) (v4 : Int32) (v5 : Int32) (M : Mm), nx36 v1 v2 v3 v4 v5 M = some (r, Mf) → V G X 7 (some (.int r)) Mf 36 [(0, .ref (gA G 0)), (1, .int v1), (2, .int v2), (3, .int v3), (4, .int v4), (5, .int v5)] [] M) (v1 : Int32) (v2 : Int32) (v3 : Int32) (v4 : Int32) (v5 : Int32) (s0 : Int32) (M : Mm) (hf : fX9_weigh_b73 nx25 nx36 v1 v2 v3 v4 v5 s0 M = some (r, Mf)) : V G X 7 (some (.int r)) Mf 73 [(0, .ref (gA G 0)), (1, .int v1), (2, .int v2), (3, .int v3), (4, .int v4), (5, .int v5)] [.int s0] M := by
  rw [fX9_weigh_b73] at hf
  refine V.istore (pc := 73) (lv' := [(6, .int s0), (0, .ref (gA G 0)), (1, .int v1), (2, .int v2), (3, .int v3), (4, .int v4), (5, .int v5)]) C (by decide) rfl dX9_weigh_73 ?_
  refine V.iload (pc := 75) C 0 rfl dX9_weigh_75 ?_
  rcases it_some hf with ⟨h1, hf⟩ | ⟨h1, hf⟩
  · refine V.if_eqT (pc := 77) C 114 h1 (by decide) dX9_weigh_77 ?_
    refine V.iinc (pc := 114) (lv' := [(5, .int (v5 + (nI 1))), (6, .int s0), (0, .ref (gA G 0)), (1, .int v1), (2, .int v2), (3, .int v3), (4, .int v4)]) C (v5 + (nI 1)) 6 rfl rfl (by decide) rfl dX9_weigh_114 ?_
    refine V.goto (pc := 117) C 36 (by decide) dX9_weigh_117 ?_
    refine V.sub C [2, 3, 4, 5, 6, 0] (lv' := [(0, .ref (gA G 0)), (1, .int v1), (2, .int v2), (3, .int v3), (4, .int v4), (5, .int (v5 + (nI 1)))]) rfl ?_
    exact hx36 _ _ _ _ _ _ hf
  · refine V.if_eqF (pc := 77) C 114 h1 (by decide) dX9_weigh_77 ?_
    refine V.iload_n (pc := 80) C 3 rfl dX9_weigh_80 ?_
    rcases it_some hf with ⟨h2, hf⟩ | ⟨h2, hf⟩
    · refine V.if_ltT (pc := 81) C 96 h2 (by decide) dX9_weigh_81 ?_
      refine V.sub C [1, 2, 5, 6] (lv' := [(0, .ref (gA G 0)), (1, .int v1), (4, .int v4), (5, .int v5)]) rfl ?_
      exact vX9_weigh_b96 C hG  hx25 hx36  _ _ _ _ hf
    · refine V.if_ltF (pc := 81) C 96 h2 (by decide) dX9_weigh_81 ?_
      refine V.aload_n (pc := 84) C 1 rfl dX9_weigh_84 ?_
      refine V.iload (pc := 85) C 5 rfl dX9_weigh_85 ?_
      refine V.iload (pc := 87) C 6 rfl dX9_weigh_87 ?_
      obtain ⟨r3, M3, h3, hf⟩ := bd_some hf
      refine V.callVi (pc := 89) (As := [.int v4, .int v5]) (rest := []) C (mX9_mostLeft X.2.1 hG  h3) mf_X9_mostLeft clX9 (sm_0 hG) wM_X9_252 rfl rfl ⟨by decide, by decide⟩ (Nat.le_of_ble_eq_true rfl) dX9_weigh_89 ?_
      refine V.iload_n (pc := 92) C 4 rfl dX9_weigh_92 ?_
      rcases it_some hf with ⟨h4, hf⟩ | ⟨h4, hf⟩
      · refine V.ic_geT (pc := 93) C 114 h4 (by decide) dX9_weigh_93 ?_
        refine V.iinc (pc := 114) (lv' := [(5, .int (v5 + (nI 1))), (6, .int s0), (0, .ref (gA G 0)), (1, .int v1), (2, .int v2), (3, .int v3), (4, .int v4)]) C (v5 + (nI 1)) 6 rfl rfl (by decide) rfl dX9_weigh_114 ?_
        refine V.goto (pc := 117) C 36 (by decide) dX9_weigh_117 ?_
        refine V.sub C [2, 3, 4, 5, 6, 0] (lv' := [(0, .ref (gA G 0)), (1, .int v1), (2, .int v2), (3, .int v3), (4, .int v4), (5, .int (v5 + (nI 1)))]) rfl ?_
        exact hx36 _ _ _ _ _ _ hf
      · refine V.ic_geF (pc := 93) C 114 h4 (by decide) dX9_weigh_93 ?_
        refine V.sub C [1, 2, 5, 6] (lv' := [(0, .ref (gA G 0)), (1, .int v1), (4, .int v4), (5, .int v5)]) rfl ?_
        exact vX9_weigh_b96 C hG  hx25 hx36  _ _ _ _ hf
def fX9_weigh_b72 (nx25 : Int32 → Int32 → Int32 → Int32 → Mm → Option (Int32 × Mm)) (nx36 : Int32 → Int32 → Int32 → Int32 → Int32 → Mm → Option (Int32 × Mm))  (v1 : Int32) (v2 : Int32) (v3 : Int32) (v4 : Int32) (v5 : Int32) (M : Mm) : Option (Int32 × Mm) :=
fX9_weigh_b73 nx25 nx36 v1 v2 v3 v4 v5 (nI 0) M
set_option maxHeartbeats 4000000 in
set_option maxRecDepth 100000 in
theorem vX9_weigh_b72 {G : Rg} {X : Ct} {r : Int32} {Mf : Mm}  {nx25 : Int32 → Int32 → Int32 → Int32 → Mm → Option (Int32 × Mm)} {nx36 : Int32 → Int32 → Int32 → Int32 → Int32 → Mm → Option (Int32 × Mm)} (C : cxX9_weigh G X) (hG : gS G = shM)  (hx25 : ∀ (v1 : Int32) (v2 : Int32) (v3 : Int32) (v4 : Int32) (M : Mm), nx25 v1 v2 v3 v4 M = some (r, Mf) → V G X 7 (some (.int r)) Mf 25 [(0, .ref (gA G 0)), (1, .int v1), (2, .int v2), (3, .int v3), (4, .int v4)] [] M) (hx36 : ∀ (v1 : Int32) (v2 : Int32) (v3 : Int32) (v4 : Int32) (v5 : Int32) (M : Mm), nx36 v1 v2 v3 v4 v5 M = some (r, Mf) → V G X 7 (some (.int r)) Mf 36 [(0, .ref (gA G 0)), (1, .int v1), (2, .int v2), (3, .int v3), (4, .int v4), (5, .int v5)] [] M) (v1 : Int32) (v2 : Int32) (v3 : Int32) (v4 : Int32) (v5 : Int32) (M : Mm) (hf : fX9_weigh_b72 nx25 nx36 v1 v2 v3 v4 v5 M = some (r, Mf)) : V G X 7 (some (.int r)) Mf 72 [(0, .ref (gA G 0)), (1, .int v1), (2, .int v2), (3, .int v3), (4, .int v4), (5, .int v5)] [] M := by
  rw [fX9_weigh_b72] at hf
  refine V.iconst (pc := 72) C (nI 0) (by decide) dX9_weigh_72 ?_
  exact vX9_weigh_b73 C hG  hx25 hx36  _ _ _ _ _ _ _ hf
def fX9_weigh_b36 (nx25 : Int32 → Int32 → Int32 → Int32 → Mm → Option (Int32 × Mm))  : Nat → Int32 → Int32 → Int32 → Int32 → Int32 → Mm → Option (Int32 × Mm)
  | 0, _, _, _, _, _, _ => none
  | n + 1, v1, v2, v3, v4, v5, M =>
    if (nI 12) ≤ v5 then
    (nx25 v1 v2 v3 (v4 + (nI 1)) M)
    else
    (if (M.1 0 27) ≤ (nI 0) then
    (fX9_weigh_b72 nx25 (fX9_weigh_b36 nx25 n) v1 v2 v3 v4 v5 M)
    else
    (bd (fX9_isOfficer v4 M) fun r3 M3 =>
    if r3 = (nI 0) then
    (fX9_weigh_b72 nx25 (fX9_weigh_b36 nx25 n) v1 v2 v3 v4 v5 M3)
    else
    (bd (fX9_isOfficer v5 M3) fun r5 M5 =>
    if r5 = (nI 0) then
    (fX9_weigh_b72 nx25 (fX9_weigh_b36 nx25 n) v1 v2 v3 v4 v5 M5)
    else
    (fX9_weigh_b73 nx25 (fX9_weigh_b36 nx25 n) v1 v2 v3 v4 v5 (nI 1) M5))))
set_option maxHeartbeats 4000000 in
set_option maxRecDepth 100000 in
theorem vX9_weigh_b36 {G : Rg} {X : Ct} {r : Int32} {Mf : Mm}  {nx25 : Int32 → Int32 → Int32 → Int32 → Mm → Option (Int32 × Mm)} (C : cxX9_weigh G X) (hG : gS G = shM)  (hx25 : ∀ (v1 : Int32) (v2 : Int32) (v3 : Int32) (v4 : Int32) (M : Mm), nx25 v1 v2 v3 v4 M = some (r, Mf) → V G X 7 (some (.int r)) Mf 25 [(0, .ref (gA G 0)), (1, .int v1), (2, .int v2), (3, .int v3), (4, .int v4)] [] M) : ∀ (n : Nat) (v1 : Int32) (v2 : Int32) (v3 : Int32) (v4 : Int32) (v5 : Int32) (M : Mm), fX9_weigh_b36 nx25 n v1 v2 v3 v4 v5 M = some (r, Mf) → V G X 7 (some (.int r)) Mf 36 [(0, .ref (gA G 0)), (1, .int v1), (2, .int v2), (3, .int v3), (4, .int v4), (5, .int v5)] [] M := by
  intro n
  induction n with
  | zero => intro v1 v2 v3 v4 v5 M hf; rw [fX9_weigh_b36] at hf; cases hf
  | succ n ih =>
    intro v1 v2 v3 v4 v5 M hf
    rw [fX9_weigh_b36] at hf
    refine V.iload (pc := 36) C 5 rfl dX9_weigh_36 ?_
    refine V.bipush (pc := 38) C (nI 12) (by decide) dX9_weigh_38 ?_
    rcases it_some hf with ⟨h1, hf⟩ | ⟨h1, hf⟩
    · refine V.ic_geT (pc := 40) C 120 h1 (by decide) dX9_weigh_40 ?_
      refine V.iinc (pc := 120) (lv' := [(4, .int (v4 + (nI 1))), (0, .ref (gA G 0)), (1, .int v1), (2, .int v2), (3, .int v3), (5, .int v5)]) C (v4 + (nI 1)) 4 rfl rfl (by decide) rfl dX9_weigh_120 ?_
      refine V.goto (pc := 123) C 25 (by decide) dX9_weigh_123 ?_
      refine V.sub C [1, 2, 3, 4, 0] (lv' := [(0, .ref (gA G 0)), (1, .int v1), (2, .int v2), (3, .int v3), (4, .int (v4 + (nI 1)))]) rfl ?_
      exact hx25 _ _ _ _ _ hf
    · refine V.ic_geF (pc := 40) C 120 h1 (by decide) dX9_weigh_40 ?_
      refine V.aload_n (pc := 43) C 0 rfl dX9_weigh_43 ?_
      refine V.getI (pc := 44) C clX9 inX9 (sm_0 hG) 27 (by decide) wF_X9_243 rfl dX9_weigh_44 ?_
      rcases it_some hf with ⟨h2, hf⟩ | ⟨h2, hf⟩
      · refine V.if_leT (pc := 47) C 72 h2 (by decide) dX9_weigh_47 ?_
        exact vX9_weigh_b72 C hG  hx25 ih  _ _ _ _ _ _ hf
      · refine V.if_leF (pc := 47) C 72 h2 (by decide) dX9_weigh_47 ?_
        refine V.aload_n (pc := 50) C 0 rfl dX9_weigh_50 ?_
        refine V.iload (pc := 51) C 4 rfl dX9_weigh_51 ?_
        obtain ⟨r3, M3, h3, hf⟩ := bd_some hf
        refine V.callVi (pc := 53) (As := [.int v4]) (rest := []) C (mX9_isOfficer X.2.1 hG  h3) mf_X9_isOfficer clX9 (sm_0 hG) wM_X9_86 rfl rfl ⟨by decide, by decide⟩ (Nat.le_of_ble_eq_true rfl) dX9_weigh_53 ?_
        rcases it_some hf with ⟨h4, hf⟩ | ⟨h4, hf⟩
        · refine V.if_eqT (pc := 56) C 72 h4 (by decide) dX9_weigh_56 ?_
          exact vX9_weigh_b72 C hG  hx25 ih  _ _ _ _ _ _ hf
        · refine V.if_eqF (pc := 56) C 72 h4 (by decide) dX9_weigh_56 ?_
          refine V.aload_n (pc := 59) C 0 rfl dX9_weigh_59 ?_
          refine V.iload (pc := 60) C 5 rfl dX9_weigh_60 ?_
          obtain ⟨r5, M5, h5, hf⟩ := bd_some hf
          refine V.callVi (pc := 62) (As := [.int v5]) (rest := []) C (mX9_isOfficer X.2.1 hG  h5) mf_X9_isOfficer clX9 (sm_0 hG) wM_X9_86 rfl rfl ⟨by decide, by decide⟩ (Nat.le_of_ble_eq_true rfl) dX9_weigh_62 ?_
          rcases it_some hf with ⟨h6, hf⟩ | ⟨h6, hf⟩
          · refine V.if_eqT (pc := 65) C 72 h6 (by decide) dX9_weigh_65 ?_
            exact vX9_weigh_b72 C hG  hx25 ih  _ _ _ _ _ _ hf
          · refine V.if_eqF (pc := 65) C 72 h6 (by decide) dX9_weigh_65 ?_
            refine V.iconst (pc := 68) C (nI 1) (by decide) dX9_weigh_68 ?_
            refine V.goto (pc := 69) C 73 (by decide) dX9_weigh_69 ?_
            exact vX9_weigh_b73 C hG  hx25 ih  _ _ _ _ _ _ _ hf
def fX9_weigh_b25   : Nat → Int32 → Int32 → Int32 → Int32 → Mm → Option (Int32 × Mm)
  | 0, _, _, _, _, _ => none
  | n + 1, v1, v2, v3, v4, M =>
    if (nI 6) ≤ v4 then
    (fX9_weigh_b126 v1 v2 v3 M)
    else
    (fX9_weigh_b36 (fX9_weigh_b25  n) fu v1 v2 v3 v4 (nI 6) M)
set_option maxHeartbeats 4000000 in
set_option maxRecDepth 100000 in
theorem vX9_weigh_b25 {G : Rg} {X : Ct} {r : Int32} {Mf : Mm}   (C : cxX9_weigh G X) (hG : gS G = shM)   : ∀ (n : Nat) (v1 : Int32) (v2 : Int32) (v3 : Int32) (v4 : Int32) (M : Mm), fX9_weigh_b25 n v1 v2 v3 v4 M = some (r, Mf) → V G X 7 (some (.int r)) Mf 25 [(0, .ref (gA G 0)), (1, .int v1), (2, .int v2), (3, .int v3), (4, .int v4)] [] M := by
  intro n
  induction n with
  | zero => intro v1 v2 v3 v4 M hf; rw [fX9_weigh_b25] at hf; cases hf
  | succ n ih =>
    intro v1 v2 v3 v4 M hf
    rw [fX9_weigh_b25] at hf
    refine V.iload (pc := 25) C 4 rfl dX9_weigh_25 ?_
    refine V.bipush (pc := 27) C (nI 6) (by decide) dX9_weigh_27 ?_
    rcases it_some hf with ⟨h1, hf⟩ | ⟨h1, hf⟩
    · refine V.ic_geT (pc := 29) C 126 h1 (by decide) dX9_weigh_29 ?_
      refine V.sub C [1, 2, 3] (lv' := [(1, .int v1), (2, .int v2), (3, .int v3)]) rfl ?_
      exact vX9_weigh_b126 C hG    _ _ _ _ hf
    · refine V.ic_geF (pc := 29) C 126 h1 (by decide) dX9_weigh_29 ?_
      refine V.bipush (pc := 32) C (nI 6) (by decide) dX9_weigh_32 ?_
      refine V.istore (pc := 34) (lv' := [(5, .int (nI 6)), (0, .ref (gA G 0)), (1, .int v1), (2, .int v2), (3, .int v3), (4, .int v4)]) C (by decide) rfl dX9_weigh_34 ?_
      refine V.sub C [1, 2, 3, 4, 5, 0] (lv' := [(0, .ref (gA G 0)), (1, .int v1), (2, .int v2), (3, .int v3), (4, .int v4), (5, .int (nI 6))]) rfl ?_
      exact vX9_weigh_b36 C hG  ih fu _ _ _ _ _ _ hf
def fX9_weigh (x1 : Int32) (M : Mm) : Option (Int32 × Mm) :=
bd (fX9_in x1.toInt64 (lN 0) (lN 1) M) fun r1 M1 =>
if r1 = (nI 0) then
(some ((mI 2), M1))
else
(bd (fX9_findWorlds M1) fun _ M3 =>
fX9_weigh_b25 fu x1 (mI 6) (nI 0) (nI 0) M3)
set_option maxHeartbeats 4000000 in
set_option maxRecDepth 100000 in
theorem mX9_weigh (l : Launch) {G : Rg} (hG : gS G = shM) {x1 : Int32}  {M Mf : Mm} {r : Int32} (hf : fX9_weigh x1 M = some (r, Mf)) : Mt l G yX9_weigh cX9_weigh 7 (some .int) 5 114 [.ref (gA G 0), .int x1] M (some (.int r)) Mf := by
  refine Mt.of (by decide) (Nat.le_of_ble_eq_true rfl) ?_
  intro X C hX
  subst hX
  have C : cxX9_weigh G X := C
  show V G X 7 (some (.int r)) Mf 0 [(0, .ref (gA G 0)), (1, .int x1)] [] M
  rw [fX9_weigh] at hf
  refine V.iload_n (pc := 0) C 1 rfl dX9_weigh_0 ?_
  refine V.i2l (pc := 1) C dX9_weigh_1 ?_
  refine V.lconst (pc := 2) C (lN 0) (by decide) dX9_weigh_2 ?_
  refine V.lconst (pc := 3) C (lN 1) (by decide) dX9_weigh_3 ?_
  obtain ⟨r1, M1, h1, hf⟩ := bd_some hf
  refine V.callSi (pc := 4) (As := [.long x1.toInt64, .long (lN 0), .long (lN 1)]) (rest := []) C (mX9_in X.2.1 hG  h1) mf_X9_in wM_X9_69 rfl rfl ⟨by decide, by decide⟩ (Nat.le_of_ble_eq_true rfl) dX9_weigh_4 ?_
  rcases it_some hf with ⟨h2, hf⟩ | ⟨h2, hf⟩
  · refine V.if_neF (pc := 7) C 13 h2 (by decide) dX9_weigh_7 ?_
    refine V.bipush (pc := 10) C (mI 2) (by decide) dX9_weigh_10 ?_
    exact V.retI (pc := 12) C hf dX9_weigh_12
  · refine V.if_neT (pc := 7) C 13 h2 (by decide) dX9_weigh_7 ?_
    refine V.aload_n (pc := 13) C 0 rfl dX9_weigh_13 ?_
    obtain ⟨_, M3, h3, hf⟩ := bd_some hf
    refine V.callVv (pc := 14) (As := []) (rest := []) C (mX9_findWorlds X.2.1 hG  h3) mf_X9_findWorlds clX9 (sm_0 hG) wM_X9_249 rfl rfl ⟨by decide, by decide⟩ (Nat.le_of_ble_eq_true rfl) dX9_weigh_14 ?_
    refine V.bipush (pc := 17) C (mI 6) (by decide) dX9_weigh_17 ?_
    refine V.istore_n (pc := 19) (lv' := [(2, .int (mI 6)), (0, .ref (gA G 0)), (1, .int x1)]) C (by decide) rfl dX9_weigh_19 ?_
    refine V.iconst (pc := 20) C (nI 0) (by decide) dX9_weigh_20 ?_
    refine V.istore_n (pc := 21) (lv' := [(3, .int (nI 0)), (2, .int (mI 6)), (0, .ref (gA G 0)), (1, .int x1)]) C (by decide) rfl dX9_weigh_21 ?_
    refine V.iconst (pc := 22) C (nI 0) (by decide) dX9_weigh_22 ?_
    refine V.istore (pc := 23) (lv' := [(4, .int (nI 0)), (3, .int (nI 0)), (2, .int (mI 6)), (0, .ref (gA G 0)), (1, .int x1)]) C (by decide) rfl dX9_weigh_23 ?_
    refine V.sub C [3, 4, 2, 1, 0] (lv' := [(0, .ref (gA G 0)), (1, .int x1), (2, .int (mI 6)), (3, .int (nI 0)), (4, .int (nI 0))]) rfl ?_
    exact vX9_weigh_b25 C hG   fu _ _ _ _ _ hf
theorem dX9_outOf_0 : decode cX9_outOf 0 = .ok (.iconst 0, 1) := by decide +kernel
theorem dX9_outOf_1 : decode cX9_outOf 1 = .ok (.istore_n 3, 1) := by decide +kernel
theorem dX9_outOf_2 : decode cX9_outOf 2 = .ok (.iload_n 1, 1) := by decide +kernel
theorem dX9_outOf_3 : decode cX9_outOf 3 = .ok (.istore 4, 2) := by decide +kernel
theorem dX9_outOf_5 : decode cX9_outOf 5 = .ok (.iload 4, 2) := by decide +kernel
theorem dX9_outOf_7 : decode cX9_outOf 7 = .ok (.iload_n 2, 1) := by decide +kernel
theorem dX9_outOf_8 : decode cX9_outOf 8 = .ok (.if_icmp .ge 26, 3) := by decide +kernel
theorem dX9_outOf_11 : decode cX9_outOf 11 = .ok (.iload_n 3, 1) := by decide +kernel
theorem dX9_outOf_12 : decode cX9_outOf 12 = .ok (.aload_n 0, 1) := by decide +kernel
theorem dX9_outOf_13 : decode cX9_outOf 13 = .ok (.iload 4, 2) := by decide +kernel
theorem dX9_outOf_15 : decode cX9_outOf 15 = .ok (.invokevirtual 137, 3) := by decide +kernel
theorem dX9_outOf_18 : decode cX9_outOf 18 = .ok (.ifCond .eq 7, 3) := by decide +kernel
theorem dX9_outOf_21 : decode cX9_outOf 21 = .ok (.iconst 1, 1) := by decide +kernel
theorem dX9_outOf_22 : decode cX9_outOf 22 = .ok (.goto 4, 3) := by decide +kernel
theorem dX9_outOf_25 : decode cX9_outOf 25 = .ok (.iconst 0, 1) := by decide +kernel
theorem dX9_outOf_26 : decode cX9_outOf 26 = .ok (.iadd, 1) := by decide +kernel
theorem dX9_outOf_27 : decode cX9_outOf 27 = .ok (.istore_n 3, 1) := by decide +kernel
theorem dX9_outOf_28 : decode cX9_outOf 28 = .ok (.iinc 4 1, 3) := by decide +kernel
theorem dX9_outOf_31 : decode cX9_outOf 31 = .ok (.goto (-26), 3) := by decide +kernel
theorem dX9_outOf_34 : decode cX9_outOf 34 = .ok (.iload_n 3, 1) := by decide +kernel
theorem dX9_outOf_35 : decode cX9_outOf 35 = .ok (.ireturn, 1) := by decide +kernel
abbrev cxX9_outOf (G : Rg) (X : Ct) : Prop := Cx G X cX9_outOf 5 RX9 (some .int) 3 67 (Cond.code yX9_outOf cX9_outOf 5 (some .int))
def fX9_outOf_b5   : Nat → Int32 → Int32 → Int32 → Mm → Option (Int32 × Mm)
  | 0, _, _, _, _ => none
  | n + 1, v2, v3, v4, M =>
    if v2 ≤ v4 then
    (some (v3, M))
    else
    (bd (fX9_isOut v4 M) fun r2 M2 =>
    if r2 = (nI 0) then
    (fX9_outOf_b5  n v2 (v3 + (nI 0)) (v4 + (nI 1)) M2)
    else
    (fX9_outOf_b5  n v2 (v3 + (nI 1)) (v4 + (nI 1)) M2))
set_option maxHeartbeats 4000000 in
set_option maxRecDepth 100000 in
theorem vX9_outOf_b5 {G : Rg} {X : Ct} {r : Int32} {Mf : Mm}   (C : cxX9_outOf G X) (hG : gS G = shM)   : ∀ (n : Nat) (v2 : Int32) (v3 : Int32) (v4 : Int32) (M : Mm), fX9_outOf_b5 n v2 v3 v4 M = some (r, Mf) → V G X 5 (some (.int r)) Mf 5 [(0, .ref (gA G 0)), (2, .int v2), (3, .int v3), (4, .int v4)] [] M := by
  intro n
  induction n with
  | zero => intro v2 v3 v4 M hf; rw [fX9_outOf_b5] at hf; cases hf
  | succ n ih =>
    intro v2 v3 v4 M hf
    rw [fX9_outOf_b5] at hf
    refine V.iload (pc := 5) C 3 rfl dX9_outOf_5 ?_
    refine V.iload_n (pc := 7) C 1 rfl dX9_outOf_7 ?_
    rcases it_some hf with ⟨h1, hf⟩ | ⟨h1, hf⟩
    · refine V.ic_geT (pc := 8) C 34 h1 (by decide) dX9_outOf_8 ?_
      refine V.iload_n (pc := 34) C 2 rfl dX9_outOf_34 ?_
      exact V.retI (pc := 35) C hf dX9_outOf_35
    · refine V.ic_geF (pc := 8) C 34 h1 (by decide) dX9_outOf_8 ?_
      refine V.iload_n (pc := 11) C 2 rfl dX9_outOf_11 ?_
      refine V.aload_n (pc := 12) C 0 rfl dX9_outOf_12 ?_
      refine V.iload (pc := 13) C 3 rfl dX9_outOf_13 ?_
      obtain ⟨r2, M2, h2, hf⟩ := bd_some hf
      refine V.callVi (pc := 15) (As := [.int v4]) (rest := [.int v3]) C (mX9_isOut X.2.1 hG  h2) mf_X9_isOut clX9 (sm_0 hG) wM_X9_137 rfl rfl ⟨by decide, by decide⟩ (Nat.le_of_ble_eq_true rfl) dX9_outOf_15 ?_
      rcases it_some hf with ⟨h3, hf⟩ | ⟨h3, hf⟩
      · refine V.if_eqT (pc := 18) C 25 h3 (by decide) dX9_outOf_18 ?_
        refine V.iconst (pc := 25) C (nI 0) (by decide) dX9_outOf_25 ?_
        refine V.iadd (pc := 26) C dX9_outOf_26 ?_
        refine V.istore_n (pc := 27) (lv' := [(3, .int (v3 + (nI 0))), (0, .ref (gA G 0)), (2, .int v2), (4, .int v4)]) C (by decide) rfl dX9_outOf_27 ?_
        refine V.iinc (pc := 28) (lv' := [(4, .int (v4 + (nI 1))), (3, .int (v3 + (nI 0))), (0, .ref (gA G 0)), (2, .int v2)]) C (v4 + (nI 1)) 3 rfl rfl (by decide) rfl dX9_outOf_28 ?_
        refine V.goto (pc := 31) C 5 (by decide) dX9_outOf_31 ?_
        refine V.sub C [2, 3, 1, 0] (lv' := [(0, .ref (gA G 0)), (2, .int v2), (3, .int (v3 + (nI 0))), (4, .int (v4 + (nI 1)))]) rfl ?_
        exact ih _ _ _ _ hf
      · refine V.if_eqF (pc := 18) C 25 h3 (by decide) dX9_outOf_18 ?_
        refine V.iconst (pc := 21) C (nI 1) (by decide) dX9_outOf_21 ?_
        refine V.goto (pc := 22) C 26 (by decide) dX9_outOf_22 ?_
        refine V.iadd (pc := 26) C dX9_outOf_26 ?_
        refine V.istore_n (pc := 27) (lv' := [(3, .int (v3 + (nI 1))), (0, .ref (gA G 0)), (2, .int v2), (4, .int v4)]) C (by decide) rfl dX9_outOf_27 ?_
        refine V.iinc (pc := 28) (lv' := [(4, .int (v4 + (nI 1))), (3, .int (v3 + (nI 1))), (0, .ref (gA G 0)), (2, .int v2)]) C (v4 + (nI 1)) 3 rfl rfl (by decide) rfl dX9_outOf_28 ?_
        refine V.goto (pc := 31) C 5 (by decide) dX9_outOf_31 ?_
        refine V.sub C [2, 3, 1, 0] (lv' := [(0, .ref (gA G 0)), (2, .int v2), (3, .int (v3 + (nI 1))), (4, .int (v4 + (nI 1)))]) rfl ?_
        exact ih _ _ _ _ hf
def fX9_outOf (x1 : Int32) (x2 : Int32) (M : Mm) : Option (Int32 × Mm) :=
fX9_outOf_b5 fu x2 (nI 0) x1 M
set_option maxHeartbeats 4000000 in
set_option maxRecDepth 100000 in
theorem mX9_outOf (l : Launch) {G : Rg} (hG : gS G = shM) {x1 : Int32} {x2 : Int32}  {M Mf : Mm} {r : Int32} (hf : fX9_outOf x1 x2 M = some (r, Mf)) : Mt l G yX9_outOf cX9_outOf 5 (some .int) 3 67 [.ref (gA G 0), .int x1, .int x2] M (some (.int r)) Mf := by
  refine Mt.of (by decide) (Nat.le_of_ble_eq_true rfl) ?_
  intro X C hX
  subst hX
  have C : cxX9_outOf G X := C
  show V G X 5 (some (.int r)) Mf 0 [(0, .ref (gA G 0)), (1, .int x1), (2, .int x2)] [] M
  rw [fX9_outOf] at hf
  refine V.iconst (pc := 0) C (nI 0) (by decide) dX9_outOf_0 ?_
  refine V.istore_n (pc := 1) (lv' := [(3, .int (nI 0)), (0, .ref (gA G 0)), (1, .int x1), (2, .int x2)]) C (by decide) rfl dX9_outOf_1 ?_
  refine V.iload_n (pc := 2) C 2 rfl dX9_outOf_2 ?_
  refine V.istore (pc := 3) (lv' := [(4, .int x1), (3, .int (nI 0)), (0, .ref (gA G 0)), (1, .int x1), (2, .int x2)]) C (by decide) rfl dX9_outOf_3 ?_
  refine V.sub C [2, 4, 1, 0] (lv' := [(0, .ref (gA G 0)), (2, .int x2), (3, .int (nI 0)), (4, .int x1)]) rfl ?_
  exact vX9_outOf_b5 C hG   fu _ _ _ _ hf
theorem dX9_lowest_0 : decode cX9_lowest 0 = .ok (.lload_n 2, 1) := by decide +kernel
theorem dX9_lowest_1 : decode cX9_lowest 1 = .ok (.lstore 5, 2) := by decide +kernel
theorem dX9_lowest_3 : decode cX9_lowest 3 = .ok (.lload_n 0, 1) := by decide +kernel
theorem dX9_lowest_4 : decode cX9_lowest 4 = .ok (.lstore 7, 2) := by decide +kernel
theorem dX9_lowest_6 : decode cX9_lowest 6 = .ok (.lload 7, 2) := by decide +kernel
theorem dX9_lowest_8 : decode cX9_lowest 8 = .ok (.lconst 0, 1) := by decide +kernel
theorem dX9_lowest_9 : decode cX9_lowest 9 = .ok (.lcmp, 1) := by decide +kernel
theorem dX9_lowest_10 : decode cX9_lowest 10 = .ok (.ifCond .eq 21, 3) := by decide +kernel
theorem dX9_lowest_13 : decode cX9_lowest 13 = .ok (.lload 5, 2) := by decide +kernel
theorem dX9_lowest_15 : decode cX9_lowest 15 = .ok (.lload 7, 2) := by decide +kernel
theorem dX9_lowest_17 : decode cX9_lowest 17 = .ok (.lrem, 1) := by decide +kernel
theorem dX9_lowest_18 : decode cX9_lowest 18 = .ok (.lstore 9, 2) := by decide +kernel
theorem dX9_lowest_20 : decode cX9_lowest 20 = .ok (.lload 7, 2) := by decide +kernel
theorem dX9_lowest_22 : decode cX9_lowest 22 = .ok (.lstore 5, 2) := by decide +kernel
theorem dX9_lowest_24 : decode cX9_lowest 24 = .ok (.lload 9, 2) := by decide +kernel
theorem dX9_lowest_26 : decode cX9_lowest 26 = .ok (.lstore 7, 2) := by decide +kernel
theorem dX9_lowest_28 : decode cX9_lowest 28 = .ok (.goto (-22), 3) := by decide +kernel
theorem dX9_lowest_31 : decode cX9_lowest 31 = .ok (.iload 4, 2) := by decide +kernel
theorem dX9_lowest_33 : decode cX9_lowest 33 = .ok (.ifCond .ne 10, 3) := by decide +kernel
theorem dX9_lowest_36 : decode cX9_lowest 36 = .ok (.lload_n 0, 1) := by decide +kernel
theorem dX9_lowest_37 : decode cX9_lowest 37 = .ok (.lload 5, 2) := by decide +kernel
theorem dX9_lowest_39 : decode cX9_lowest 39 = .ok (.ldiv, 1) := by decide +kernel
theorem dX9_lowest_40 : decode cX9_lowest 40 = .ok (.goto 7, 3) := by decide +kernel
theorem dX9_lowest_43 : decode cX9_lowest 43 = .ok (.lload_n 2, 1) := by decide +kernel
theorem dX9_lowest_44 : decode cX9_lowest 44 = .ok (.lload 5, 2) := by decide +kernel
theorem dX9_lowest_46 : decode cX9_lowest 46 = .ok (.ldiv, 1) := by decide +kernel
theorem dX9_lowest_47 : decode cX9_lowest 47 = .ok (.lreturn, 1) := by decide +kernel
abbrev cxX9_lowest (G : Rg) (X : Ct) : Prop := Cx G X cX9_lowest 11 RX9 (some .long) 0 0 (Cond.code yX9_lowest cX9_lowest 11 (some .long))
def fX9_lowest_b31   (v0 : Int64) (v2 : Int64) (v4 : Int32) (v5 : Int64) (M : Mm) : Option (Int64 × Mm) :=
if v4 = (nI 0) then
(gd (decide (¬ v5 = lN 0)) (
some ((v0 / v5), M)))
else
(gd (decide (¬ v5 = lN 0)) (
some ((v2 / v5), M)))
set_option maxHeartbeats 4000000 in
set_option maxRecDepth 100000 in
theorem vX9_lowest_b31 {G : Rg} {X : Ct} {r : Int64} {Mf : Mm}   (C : cxX9_lowest G X) (hG : gS G = shM)   (v0 : Int64) (v2 : Int64) (v4 : Int32) (v5 : Int64) (M : Mm) (hf : fX9_lowest_b31 v0 v2 v4 v5 M = some (r, Mf)) : V G X 11 (some (.long r)) Mf 31 [(0, .long v0), (2, .long v2), (4, .int v4), (5, .long v5)] [] M := by
  rw [fX9_lowest_b31] at hf
  refine V.iload (pc := 31) C 2 rfl dX9_lowest_31 ?_
  rcases it_some hf with ⟨h1, hf⟩ | ⟨h1, hf⟩
  · refine V.if_neF (pc := 33) C 43 h1 (by decide) dX9_lowest_33 ?_
    refine V.lload_n (pc := 36) C 0 rfl dX9_lowest_36 ?_
    refine V.lload (pc := 37) C 3 rfl dX9_lowest_37 ?_
    obtain ⟨g3, hf⟩ := gd_some hf
    refine V.ldiv (pc := 39) C (dec_some g3) dX9_lowest_39 ?_
    refine V.goto (pc := 40) C 47 (by decide) dX9_lowest_40 ?_
    exact V.retL (pc := 47) C hf dX9_lowest_47
  · refine V.if_neT (pc := 33) C 43 h1 (by decide) dX9_lowest_33 ?_
    refine V.lload_n (pc := 43) C 1 rfl dX9_lowest_43 ?_
    refine V.lload (pc := 44) C 3 rfl dX9_lowest_44 ?_
    obtain ⟨g2, hf⟩ := gd_some hf
    refine V.ldiv (pc := 46) C (dec_some g2) dX9_lowest_46 ?_
    exact V.retL (pc := 47) C hf dX9_lowest_47
def fX9_lowest_b6   : Nat → Int64 → Int64 → Int32 → Int64 → Int64 → Mm → Option (Int64 × Mm)
  | 0, _, _, _, _, _, _ => none
  | n + 1, v0, v2, v4, v5, v7, M =>
    if (lg_cmp v7 (lN 0)) = (nI 0) then
    (fX9_lowest_b31 v0 v2 v4 v5 M)
    else
    (gd (decide (¬ v7 = lN 0)) (
    fX9_lowest_b6  n v0 v2 v4 v7 (jlrem v5 v7) M))
set_option maxHeartbeats 4000000 in
set_option maxRecDepth 100000 in
theorem vX9_lowest_b6 {G : Rg} {X : Ct} {r : Int64} {Mf : Mm}   (C : cxX9_lowest G X) (hG : gS G = shM)   : ∀ (n : Nat) (v0 : Int64) (v2 : Int64) (v4 : Int32) (v5 : Int64) (v7 : Int64) (M : Mm), fX9_lowest_b6 n v0 v2 v4 v5 v7 M = some (r, Mf) → V G X 11 (some (.long r)) Mf 6 [(0, .long v0), (2, .long v2), (4, .int v4), (5, .long v5), (7, .long v7)] [] M := by
  intro n
  induction n with
  | zero => intro v0 v2 v4 v5 v7 M hf; rw [fX9_lowest_b6] at hf; cases hf
  | succ n ih =>
    intro v0 v2 v4 v5 v7 M hf
    rw [fX9_lowest_b6] at hf
    refine V.lload (pc := 6) C 4 rfl dX9_lowest_6 ?_
    refine V.lconst (pc := 8) C (lN 0) (by decide) dX9_lowest_8 ?_
    refine V.lcmp (pc := 9) C dX9_lowest_9 ?_
    rcases it_some hf with ⟨h1, hf⟩ | ⟨h1, hf⟩
    · refine V.if_eqT (pc := 10) C 31 h1 (by decide) dX9_lowest_10 ?_
      refine V.sub C [0, 1, 2, 3] (lv' := [(0, .long v0), (2, .long v2), (4, .int v4), (5, .long v5)]) rfl ?_
      exact vX9_lowest_b31 C hG    _ _ _ _ _ hf
    · refine V.if_eqF (pc := 10) C 31 h1 (by decide) dX9_lowest_10 ?_
      refine V.lload (pc := 13) C 3 rfl dX9_lowest_13 ?_
      refine V.lload (pc := 15) C 4 rfl dX9_lowest_15 ?_
      obtain ⟨g2, hf⟩ := gd_some hf
      refine V.lrem (pc := 17) C (dec_some g2) dX9_lowest_17 ?_
      refine V.lstore (pc := 18) (lv' := [(9, .long (jlrem v5 v7)), (0, .long v0), (2, .long v2), (4, .int v4), (5, .long v5), (7, .long v7)]) C (by decide) rfl dX9_lowest_18 ?_
      refine V.lload (pc := 20) C 5 rfl dX9_lowest_20 ?_
      refine V.lstore (pc := 22) (lv' := [(5, .long v7), (9, .long (jlrem v5 v7)), (0, .long v0), (2, .long v2), (4, .int v4), (7, .long v7)]) C (by decide) rfl dX9_lowest_22 ?_
      refine V.lload (pc := 24) C 1 rfl dX9_lowest_24 ?_
      refine V.lstore (pc := 26) (lv' := [(7, .long (jlrem v5 v7)), (5, .long v7), (9, .long (jlrem v5 v7)), (0, .long v0), (2, .long v2), (4, .int v4)]) C (by decide) rfl dX9_lowest_26 ?_
      refine V.goto (pc := 28) C 6 (by decide) dX9_lowest_28 ?_
      refine V.sub C [3, 4, 5, 1, 0] (lv' := [(0, .long v0), (2, .long v2), (4, .int v4), (5, .long v7), (7, .long (jlrem v5 v7))]) rfl ?_
      exact ih _ _ _ _ _ _ hf
def fX9_lowest (x0 : Int64) (x2 : Int64) (x4 : Int32) (M : Mm) : Option (Int64 × Mm) :=
fX9_lowest_b6 fu x0 x2 x4 x2 x0 M
set_option maxHeartbeats 4000000 in
set_option maxRecDepth 100000 in
theorem mX9_lowest (l : Launch) {G : Rg} (hG : gS G = shM) {x0 : Int64} {x2 : Int64} {x4 : Int32}  {M Mf : Mm} {r : Int64} (hf : fX9_lowest x0 x2 x4 M = some (r, Mf)) : Mt l G yX9_lowest cX9_lowest 11 (some .long) 0 0 [.long x0, .long x2, .int x4] M (some (.long r)) Mf := by
  refine Mt.of (by decide) (Nat.le_of_ble_eq_true rfl) ?_
  intro X C hX
  subst hX
  have C : cxX9_lowest G X := C
  show V G X 11 (some (.long r)) Mf 0 [(0, .long x0), (2, .long x2), (4, .int x4)] [] M
  rw [fX9_lowest] at hf
  refine V.lload_n (pc := 0) C 1 rfl dX9_lowest_0 ?_
  refine V.lstore (pc := 1) (lv' := [(5, .long x2), (0, .long x0), (2, .long x2), (4, .int x4)]) C (by decide) rfl dX9_lowest_1 ?_
  refine V.lload_n (pc := 3) C 1 rfl dX9_lowest_3 ?_
  refine V.lstore (pc := 4) (lv' := [(7, .long x0), (5, .long x2), (0, .long x0), (2, .long x2), (4, .int x4)]) C (by decide) rfl dX9_lowest_4 ?_
  refine V.sub C [2, 3, 4, 1, 0] (lv' := [(0, .long x0), (2, .long x2), (4, .int x4), (5, .long x2), (7, .long x0)]) rfl ?_
  exact vX9_lowest_b6 C hG   fu _ _ _ _ _ _ hf
theorem dX9_broken_0 : decode cX9_broken 0 = .ok (.iload_n 1, 1) := by decide +kernel
theorem dX9_broken_1 : decode cX9_broken 1 = .ok (.i2l, 1) := by decide +kernel
theorem dX9_broken_2 : decode cX9_broken 2 = .ok (.lconst 0, 1) := by decide +kernel
theorem dX9_broken_3 : decode cX9_broken 3 = .ok (.ldc2_w 255, 3) := by decide +kernel
theorem dX9_broken_6 : decode cX9_broken 6 = .ok (.invokestatic 69, 3) := by decide +kernel
theorem dX9_broken_9 : decode cX9_broken 9 = .ok (.ifCond .eq 27, 3) := by decide +kernel
theorem dX9_broken_12 : decode cX9_broken 12 = .ok (.iload_n 2, 1) := by decide +kernel
theorem dX9_broken_13 : decode cX9_broken 13 = .ok (.i2l, 1) := by decide +kernel
theorem dX9_broken_14 : decode cX9_broken 14 = .ok (.ldc2_w 257, 3) := by decide +kernel
theorem dX9_broken_17 : decode cX9_broken 17 = .ok (.ldc2_w 91, 3) := by decide +kernel
theorem dX9_broken_20 : decode cX9_broken 20 = .ok (.invokestatic 69, 3) := by decide +kernel
theorem dX9_broken_23 : decode cX9_broken 23 = .ok (.ifCond .eq 13, 3) := by decide +kernel
theorem dX9_broken_26 : decode cX9_broken 26 = .ok (.iload_n 3, 1) := by decide +kernel
theorem dX9_broken_27 : decode cX9_broken 27 = .ok (.i2l, 1) := by decide +kernel
theorem dX9_broken_28 : decode cX9_broken 28 = .ok (.lconst 0, 1) := by decide +kernel
theorem dX9_broken_29 : decode cX9_broken 29 = .ok (.lconst 1, 1) := by decide +kernel
theorem dX9_broken_30 : decode cX9_broken 30 = .ok (.invokestatic 69, 3) := by decide +kernel
theorem dX9_broken_33 : decode cX9_broken 33 = .ok (.ifCond .ne 7, 3) := by decide +kernel
theorem dX9_broken_36 : decode cX9_broken 36 = .ok (.ldc2_w 259, 3) := by decide +kernel
theorem dX9_broken_39 : decode cX9_broken 39 = .ok (.lreturn, 1) := by decide +kernel
theorem dX9_broken_40 : decode cX9_broken 40 = .ok (.aload_n 0, 1) := by decide +kernel
theorem dX9_broken_41 : decode cX9_broken 41 = .ok (.iconst 0, 1) := by decide +kernel
theorem dX9_broken_42 : decode cX9_broken 42 = .ok (.bipush 12, 2) := by decide +kernel
theorem dX9_broken_44 : decode cX9_broken 44 = .ok (.invokevirtual 261, 3) := by decide +kernel
theorem dX9_broken_47 : decode cX9_broken 47 = .ok (.istore 4, 2) := by decide +kernel
theorem dX9_broken_49 : decode cX9_broken 49 = .ok (.lconst 1, 1) := by decide +kernel
theorem dX9_broken_50 : decode cX9_broken 50 = .ok (.lstore 5, 2) := by decide +kernel
theorem dX9_broken_52 : decode cX9_broken 52 = .ok (.iconst 0, 1) := by decide +kernel
theorem dX9_broken_53 : decode cX9_broken 53 = .ok (.istore 7, 2) := by decide +kernel
theorem dX9_broken_55 : decode cX9_broken 55 = .ok (.iload 7, 2) := by decide +kernel
theorem dX9_broken_57 : decode cX9_broken 57 = .ok (.bipush 13, 2) := by decide +kernel
theorem dX9_broken_59 : decode cX9_broken 59 = .ok (.if_icmp .ge 26, 3) := by decide +kernel
theorem dX9_broken_62 : decode cX9_broken 62 = .ok (.aload_n 0, 1) := by decide +kernel
theorem dX9_broken_63 : decode cX9_broken 63 = .ok (.getfield 52, 3) := by decide +kernel
theorem dX9_broken_66 : decode cX9_broken 66 = .ok (.iload 7, 2) := by decide +kernel
theorem dX9_broken_68 : decode cX9_broken 68 = .ok (.iload 7, 2) := by decide +kernel
theorem dX9_broken_70 : decode cX9_broken 70 = .ok (.ifCond .ne 7, 3) := by decide +kernel
theorem dX9_broken_73 : decode cX9_broken 73 = .ok (.lconst 1, 1) := by decide +kernel
theorem dX9_broken_74 : decode cX9_broken 74 = .ok (.goto 4, 3) := by decide +kernel
theorem dX9_broken_77 : decode cX9_broken 77 = .ok (.lconst 0, 1) := by decide +kernel
theorem dX9_broken_78 : decode cX9_broken 78 = .ok (.lastore, 1) := by decide +kernel
theorem dX9_broken_79 : decode cX9_broken 79 = .ok (.iinc 7 1, 3) := by decide +kernel
theorem dX9_broken_82 : decode cX9_broken 82 = .ok (.goto (-27), 3) := by decide +kernel
theorem dX9_broken_85 : decode cX9_broken 85 = .ok (.iconst 0, 1) := by decide +kernel
theorem dX9_broken_86 : decode cX9_broken 86 = .ok (.istore 7, 2) := by decide +kernel
theorem dX9_broken_88 : decode cX9_broken 88 = .ok (.iload 7, 2) := by decide +kernel
theorem dX9_broken_90 : decode cX9_broken 90 = .ok (.iload 4, 2) := by decide +kernel
theorem dX9_broken_92 : decode cX9_broken 92 = .ok (.if_icmp .ge 74, 3) := by decide +kernel
theorem dX9_broken_95 : decode cX9_broken 95 = .ok (.bipush 12, 2) := by decide +kernel
theorem dX9_broken_97 : decode cX9_broken 97 = .ok (.istore 8, 2) := by decide +kernel
theorem dX9_broken_99 : decode cX9_broken 99 = .ok (.iload 8, 2) := by decide +kernel
theorem dX9_broken_101 : decode cX9_broken 101 = .ok (.ifCond .lt 51, 3) := by decide +kernel
theorem dX9_broken_104 : decode cX9_broken 104 = .ok (.aload_n 0, 1) := by decide +kernel
theorem dX9_broken_105 : decode cX9_broken 105 = .ok (.getfield 52, 3) := by decide +kernel
theorem dX9_broken_108 : decode cX9_broken 108 = .ok (.iload 8, 2) := by decide +kernel
theorem dX9_broken_110 : decode cX9_broken 110 = .ok (.aload_n 0, 1) := by decide +kernel
theorem dX9_broken_111 : decode cX9_broken 111 = .ok (.getfield 52, 3) := by decide +kernel
theorem dX9_broken_114 : decode cX9_broken 114 = .ok (.iload 8, 2) := by decide +kernel
theorem dX9_broken_116 : decode cX9_broken 116 = .ok (.laload, 1) := by decide +kernel
theorem dX9_broken_117 : decode cX9_broken 117 = .ok (.bipush 10, 2) := by decide +kernel
theorem dX9_broken_119 : decode cX9_broken 119 = .ok (.iload_n 1, 1) := by decide +kernel
theorem dX9_broken_120 : decode cX9_broken 120 = .ok (.isub, 1) := by decide +kernel
theorem dX9_broken_121 : decode cX9_broken 121 = .ok (.i2l, 1) := by decide +kernel
theorem dX9_broken_122 : decode cX9_broken 122 = .ok (.lmul, 1) := by decide +kernel
theorem dX9_broken_123 : decode cX9_broken 123 = .ok (.iload 8, 2) := by decide +kernel
theorem dX9_broken_125 : decode cX9_broken 125 = .ok (.ifCond .le 18, 3) := by decide +kernel
theorem dX9_broken_128 : decode cX9_broken 128 = .ok (.aload_n 0, 1) := by decide +kernel
theorem dX9_broken_129 : decode cX9_broken 129 = .ok (.getfield 52, 3) := by decide +kernel
theorem dX9_broken_132 : decode cX9_broken 132 = .ok (.iload 8, 2) := by decide +kernel
theorem dX9_broken_134 : decode cX9_broken 134 = .ok (.iconst 1, 1) := by decide +kernel
theorem dX9_broken_135 : decode cX9_broken 135 = .ok (.isub, 1) := by decide +kernel
theorem dX9_broken_136 : decode cX9_broken 136 = .ok (.laload, 1) := by decide +kernel
theorem dX9_broken_137 : decode cX9_broken 137 = .ok (.iload_n 1, 1) := by decide +kernel
theorem dX9_broken_138 : decode cX9_broken 138 = .ok (.i2l, 1) := by decide +kernel
theorem dX9_broken_139 : decode cX9_broken 139 = .ok (.lmul, 1) := by decide +kernel
theorem dX9_broken_140 : decode cX9_broken 140 = .ok (.goto 4, 3) := by decide +kernel
theorem dX9_broken_143 : decode cX9_broken 143 = .ok (.lconst 0, 1) := by decide +kernel
theorem dX9_broken_144 : decode cX9_broken 144 = .ok (.ladd, 1) := by decide +kernel
theorem dX9_broken_145 : decode cX9_broken 145 = .ok (.lastore, 1) := by decide +kernel
theorem dX9_broken_146 : decode cX9_broken 146 = .ok (.iinc 8 (-1), 3) := by decide +kernel
theorem dX9_broken_149 : decode cX9_broken 149 = .ok (.goto (-50), 3) := by decide +kernel
theorem dX9_broken_152 : decode cX9_broken 152 = .ok (.lload 5, 2) := by decide +kernel
theorem dX9_broken_154 : decode cX9_broken 154 = .ok (.ldc2_w 255, 3) := by decide +kernel
theorem dX9_broken_157 : decode cX9_broken 157 = .ok (.lmul, 1) := by decide +kernel
theorem dX9_broken_158 : decode cX9_broken 158 = .ok (.lstore 5, 2) := by decide +kernel
theorem dX9_broken_160 : decode cX9_broken 160 = .ok (.iinc 7 1, 3) := by decide +kernel
theorem dX9_broken_163 : decode cX9_broken 163 = .ok (.goto (-75), 3) := by decide +kernel
theorem dX9_broken_166 : decode cX9_broken 166 = .ok (.lconst 0, 1) := by decide +kernel
theorem dX9_broken_167 : decode cX9_broken 167 = .ok (.lstore 7, 2) := by decide +kernel
theorem dX9_broken_169 : decode cX9_broken 169 = .ok (.iconst 0, 1) := by decide +kernel
theorem dX9_broken_170 : decode cX9_broken 170 = .ok (.istore 9, 2) := by decide +kernel
theorem dX9_broken_172 : decode cX9_broken 172 = .ok (.iload 9, 2) := by decide +kernel
theorem dX9_broken_174 : decode cX9_broken 174 = .ok (.bipush 13, 2) := by decide +kernel
theorem dX9_broken_176 : decode cX9_broken 176 = .ok (.if_icmp .ge 71, 3) := by decide +kernel
theorem dX9_broken_179 : decode cX9_broken 179 = .ok (.aload_n 0, 1) := by decide +kernel
theorem dX9_broken_180 : decode cX9_broken 180 = .ok (.getfield 63, 3) := by decide +kernel
theorem dX9_broken_183 : decode cX9_broken 183 = .ok (.iload 9, 2) := by decide +kernel
theorem dX9_broken_185 : decode cX9_broken 185 = .ok (.if_icmp .le 13, 3) := by decide +kernel
theorem dX9_broken_188 : decode cX9_broken 188 = .ok (.aload_n 0, 1) := by decide +kernel
theorem dX9_broken_189 : decode cX9_broken 189 = .ok (.getfield 63, 3) := by decide +kernel
theorem dX9_broken_192 : decode cX9_broken 192 = .ok (.iload 9, 2) := by decide +kernel
theorem dX9_broken_194 : decode cX9_broken 194 = .ok (.isub, 1) := by decide +kernel
theorem dX9_broken_195 : decode cX9_broken 195 = .ok (.goto 4, 3) := by decide +kernel
theorem dX9_broken_198 : decode cX9_broken 198 = .ok (.iconst 0, 1) := by decide +kernel
theorem dX9_broken_199 : decode cX9_broken 199 = .ok (.istore 10, 2) := by decide +kernel
theorem dX9_broken_201 : decode cX9_broken 201 = .ok (.lload 7, 2) := by decide +kernel
theorem dX9_broken_203 : decode cX9_broken 203 = .ok (.iload_n 2, 1) := by decide +kernel
theorem dX9_broken_204 : decode cX9_broken 204 = .ok (.ifCond .ge 17, 3) := by decide +kernel
theorem dX9_broken_207 : decode cX9_broken 207 = .ok (.aload_n 0, 1) := by decide +kernel
theorem dX9_broken_208 : decode cX9_broken 208 = .ok (.getfield 52, 3) := by decide +kernel
theorem dX9_broken_211 : decode cX9_broken 211 = .ok (.iload 9, 2) := by decide +kernel
theorem dX9_broken_213 : decode cX9_broken 213 = .ok (.laload, 1) := by decide +kernel
theorem dX9_broken_214 : decode cX9_broken 214 = .ok (.iload 10, 2) := by decide +kernel
theorem dX9_broken_216 : decode cX9_broken 216 = .ok (.i2l, 1) := by decide +kernel
theorem dX9_broken_217 : decode cX9_broken 217 = .ok (.lmul, 1) := by decide +kernel
theorem dX9_broken_218 : decode cX9_broken 218 = .ok (.goto 20, 3) := by decide +kernel
theorem dX9_broken_221 : decode cX9_broken 221 = .ok (.iload 10, 2) := by decide +kernel
theorem dX9_broken_223 : decode cX9_broken 223 = .ok (.iload_n 2, 1) := by decide +kernel
theorem dX9_broken_224 : decode cX9_broken 224 = .ok (.if_icmp .lt 13, 3) := by decide +kernel
theorem dX9_broken_227 : decode cX9_broken 227 = .ok (.aload_n 0, 1) := by decide +kernel
theorem dX9_broken_228 : decode cX9_broken 228 = .ok (.getfield 52, 3) := by decide +kernel
theorem dX9_broken_231 : decode cX9_broken 231 = .ok (.iload 9, 2) := by decide +kernel
theorem dX9_broken_233 : decode cX9_broken 233 = .ok (.laload, 1) := by decide +kernel
theorem dX9_broken_234 : decode cX9_broken 234 = .ok (.goto 4, 3) := by decide +kernel
theorem dX9_broken_237 : decode cX9_broken 237 = .ok (.lconst 0, 1) := by decide +kernel
theorem dX9_broken_238 : decode cX9_broken 238 = .ok (.ladd, 1) := by decide +kernel
theorem dX9_broken_239 : decode cX9_broken 239 = .ok (.lstore 7, 2) := by decide +kernel
theorem dX9_broken_241 : decode cX9_broken 241 = .ok (.iinc 9 1, 3) := by decide +kernel
theorem dX9_broken_244 : decode cX9_broken 244 = .ok (.goto (-72), 3) := by decide +kernel
theorem dX9_broken_247 : decode cX9_broken 247 = .ok (.lload 7, 2) := by decide +kernel
theorem dX9_broken_249 : decode cX9_broken 249 = .ok (.lload 5, 2) := by decide +kernel
theorem dX9_broken_251 : decode cX9_broken 251 = .ok (.iload_n 3, 1) := by decide +kernel
theorem dX9_broken_252 : decode cX9_broken 252 = .ok (.invokestatic 264, 3) := by decide +kernel
theorem dX9_broken_255 : decode cX9_broken 255 = .ok (.lreturn, 1) := by decide +kernel
abbrev cxX9_broken (G : Rg) (X : Ct) : Prop := Cx G X cX9_broken 11 RX9 (some .long) 4 91 (Cond.code yX9_broken cX9_broken 11 (some .long))
def fX9_broken_b247   (v3 : Int32) (v5 : Int64) (v7 : Int64) (M : Mm) : Option (Int64 × Mm) :=
bd (fX9_lowest v7 v5 v3 M) fun r1 M1 =>
some (r1, M1)
set_option maxHeartbeats 4000000 in
set_option maxRecDepth 100000 in
theorem vX9_broken_b247 {G : Rg} {X : Ct} {r : Int64} {Mf : Mm}   (C : cxX9_broken G X) (hG : gS G = shM)   (v3 : Int32) (v5 : Int64) (v7 : Int64) (M : Mm) (hf : fX9_broken_b247 v3 v5 v7 M = some (r, Mf)) : V G X 11 (some (.long r)) Mf 247 [(3, .int v3), (5, .long v5), (7, .long v7)] [] M := by
  rw [fX9_broken_b247] at hf
  refine V.lload (pc := 247) C 2 rfl dX9_broken_247 ?_
  refine V.lload (pc := 249) C 1 rfl dX9_broken_249 ?_
  refine V.iload_n (pc := 251) C 0 rfl dX9_broken_251 ?_
  obtain ⟨r1, M1, h1, hf⟩ := bd_some hf
  refine V.callSl (pc := 252) (As := [.long v7, .long v5, .int v3]) (rest := []) C (mX9_lowest X.2.1 hG  h1) mf_X9_lowest wM_X9_264 rfl rfl ⟨by decide, by decide⟩ (Nat.le_of_ble_eq_true rfl) dX9_broken_252 ?_
  exact V.retL (pc := 255) C hf dX9_broken_255
def fX9_broken_b199 (nx172 : Int32 → Int32 → Int64 → Int64 → Int32 → Mm → Option (Int64 × Mm))  (v2 : Int32) (v3 : Int32) (v5 : Int64) (v7 : Int64) (v9 : Int32) (s0 : Int32) (M : Mm) : Option (Int64 × Mm) :=
if (nI 0) ≤ v2 then
(if s0 < v2 then
(nx172 v2 v3 v5 (v7 + (lN 0)) (v9 + (nI 1)) M)
else
(gd (inb v9 13) (
nx172 v2 v3 v5 (v7 + (M.2 15 v9.toNatClampNeg)) (v9 + (nI 1)) M)))
else
(gd (inb v9 13) (
nx172 v2 v3 v5 (v7 + ((M.2 15 v9.toNatClampNeg) * s0.toInt64)) (v9 + (nI 1)) M))
set_option maxHeartbeats 4000000 in
set_option maxRecDepth 100000 in
theorem vX9_broken_b199 {G : Rg} {X : Ct} {r : Int64} {Mf : Mm}  {nx172 : Int32 → Int32 → Int64 → Int64 → Int32 → Mm → Option (Int64 × Mm)} (C : cxX9_broken G X) (hG : gS G = shM)  (hx172 : ∀ (v2 : Int32) (v3 : Int32) (v5 : Int64) (v7 : Int64) (v9 : Int32) (M : Mm), nx172 v2 v3 v5 v7 v9 M = some (r, Mf) → V G X 11 (some (.long r)) Mf 172 [(0, .ref (gA G 0)), (2, .int v2), (3, .int v3), (5, .long v5), (7, .long v7), (9, .int v9)] [] M) (v2 : Int32) (v3 : Int32) (v5 : Int64) (v7 : Int64) (v9 : Int32) (s0 : Int32) (M : Mm) (hf : fX9_broken_b199 nx172 v2 v3 v5 v7 v9 s0 M = some (r, Mf)) : V G X 11 (some (.long r)) Mf 199 [(0, .ref (gA G 0)), (2, .int v2), (3, .int v3), (5, .long v5), (7, .long v7), (9, .int v9)] [.int s0] M := by
  rw [fX9_broken_b199] at hf
  refine V.istore (pc := 199) (lv' := [(10, .int s0), (0, .ref (gA G 0)), (2, .int v2), (3, .int v3), (5, .long v5), (7, .long v7), (9, .int v9)]) C (by decide) rfl dX9_broken_199 ?_
  refine V.lload (pc := 201) C 5 rfl dX9_broken_201 ?_
  refine V.iload_n (pc := 203) C 2 rfl dX9_broken_203 ?_
  rcases it_some hf with ⟨h1, hf⟩ | ⟨h1, hf⟩
  · refine V.if_geT (pc := 204) C 221 h1 (by decide) dX9_broken_204 ?_
    refine V.iload (pc := 221) C 0 rfl dX9_broken_221 ?_
    refine V.iload_n (pc := 223) C 2 rfl dX9_broken_223 ?_
    rcases it_some hf with ⟨h2, hf⟩ | ⟨h2, hf⟩
    · refine V.ic_ltT (pc := 224) C 237 h2 (by decide) dX9_broken_224 ?_
      refine V.lconst (pc := 237) C (lN 0) (by decide) dX9_broken_237 ?_
      refine V.ladd (pc := 238) C dX9_broken_238 ?_
      refine V.lstore (pc := 239) (lv' := [(7, .long (v7 + (lN 0))), (10, .int s0), (0, .ref (gA G 0)), (2, .int v2), (3, .int v3), (5, .long v5), (9, .int v9)]) C (by decide) rfl dX9_broken_239 ?_
      refine V.iinc (pc := 241) (lv' := [(9, .int (v9 + (nI 1))), (7, .long (v7 + (lN 0))), (10, .int s0), (0, .ref (gA G 0)), (2, .int v2), (3, .int v3), (5, .long v5)]) C (v9 + (nI 1)) 6 rfl rfl (by decide) rfl dX9_broken_241 ?_
      refine V.goto (pc := 244) C 172 (by decide) dX9_broken_244 ?_
      refine V.sub C [3, 4, 5, 6, 1, 0] (lv' := [(0, .ref (gA G 0)), (2, .int v2), (3, .int v3), (5, .long v5), (7, .long (v7 + (lN 0))), (9, .int (v9 + (nI 1)))]) rfl ?_
      exact hx172 _ _ _ _ _ _ hf
    · refine V.ic_ltF (pc := 224) C 237 h2 (by decide) dX9_broken_224 ?_
      refine V.aload_n (pc := 227) C 1 rfl dX9_broken_227 ?_
      refine V.getR (pc := 228) C clX9 inX9 (sm_0 hG) 28 (by decide) wF_X9_52 rfl dX9_broken_228 ?_
      refine V.iload (pc := 231) C 6 rfl dX9_broken_231 ?_
      obtain ⟨g3, hf⟩ := gd_some hf
      refine V.lald (pc := 233) C (sm_15 hG) (inb_in g3) dX9_broken_233 ?_
      refine V.goto (pc := 234) C 238 (by decide) dX9_broken_234 ?_
      refine V.ladd (pc := 238) C dX9_broken_238 ?_
      refine V.lstore (pc := 239) (lv' := [(7, .long (v7 + (M.2 15 v9.toNatClampNeg))), (10, .int s0), (0, .ref (gA G 0)), (2, .int v2), (3, .int v3), (5, .long v5), (9, .int v9)]) C (by decide) rfl dX9_broken_239 ?_
      refine V.iinc (pc := 241) (lv' := [(9, .int (v9 + (nI 1))), (7, .long (v7 + (M.2 15 v9.toNatClampNeg))), (10, .int s0), (0, .ref (gA G 0)), (2, .int v2), (3, .int v3), (5, .long v5)]) C (v9 + (nI 1)) 6 rfl rfl (by decide) rfl dX9_broken_241 ?_
      refine V.goto (pc := 244) C 172 (by decide) dX9_broken_244 ?_
      refine V.sub C [3, 4, 5, 6, 1, 0] (lv' := [(0, .ref (gA G 0)), (2, .int v2), (3, .int v3), (5, .long v5), (7, .long (v7 + (M.2 15 v9.toNatClampNeg))), (9, .int (v9 + (nI 1)))]) rfl ?_
      exact hx172 _ _ _ _ _ _ hf
  · refine V.if_geF (pc := 204) C 221 h1 (by decide) dX9_broken_204 ?_
    refine V.aload_n (pc := 207) C 1 rfl dX9_broken_207 ?_
    refine V.getR (pc := 208) C clX9 inX9 (sm_0 hG) 28 (by decide) wF_X9_52 rfl dX9_broken_208 ?_
    refine V.iload (pc := 211) C 6 rfl dX9_broken_211 ?_
    obtain ⟨g4, hf⟩ := gd_some hf
    refine V.lald (pc := 213) C (sm_15 hG) (inb_in g4) dX9_broken_213 ?_
    refine V.iload (pc := 214) C 0 rfl dX9_broken_214 ?_
    refine V.i2l (pc := 216) C dX9_broken_216 ?_
    refine V.lmul (pc := 217) C dX9_broken_217 ?_
    refine V.goto (pc := 218) C 238 (by decide) dX9_broken_218 ?_
    refine V.ladd (pc := 238) C dX9_broken_238 ?_
    refine V.lstore (pc := 239) (lv' := [(7, .long (v7 + ((M.2 15 v9.toNatClampNeg) * s0.toInt64))), (10, .int s0), (0, .ref (gA G 0)), (2, .int v2), (3, .int v3), (5, .long v5), (9, .int v9)]) C (by decide) rfl dX9_broken_239 ?_
    refine V.iinc (pc := 241) (lv' := [(9, .int (v9 + (nI 1))), (7, .long (v7 + ((M.2 15 v9.toNatClampNeg) * s0.toInt64))), (10, .int s0), (0, .ref (gA G 0)), (2, .int v2), (3, .int v3), (5, .long v5)]) C (v9 + (nI 1)) 6 rfl rfl (by decide) rfl dX9_broken_241 ?_
    refine V.goto (pc := 244) C 172 (by decide) dX9_broken_244 ?_
    refine V.sub C [3, 4, 5, 6, 1, 0] (lv' := [(0, .ref (gA G 0)), (2, .int v2), (3, .int v3), (5, .long v5), (7, .long (v7 + ((M.2 15 v9.toNatClampNeg) * s0.toInt64))), (9, .int (v9 + (nI 1)))]) rfl ?_
    exact hx172 _ _ _ _ _ _ hf
def fX9_broken_b172   : Nat → Int32 → Int32 → Int64 → Int64 → Int32 → Mm → Option (Int64 × Mm)
  | 0, _, _, _, _, _, _ => none
  | n + 1, v2, v3, v5, v7, v9, M =>
    if (nI 13) ≤ v9 then
    (fX9_broken_b247 v3 v5 v7 M)
    else
    (if (M.1 0 1) ≤ v9 then
    (fX9_broken_b199 (fX9_broken_b172  n) v2 v3 v5 v7 v9 (nI 0) M)
    else
    (fX9_broken_b199 (fX9_broken_b172  n) v2 v3 v5 v7 v9 ((M.1 0 1) - v9) M))
set_option maxHeartbeats 4000000 in
set_option maxRecDepth 100000 in
theorem vX9_broken_b172 {G : Rg} {X : Ct} {r : Int64} {Mf : Mm}   (C : cxX9_broken G X) (hG : gS G = shM)   : ∀ (n : Nat) (v2 : Int32) (v3 : Int32) (v5 : Int64) (v7 : Int64) (v9 : Int32) (M : Mm), fX9_broken_b172 n v2 v3 v5 v7 v9 M = some (r, Mf) → V G X 11 (some (.long r)) Mf 172 [(0, .ref (gA G 0)), (2, .int v2), (3, .int v3), (5, .long v5), (7, .long v7), (9, .int v9)] [] M := by
  intro n
  induction n with
  | zero => intro v2 v3 v5 v7 v9 M hf; rw [fX9_broken_b172] at hf; cases hf
  | succ n ih =>
    intro v2 v3 v5 v7 v9 M hf
    rw [fX9_broken_b172] at hf
    refine V.iload (pc := 172) C 5 rfl dX9_broken_172 ?_
    refine V.bipush (pc := 174) C (nI 13) (by decide) dX9_broken_174 ?_
    rcases it_some hf with ⟨h1, hf⟩ | ⟨h1, hf⟩
    · refine V.ic_geT (pc := 176) C 247 h1 (by decide) dX9_broken_176 ?_
      refine V.sub C [2, 3, 4] (lv' := [(3, .int v3), (5, .long v5), (7, .long v7)]) rfl ?_
      exact vX9_broken_b247 C hG    _ _ _ _ hf
    · refine V.ic_geF (pc := 176) C 247 h1 (by decide) dX9_broken_176 ?_
      refine V.aload_n (pc := 179) C 0 rfl dX9_broken_179 ?_
      refine V.getI (pc := 180) C clX9 inX9 (sm_0 hG) 1 (by decide) wF_X9_63 rfl dX9_broken_180 ?_
      refine V.iload (pc := 183) C 5 rfl dX9_broken_183 ?_
      rcases it_some hf with ⟨h2, hf⟩ | ⟨h2, hf⟩
      · refine V.ic_leT (pc := 185) C 198 h2 (by decide) dX9_broken_185 ?_
        refine V.iconst (pc := 198) C (nI 0) (by decide) dX9_broken_198 ?_
        exact vX9_broken_b199 C hG  ih  _ _ _ _ _ _ _ hf
      · refine V.ic_leF (pc := 185) C 198 h2 (by decide) dX9_broken_185 ?_
        refine V.aload_n (pc := 188) C 0 rfl dX9_broken_188 ?_
        refine V.getI (pc := 189) C clX9 inX9 (sm_0 hG) 1 (by decide) wF_X9_63 rfl dX9_broken_189 ?_
        refine V.iload (pc := 192) C 5 rfl dX9_broken_192 ?_
        refine V.isub (pc := 194) C dX9_broken_194 ?_
        refine V.goto (pc := 195) C 199 (by decide) dX9_broken_195 ?_
        exact vX9_broken_b199 C hG  ih  _ _ _ _ _ _ _ hf
def fX9_broken_b99 (nx88 : Int32 → Int32 → Int32 → Int32 → Int64 → Int32 → Mm → Option (Int64 × Mm))  : Nat → Int32 → Int32 → Int32 → Int32 → Int64 → Int32 → Int32 → Mm → Option (Int64 × Mm)
  | 0, _, _, _, _, _, _, _, _ => none
  | n + 1, v1, v2, v3, v4, v5, v7, v8, M =>
    if v8 < (nI 0) then
    (nx88 v1 v2 v3 v4 (v5 * (lN 10)) (v7 + (nI 1)) M)
    else
    (gd (inb v8 13) (
    if v8 ≤ (nI 0) then
    (gd (inb v8 13) (
    fX9_broken_b99 nx88 n v1 v2 v3 v4 v5 v7 (v8 + (mI 1)) (sL M 15 v8.toNatClampNeg (((M.2 15 v8.toNatClampNeg) * ((nI 10) - v1).toInt64) + (lN 0)))))
    else
    (gd (inb (v8 - (nI 1)) 13) (
    gd (inb v8 13) (
    fX9_broken_b99 nx88 n v1 v2 v3 v4 v5 v7 (v8 + (mI 1)) (sL M 15 v8.toNatClampNeg (((M.2 15 v8.toNatClampNeg) * ((nI 10) - v1).toInt64) + ((M.2 15 (v8 - (nI 1)).toNatClampNeg) * v1.toInt64))))))))
set_option maxHeartbeats 4000000 in
set_option maxRecDepth 100000 in
theorem vX9_broken_b99 {G : Rg} {X : Ct} {r : Int64} {Mf : Mm}  {nx88 : Int32 → Int32 → Int32 → Int32 → Int64 → Int32 → Mm → Option (Int64 × Mm)} (C : cxX9_broken G X) (hG : gS G = shM)  (hx88 : ∀ (v1 : Int32) (v2 : Int32) (v3 : Int32) (v4 : Int32) (v5 : Int64) (v7 : Int32) (M : Mm), nx88 v1 v2 v3 v4 v5 v7 M = some (r, Mf) → V G X 11 (some (.long r)) Mf 88 [(0, .ref (gA G 0)), (1, .int v1), (2, .int v2), (3, .int v3), (4, .int v4), (5, .long v5), (7, .int v7)] [] M) : ∀ (n : Nat) (v1 : Int32) (v2 : Int32) (v3 : Int32) (v4 : Int32) (v5 : Int64) (v7 : Int32) (v8 : Int32) (M : Mm), fX9_broken_b99 nx88 n v1 v2 v3 v4 v5 v7 v8 M = some (r, Mf) → V G X 11 (some (.long r)) Mf 99 [(0, .ref (gA G 0)), (1, .int v1), (2, .int v2), (3, .int v3), (4, .int v4), (5, .long v5), (7, .int v7), (8, .int v8)] [] M := by
  intro n
  induction n with
  | zero => intro v1 v2 v3 v4 v5 v7 v8 M hf; rw [fX9_broken_b99] at hf; cases hf
  | succ n ih =>
    intro v1 v2 v3 v4 v5 v7 v8 M hf
    rw [fX9_broken_b99] at hf
    refine V.iload (pc := 99) C 7 rfl dX9_broken_99 ?_
    rcases it_some hf with ⟨h1, hf⟩ | ⟨h1, hf⟩
    · refine V.if_ltT (pc := 101) C 152 h1 (by decide) dX9_broken_101 ?_
      refine V.lload (pc := 152) C 5 rfl dX9_broken_152 ?_
      refine V.ldc2 (pc := 154) C wL_X9_255 dX9_broken_154 ?_
      refine V.lmul (pc := 157) C dX9_broken_157 ?_
      refine V.lstore (pc := 158) (lv' := [(5, .long (v5 * (lN 10))), (0, .ref (gA G 0)), (1, .int v1), (2, .int v2), (3, .int v3), (4, .int v4), (7, .int v7), (8, .int v8)]) C (by decide) rfl dX9_broken_158 ?_
      refine V.iinc (pc := 160) (lv' := [(7, .int (v7 + (nI 1))), (5, .long (v5 * (lN 10))), (0, .ref (gA G 0)), (1, .int v1), (2, .int v2), (3, .int v3), (4, .int v4), (8, .int v8)]) C (v7 + (nI 1)) 6 rfl rfl (by decide) rfl dX9_broken_160 ?_
      refine V.goto (pc := 163) C 88 (by decide) dX9_broken_163 ?_
      refine V.sub C [2, 3, 4, 5, 6, 1, 0] (lv' := [(0, .ref (gA G 0)), (1, .int v1), (2, .int v2), (3, .int v3), (4, .int v4), (5, .long (v5 * (lN 10))), (7, .int (v7 + (nI 1)))]) rfl ?_
      exact hx88 _ _ _ _ _ _ _ hf
    · refine V.if_ltF (pc := 101) C 152 h1 (by decide) dX9_broken_101 ?_
      refine V.aload_n (pc := 104) C 0 rfl dX9_broken_104 ?_
      refine V.getR (pc := 105) C clX9 inX9 (sm_0 hG) 28 (by decide) wF_X9_52 rfl dX9_broken_105 ?_
      refine V.iload (pc := 108) C 7 rfl dX9_broken_108 ?_
      refine V.aload_n (pc := 110) C 0 rfl dX9_broken_110 ?_
      refine V.getR (pc := 111) C clX9 inX9 (sm_0 hG) 28 (by decide) wF_X9_52 rfl dX9_broken_111 ?_
      refine V.iload (pc := 114) C 7 rfl dX9_broken_114 ?_
      obtain ⟨g2, hf⟩ := gd_some hf
      refine V.lald (pc := 116) C (sm_15 hG) (inb_in g2) dX9_broken_116 ?_
      refine V.bipush (pc := 117) C (nI 10) (by decide) dX9_broken_117 ?_
      refine V.iload_n (pc := 119) C 1 rfl dX9_broken_119 ?_
      refine V.isub (pc := 120) C dX9_broken_120 ?_
      refine V.i2l (pc := 121) C dX9_broken_121 ?_
      refine V.lmul (pc := 122) C dX9_broken_122 ?_
      refine V.iload (pc := 123) C 7 rfl dX9_broken_123 ?_
      rcases it_some hf with ⟨h3, hf⟩ | ⟨h3, hf⟩
      · refine V.if_leT (pc := 125) C 143 h3 (by decide) dX9_broken_125 ?_
        refine V.lconst (pc := 143) C (lN 0) (by decide) dX9_broken_143 ?_
        refine V.ladd (pc := 144) C dX9_broken_144 ?_
        obtain ⟨g4, hf⟩ := gd_some hf
        refine V.last (pc := 145) C (sm_15 hG) (inb_in g4) dX9_broken_145 ?_
        refine V.iinc (pc := 146) (lv' := [(8, .int (v8 + (mI 1))), (0, .ref (gA G 0)), (1, .int v1), (2, .int v2), (3, .int v3), (4, .int v4), (5, .long v5), (7, .int v7)]) C (v8 + (mI 1)) 7 rfl (congrArg (fun z => v8 + z) (by decide)) (by decide) rfl dX9_broken_146 ?_
        refine V.goto (pc := 149) C 99 (by decide) dX9_broken_149 ?_
        refine V.sub C [1, 2, 3, 4, 5, 6, 7, 0] (lv' := [(0, .ref (gA G 0)), (1, .int v1), (2, .int v2), (3, .int v3), (4, .int v4), (5, .long v5), (7, .int v7), (8, .int (v8 + (mI 1)))]) rfl ?_
        exact ih _ _ _ _ _ _ _ _ hf
      · refine V.if_leF (pc := 125) C 143 h3 (by decide) dX9_broken_125 ?_
        refine V.aload_n (pc := 128) C 0 rfl dX9_broken_128 ?_
        refine V.getR (pc := 129) C clX9 inX9 (sm_0 hG) 28 (by decide) wF_X9_52 rfl dX9_broken_129 ?_
        refine V.iload (pc := 132) C 7 rfl dX9_broken_132 ?_
        refine V.iconst (pc := 134) C (nI 1) (by decide) dX9_broken_134 ?_
        refine V.isub (pc := 135) C dX9_broken_135 ?_
        obtain ⟨g5, hf⟩ := gd_some hf
        refine V.lald (pc := 136) C (sm_15 hG) (inb_in g5) dX9_broken_136 ?_
        refine V.iload_n (pc := 137) C 1 rfl dX9_broken_137 ?_
        refine V.i2l (pc := 138) C dX9_broken_138 ?_
        refine V.lmul (pc := 139) C dX9_broken_139 ?_
        refine V.goto (pc := 140) C 144 (by decide) dX9_broken_140 ?_
        refine V.ladd (pc := 144) C dX9_broken_144 ?_
        obtain ⟨g6, hf⟩ := gd_some hf
        refine V.last (pc := 145) C (sm_15 hG) (inb_in g6) dX9_broken_145 ?_
        refine V.iinc (pc := 146) (lv' := [(8, .int (v8 + (mI 1))), (0, .ref (gA G 0)), (1, .int v1), (2, .int v2), (3, .int v3), (4, .int v4), (5, .long v5), (7, .int v7)]) C (v8 + (mI 1)) 7 rfl (congrArg (fun z => v8 + z) (by decide)) (by decide) rfl dX9_broken_146 ?_
        refine V.goto (pc := 149) C 99 (by decide) dX9_broken_149 ?_
        refine V.sub C [1, 2, 3, 4, 5, 6, 7, 0] (lv' := [(0, .ref (gA G 0)), (1, .int v1), (2, .int v2), (3, .int v3), (4, .int v4), (5, .long v5), (7, .int v7), (8, .int (v8 + (mI 1)))]) rfl ?_
        exact ih _ _ _ _ _ _ _ _ hf
def fX9_broken_b88   : Nat → Int32 → Int32 → Int32 → Int32 → Int64 → Int32 → Mm → Option (Int64 × Mm)
  | 0, _, _, _, _, _, _, _ => none
  | n + 1, v1, v2, v3, v4, v5, v7, M =>
    if v4 ≤ v7 then
    (fX9_broken_b172 fu v2 v3 v5 (lN 0) (nI 0) M)
    else
    (fX9_broken_b99 (fX9_broken_b88  n) fu v1 v2 v3 v4 v5 v7 (nI 12) M)
set_option maxHeartbeats 4000000 in
set_option maxRecDepth 100000 in
theorem vX9_broken_b88 {G : Rg} {X : Ct} {r : Int64} {Mf : Mm}   (C : cxX9_broken G X) (hG : gS G = shM)   : ∀ (n : Nat) (v1 : Int32) (v2 : Int32) (v3 : Int32) (v4 : Int32) (v5 : Int64) (v7 : Int32) (M : Mm), fX9_broken_b88 n v1 v2 v3 v4 v5 v7 M = some (r, Mf) → V G X 11 (some (.long r)) Mf 88 [(0, .ref (gA G 0)), (1, .int v1), (2, .int v2), (3, .int v3), (4, .int v4), (5, .long v5), (7, .int v7)] [] M := by
  intro n
  induction n with
  | zero => intro v1 v2 v3 v4 v5 v7 M hf; rw [fX9_broken_b88] at hf; cases hf
  | succ n ih =>
    intro v1 v2 v3 v4 v5 v7 M hf
    rw [fX9_broken_b88] at hf
    refine V.iload (pc := 88) C 6 rfl dX9_broken_88 ?_
    refine V.iload (pc := 90) C 4 rfl dX9_broken_90 ?_
    rcases it_some hf with ⟨h1, hf⟩ | ⟨h1, hf⟩
    · refine V.ic_geT (pc := 92) C 166 h1 (by decide) dX9_broken_92 ?_
      refine V.lconst (pc := 166) C (lN 0) (by decide) dX9_broken_166 ?_
      refine V.lstore (pc := 167) (lv' := [(7, .long (lN 0)), (0, .ref (gA G 0)), (1, .int v1), (2, .int v2), (3, .int v3), (4, .int v4), (5, .long v5)]) C (by decide) rfl dX9_broken_167 ?_
      refine V.iconst (pc := 169) C (nI 0) (by decide) dX9_broken_169 ?_
      refine V.istore (pc := 170) (lv' := [(9, .int (nI 0)), (7, .long (lN 0)), (0, .ref (gA G 0)), (1, .int v1), (2, .int v2), (3, .int v3), (4, .int v4), (5, .long v5)]) C (by decide) rfl dX9_broken_170 ?_
      refine V.sub C [2, 4, 5, 7, 1, 0] (lv' := [(0, .ref (gA G 0)), (2, .int v2), (3, .int v3), (5, .long v5), (7, .long (lN 0)), (9, .int (nI 0))]) rfl ?_
      exact vX9_broken_b172 C hG   fu _ _ _ _ _ _ hf
    · refine V.ic_geF (pc := 92) C 166 h1 (by decide) dX9_broken_92 ?_
      refine V.bipush (pc := 95) C (nI 12) (by decide) dX9_broken_95 ?_
      refine V.istore (pc := 97) (lv' := [(8, .int (nI 12)), (0, .ref (gA G 0)), (1, .int v1), (2, .int v2), (3, .int v3), (4, .int v4), (5, .long v5), (7, .int v7)]) C (by decide) rfl dX9_broken_97 ?_
      refine V.sub C [1, 2, 3, 4, 5, 6, 7, 0] (lv' := [(0, .ref (gA G 0)), (1, .int v1), (2, .int v2), (3, .int v3), (4, .int v4), (5, .long v5), (7, .int v7), (8, .int (nI 12))]) rfl ?_
      exact vX9_broken_b99 C hG  ih fu _ _ _ _ _ _ _ _ hf
def fX9_broken_b55   : Nat → Int32 → Int32 → Int32 → Int32 → Int64 → Int32 → Mm → Option (Int64 × Mm)
  | 0, _, _, _, _, _, _, _ => none
  | n + 1, v1, v2, v3, v4, v5, v7, M =>
    if (nI 13) ≤ v7 then
    (fX9_broken_b88 fu v1 v2 v3 v4 v5 (nI 0) M)
    else
    (if v7 = (nI 0) then
    (gd (inb v7 13) (
    fX9_broken_b55  n v1 v2 v3 v4 v5 (v7 + (nI 1)) (sL M 15 v7.toNatClampNeg (lN 1))))
    else
    (gd (inb v7 13) (
    fX9_broken_b55  n v1 v2 v3 v4 v5 (v7 + (nI 1)) (sL M 15 v7.toNatClampNeg (lN 0)))))
set_option maxHeartbeats 4000000 in
set_option maxRecDepth 100000 in
theorem vX9_broken_b55 {G : Rg} {X : Ct} {r : Int64} {Mf : Mm}   (C : cxX9_broken G X) (hG : gS G = shM)   : ∀ (n : Nat) (v1 : Int32) (v2 : Int32) (v3 : Int32) (v4 : Int32) (v5 : Int64) (v7 : Int32) (M : Mm), fX9_broken_b55 n v1 v2 v3 v4 v5 v7 M = some (r, Mf) → V G X 11 (some (.long r)) Mf 55 [(0, .ref (gA G 0)), (1, .int v1), (2, .int v2), (3, .int v3), (4, .int v4), (5, .long v5), (7, .int v7)] [] M := by
  intro n
  induction n with
  | zero => intro v1 v2 v3 v4 v5 v7 M hf; rw [fX9_broken_b55] at hf; cases hf
  | succ n ih =>
    intro v1 v2 v3 v4 v5 v7 M hf
    rw [fX9_broken_b55] at hf
    refine V.iload (pc := 55) C 6 rfl dX9_broken_55 ?_
    refine V.bipush (pc := 57) C (nI 13) (by decide) dX9_broken_57 ?_
    rcases it_some hf with ⟨h1, hf⟩ | ⟨h1, hf⟩
    · refine V.ic_geT (pc := 59) C 85 h1 (by decide) dX9_broken_59 ?_
      refine V.iconst (pc := 85) C (nI 0) (by decide) dX9_broken_85 ?_
      refine V.istore (pc := 86) (lv' := [(7, .int (nI 0)), (0, .ref (gA G 0)), (1, .int v1), (2, .int v2), (3, .int v3), (4, .int v4), (5, .long v5)]) C (by decide) rfl dX9_broken_86 ?_
      refine V.sub C [1, 2, 3, 4, 5, 6, 0] (lv' := [(0, .ref (gA G 0)), (1, .int v1), (2, .int v2), (3, .int v3), (4, .int v4), (5, .long v5), (7, .int (nI 0))]) rfl ?_
      exact vX9_broken_b88 C hG   fu _ _ _ _ _ _ _ hf
    · refine V.ic_geF (pc := 59) C 85 h1 (by decide) dX9_broken_59 ?_
      refine V.aload_n (pc := 62) C 0 rfl dX9_broken_62 ?_
      refine V.getR (pc := 63) C clX9 inX9 (sm_0 hG) 28 (by decide) wF_X9_52 rfl dX9_broken_63 ?_
      refine V.iload (pc := 66) C 6 rfl dX9_broken_66 ?_
      refine V.iload (pc := 68) C 6 rfl dX9_broken_68 ?_
      rcases it_some hf with ⟨h2, hf⟩ | ⟨h2, hf⟩
      · refine V.if_neF (pc := 70) C 77 h2 (by decide) dX9_broken_70 ?_
        refine V.lconst (pc := 73) C (lN 1) (by decide) dX9_broken_73 ?_
        refine V.goto (pc := 74) C 78 (by decide) dX9_broken_74 ?_
        obtain ⟨g4, hf⟩ := gd_some hf
        refine V.last (pc := 78) C (sm_15 hG) (inb_in g4) dX9_broken_78 ?_
        refine V.iinc (pc := 79) (lv' := [(7, .int (v7 + (nI 1))), (0, .ref (gA G 0)), (1, .int v1), (2, .int v2), (3, .int v3), (4, .int v4), (5, .long v5)]) C (v7 + (nI 1)) 6 rfl rfl (by decide) rfl dX9_broken_79 ?_
        refine V.goto (pc := 82) C 55 (by decide) dX9_broken_82 ?_
        refine V.sub C [1, 2, 3, 4, 5, 6, 0] (lv' := [(0, .ref (gA G 0)), (1, .int v1), (2, .int v2), (3, .int v3), (4, .int v4), (5, .long v5), (7, .int (v7 + (nI 1)))]) rfl ?_
        exact ih _ _ _ _ _ _ _ hf
      · refine V.if_neT (pc := 70) C 77 h2 (by decide) dX9_broken_70 ?_
        refine V.lconst (pc := 77) C (lN 0) (by decide) dX9_broken_77 ?_
        obtain ⟨g3, hf⟩ := gd_some hf
        refine V.last (pc := 78) C (sm_15 hG) (inb_in g3) dX9_broken_78 ?_
        refine V.iinc (pc := 79) (lv' := [(7, .int (v7 + (nI 1))), (0, .ref (gA G 0)), (1, .int v1), (2, .int v2), (3, .int v3), (4, .int v4), (5, .long v5)]) C (v7 + (nI 1)) 6 rfl rfl (by decide) rfl dX9_broken_79 ?_
        refine V.goto (pc := 82) C 55 (by decide) dX9_broken_82 ?_
        refine V.sub C [1, 2, 3, 4, 5, 6, 0] (lv' := [(0, .ref (gA G 0)), (1, .int v1), (2, .int v2), (3, .int v3), (4, .int v4), (5, .long v5), (7, .int (v7 + (nI 1)))]) rfl ?_
        exact ih _ _ _ _ _ _ _ hf
def fX9_broken (x1 : Int32) (x2 : Int32) (x3 : Int32) (M : Mm) : Option (Int64 × Mm) :=
bd (fX9_in x1.toInt64 (lN 0) (lN 10) M) fun r1 M1 =>
if r1 = (nI 0) then
(some ((-1000000000000000002 : Int64), M1))
else
(bd (fX9_in x2.toInt64 (-1 : Int64) (lN 9) M1) fun r3 M3 =>
if r3 = (nI 0) then
(some ((-1000000000000000002 : Int64), M3))
else
(bd (fX9_in x3.toInt64 (lN 0) (lN 1) M3) fun r5 M5 =>
if r5 = (nI 0) then
(some ((-1000000000000000002 : Int64), M5))
else
(bd (fX9_outOf (nI 0) (nI 12) M5) fun r7 M7 =>
fX9_broken_b55 fu x1 x2 x3 r7 (lN 1) (nI 0) M7)))
set_option maxHeartbeats 4000000 in
set_option maxRecDepth 100000 in
theorem mX9_broken (l : Launch) {G : Rg} (hG : gS G = shM) {x1 : Int32} {x2 : Int32} {x3 : Int32}  {M Mf : Mm} {r : Int64} (hf : fX9_broken x1 x2 x3 M = some (r, Mf)) : Mt l G yX9_broken cX9_broken 11 (some .long) 4 91 [.ref (gA G 0), .int x1, .int x2, .int x3] M (some (.long r)) Mf := by
  refine Mt.of (by decide) (Nat.le_of_ble_eq_true rfl) ?_
  intro X C hX
  subst hX
  have C : cxX9_broken G X := C
  show V G X 11 (some (.long r)) Mf 0 [(0, .ref (gA G 0)), (1, .int x1), (2, .int x2), (3, .int x3)] [] M
  rw [fX9_broken] at hf
  refine V.iload_n (pc := 0) C 1 rfl dX9_broken_0 ?_
  refine V.i2l (pc := 1) C dX9_broken_1 ?_
  refine V.lconst (pc := 2) C (lN 0) (by decide) dX9_broken_2 ?_
  refine V.ldc2 (pc := 3) C wL_X9_255 dX9_broken_3 ?_
  obtain ⟨r1, M1, h1, hf⟩ := bd_some hf
  refine V.callSi (pc := 6) (As := [.long x1.toInt64, .long (lN 0), .long (lN 10)]) (rest := []) C (mX9_in X.2.1 hG  h1) mf_X9_in wM_X9_69 rfl rfl ⟨by decide, by decide⟩ (Nat.le_of_ble_eq_true rfl) dX9_broken_6 ?_
  rcases it_some hf with ⟨h2, hf⟩ | ⟨h2, hf⟩
  · refine V.if_eqT (pc := 9) C 36 h2 (by decide) dX9_broken_9 ?_
    refine V.ldc2 (pc := 36) C wL_X9_259 dX9_broken_36 ?_
    exact V.retL (pc := 39) C hf dX9_broken_39
  · refine V.if_eqF (pc := 9) C 36 h2 (by decide) dX9_broken_9 ?_
    refine V.iload_n (pc := 12) C 2 rfl dX9_broken_12 ?_
    refine V.i2l (pc := 13) C dX9_broken_13 ?_
    refine V.ldc2 (pc := 14) C wL_X9_257 dX9_broken_14 ?_
    refine V.ldc2 (pc := 17) C wL_X9_91 dX9_broken_17 ?_
    obtain ⟨r3, M3, h3, hf⟩ := bd_some hf
    refine V.callSi (pc := 20) (As := [.long x2.toInt64, .long (-1 : Int64), .long (lN 9)]) (rest := []) C (mX9_in X.2.1 hG  h3) mf_X9_in wM_X9_69 rfl rfl ⟨by decide, by decide⟩ (Nat.le_of_ble_eq_true rfl) dX9_broken_20 ?_
    rcases it_some hf with ⟨h4, hf⟩ | ⟨h4, hf⟩
    · refine V.if_eqT (pc := 23) C 36 h4 (by decide) dX9_broken_23 ?_
      refine V.ldc2 (pc := 36) C wL_X9_259 dX9_broken_36 ?_
      exact V.retL (pc := 39) C hf dX9_broken_39
    · refine V.if_eqF (pc := 23) C 36 h4 (by decide) dX9_broken_23 ?_
      refine V.iload_n (pc := 26) C 3 rfl dX9_broken_26 ?_
      refine V.i2l (pc := 27) C dX9_broken_27 ?_
      refine V.lconst (pc := 28) C (lN 0) (by decide) dX9_broken_28 ?_
      refine V.lconst (pc := 29) C (lN 1) (by decide) dX9_broken_29 ?_
      obtain ⟨r5, M5, h5, hf⟩ := bd_some hf
      refine V.callSi (pc := 30) (As := [.long x3.toInt64, .long (lN 0), .long (lN 1)]) (rest := []) C (mX9_in X.2.1 hG  h5) mf_X9_in wM_X9_69 rfl rfl ⟨by decide, by decide⟩ (Nat.le_of_ble_eq_true rfl) dX9_broken_30 ?_
      rcases it_some hf with ⟨h6, hf⟩ | ⟨h6, hf⟩
      · refine V.if_neF (pc := 33) C 40 h6 (by decide) dX9_broken_33 ?_
        refine V.ldc2 (pc := 36) C wL_X9_259 dX9_broken_36 ?_
        exact V.retL (pc := 39) C hf dX9_broken_39
      · refine V.if_neT (pc := 33) C 40 h6 (by decide) dX9_broken_33 ?_
        refine V.aload_n (pc := 40) C 0 rfl dX9_broken_40 ?_
        refine V.iconst (pc := 41) C (nI 0) (by decide) dX9_broken_41 ?_
        refine V.bipush (pc := 42) C (nI 12) (by decide) dX9_broken_42 ?_
        obtain ⟨r7, M7, h7, hf⟩ := bd_some hf
        refine V.callVi (pc := 44) (As := [.int (nI 0), .int (nI 12)]) (rest := []) C (mX9_outOf X.2.1 hG  h7) mf_X9_outOf clX9 (sm_0 hG) wM_X9_261 rfl rfl ⟨by decide, by decide⟩ (Nat.le_of_ble_eq_true rfl) dX9_broken_44 ?_
        refine V.istore (pc := 47) (lv' := [(4, .int r7), (0, .ref (gA G 0)), (1, .int x1), (2, .int x2), (3, .int x3)]) C (by decide) rfl dX9_broken_47 ?_
        refine V.lconst (pc := 49) C (lN 1) (by decide) dX9_broken_49 ?_
        refine V.lstore (pc := 50) (lv' := [(5, .long (lN 1)), (4, .int r7), (0, .ref (gA G 0)), (1, .int x1), (2, .int x2), (3, .int x3)]) C (by decide) rfl dX9_broken_50 ?_
        refine V.iconst (pc := 52) C (nI 0) (by decide) dX9_broken_52 ?_
        refine V.istore (pc := 53) (lv' := [(7, .int (nI 0)), (5, .long (lN 1)), (4, .int r7), (0, .ref (gA G 0)), (1, .int x1), (2, .int x2), (3, .int x3)]) C (by decide) rfl dX9_broken_53 ?_
        refine V.sub C [3, 4, 5, 6, 2, 1, 0] (lv' := [(0, .ref (gA G 0)), (1, .int x1), (2, .int x2), (3, .int x3), (4, .int r7), (5, .long (lN 1)), (7, .int (nI 0))]) rfl ?_
        exact vX9_broken_b55 C hG   fu _ _ _ _ _ _ _ hf
