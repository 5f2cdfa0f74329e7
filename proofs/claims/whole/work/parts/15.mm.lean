theorem dX9_in_0 : decode cX9_in 0 = .ok (.lload_n 0, 1) := by decide +kernel
theorem dX9_in_1 : decode cX9_in 1 = .ok (.lload_n 2, 1) := by decide +kernel
theorem dX9_in_2 : decode cX9_in 2 = .ok (.lcmp, 1) := by decide +kernel
theorem dX9_in_3 : decode cX9_in 3 = .ok (.ifCond .lt 14, 3) := by decide +kernel
theorem dX9_in_6 : decode cX9_in 6 = .ok (.lload_n 0, 1) := by decide +kernel
theorem dX9_in_7 : decode cX9_in 7 = .ok (.lload 4, 2) := by decide +kernel
theorem dX9_in_9 : decode cX9_in 9 = .ok (.lcmp, 1) := by decide +kernel
theorem dX9_in_10 : decode cX9_in 10 = .ok (.ifCond .gt 7, 3) := by decide +kernel
theorem dX9_in_13 : decode cX9_in 13 = .ok (.iconst 1, 1) := by decide +kernel
theorem dX9_in_14 : decode cX9_in 14 = .ok (.goto 4, 3) := by decide +kernel
theorem dX9_in_17 : decode cX9_in 17 = .ok (.iconst 0, 1) := by decide +kernel
theorem dX9_in_18 : decode cX9_in 18 = .ok (.ireturn, 1) := by decide +kernel
abbrev cxX9_in (G : Rg) (X : Ct) : Prop := Cx G X cX9_in 6 RX9 (some .boolean) 0 0 (Cond.code yX9_in cX9_in 6 (some .boolean))
def fX9_in (x0 : Int64) (x2 : Int64) (x4 : Int64) (M : Mm) : Option (Int32 × Mm) :=
if (lg_cmp x0 x2) < (nI 0) then
(some ((nI 0), M))
else
(if (nI 0) < (lg_cmp x0 x4) then
(some ((nI 0), M))
else
(some ((nI 1), M)))
set_option maxHeartbeats 4000000 in
set_option maxRecDepth 100000 in
theorem mX9_in (l : Launch) {G : Rg} (hG : gS G = shM) {x0 : Int64} {x2 : Int64} {x4 : Int64}  {M Mf : Mm} {r : Int32} (hf : fX9_in x0 x2 x4 M = some (r, Mf)) : Mt l G yX9_in cX9_in 6 (some .boolean) 0 0 [.long x0, .long x2, .long x4] M (some (.int r)) Mf := by
  refine Mt.of (by decide) (Nat.le_of_ble_eq_true rfl) ?_
  intro X C hX
  subst hX
  have C : cxX9_in G X := C
  show V G X 6 (some (.int r)) Mf 0 [(0, .long x0), (2, .long x2), (4, .long x4)] [] M
  rw [fX9_in] at hf
  refine V.lload_n (pc := 0) C 0 rfl dX9_in_0 ?_
  refine V.lload_n (pc := 1) C 1 rfl dX9_in_1 ?_
  refine V.lcmp (pc := 2) C dX9_in_2 ?_
  rcases it_some hf with ⟨h1, hf⟩ | ⟨h1, hf⟩
  · refine V.if_ltT (pc := 3) C 17 h1 (by decide) dX9_in_3 ?_
    refine V.iconst (pc := 17) C (nI 0) (by decide) dX9_in_17 ?_
    exact V.retZ (pc := 18) C (Or.inl rfl) hf dX9_in_18
  · refine V.if_ltF (pc := 3) C 17 h1 (by decide) dX9_in_3 ?_
    refine V.lload_n (pc := 6) C 0 rfl dX9_in_6 ?_
    refine V.lload (pc := 7) C 2 rfl dX9_in_7 ?_
    refine V.lcmp (pc := 9) C dX9_in_9 ?_
    rcases it_some hf with ⟨h2, hf⟩ | ⟨h2, hf⟩
    · refine V.if_gtT (pc := 10) C 17 h2 (by decide) dX9_in_10 ?_
      refine V.iconst (pc := 17) C (nI 0) (by decide) dX9_in_17 ?_
      exact V.retZ (pc := 18) C (Or.inl rfl) hf dX9_in_18
    · refine V.if_gtF (pc := 10) C 17 h2 (by decide) dX9_in_10 ?_
      refine V.iconst (pc := 13) C (nI 1) (by decide) dX9_in_13 ?_
      refine V.goto (pc := 14) C 18 (by decide) dX9_in_14 ?_
      exact V.retZ (pc := 18) C (Or.inr rfl) hf dX9_in_18
theorem dX9_isRank_0 : decode cX9_isRank 0 = .ok (.iload_n 0, 1) := by decide +kernel
theorem dX9_isRank_1 : decode cX9_isRank 1 = .ok (.i2l, 1) := by decide +kernel
theorem dX9_isRank_2 : decode cX9_isRank 2 = .ok (.lconst 0, 1) := by decide +kernel
theorem dX9_isRank_3 : decode cX9_isRank 3 = .ok (.ldc2_w 76, 3) := by decide +kernel
theorem dX9_isRank_6 : decode cX9_isRank 6 = .ok (.invokestatic 69, 3) := by decide +kernel
theorem dX9_isRank_9 : decode cX9_isRank 9 = .ok (.ireturn, 1) := by decide +kernel
abbrev cxX9_isRank (G : Rg) (X : Ct) : Prop := Cx G X cX9_isRank 1 RX9 (some .boolean) 1 25 (Cond.code yX9_isRank cX9_isRank 1 (some .boolean))
def fX9_isRank (x0 : Int32) (M : Mm) : Option (Int32 × Mm) :=
bd (fX9_in x0.toInt64 (lN 0) (lN 5) M) fun r1 M1 =>
gd (decide (r1 = nI 0 ∨ r1 = nI 1)) (
some (r1, M1))
set_option maxHeartbeats 4000000 in
set_option maxRecDepth 100000 in
theorem mX9_isRank (l : Launch) {G : Rg} (hG : gS G = shM) {x0 : Int32}  {M Mf : Mm} {r : Int32} (hf : fX9_isRank x0 M = some (r, Mf)) : Mt l G yX9_isRank cX9_isRank 1 (some .boolean) 1 25 [.int x0] M (some (.int r)) Mf := by
  refine Mt.of (by decide) (Nat.le_of_ble_eq_true rfl) ?_
  intro X C hX
  subst hX
  have C : cxX9_isRank G X := C
  show V G X 1 (some (.int r)) Mf 0 [(0, .int x0)] [] M
  rw [fX9_isRank] at hf
  refine V.iload_n (pc := 0) C 0 rfl dX9_isRank_0 ?_
  refine V.i2l (pc := 1) C dX9_isRank_1 ?_
  refine V.lconst (pc := 2) C (lN 0) (by decide) dX9_isRank_2 ?_
  refine V.ldc2 (pc := 3) C wL_X9_76 dX9_isRank_3 ?_
  obtain ⟨r1, M1, h1, hf⟩ := bd_some hf
  refine V.callSi (pc := 6) (As := [.long x0.toInt64, .long (lN 0), .long (lN 5)]) (rest := []) C (mX9_in X.2.1 hG  h1) mf_X9_in wM_X9_69 rfl rfl ⟨by decide, by decide⟩ (Nat.le_of_ble_eq_true rfl) dX9_isRank_6 ?_
  obtain ⟨g2, hf⟩ := gd_some hf
  exact V.retZ (pc := 9) C (dec_some g2) hf dX9_isRank_9
theorem dX9_ones_0 : decode cX9_ones 0 = .ok (.iconst 0, 1) := by decide +kernel
theorem dX9_ones_1 : decode cX9_ones 1 = .ok (.istore_n 1, 1) := by decide +kernel
theorem dX9_ones_2 : decode cX9_ones 2 = .ok (.iload_n 0, 1) := by decide +kernel
theorem dX9_ones_3 : decode cX9_ones 3 = .ok (.istore_n 2, 1) := by decide +kernel
theorem dX9_ones_4 : decode cX9_ones 4 = .ok (.iload_n 2, 1) := by decide +kernel
theorem dX9_ones_5 : decode cX9_ones 5 = .ok (.ifCond .eq 15, 3) := by decide +kernel
theorem dX9_ones_8 : decode cX9_ones 8 = .ok (.iinc 1 1, 3) := by decide +kernel
theorem dX9_ones_11 : decode cX9_ones 11 = .ok (.iload_n 2, 1) := by decide +kernel
theorem dX9_ones_12 : decode cX9_ones 12 = .ok (.iload_n 2, 1) := by decide +kernel
theorem dX9_ones_13 : decode cX9_ones 13 = .ok (.iconst 1, 1) := by decide +kernel
theorem dX9_ones_14 : decode cX9_ones 14 = .ok (.isub, 1) := by decide +kernel
theorem dX9_ones_15 : decode cX9_ones 15 = .ok (.iand, 1) := by decide +kernel
theorem dX9_ones_16 : decode cX9_ones 16 = .ok (.istore_n 2, 1) := by decide +kernel
theorem dX9_ones_17 : decode cX9_ones 17 = .ok (.goto (-13), 3) := by decide +kernel
theorem dX9_ones_20 : decode cX9_ones 20 = .ok (.iload_n 1, 1) := by decide +kernel
theorem dX9_ones_21 : decode cX9_ones 21 = .ok (.ireturn, 1) := by decide +kernel
abbrev cxX9_ones (G : Rg) (X : Ct) : Prop := Cx G X cX9_ones 3 RX9 (some .int) 0 0 (Cond.code yX9_ones cX9_ones 3 (some .int))
def fX9_ones_b4   : Nat → Int32 → Int32 → Mm → Option (Int32 × Mm)
  | 0, _, _, _ => none
  | n + 1, v1, v2, M =>
    if v2 = (nI 0) then
    (some (v1, M))
    else
    (fX9_ones_b4  n (v1 + (nI 1)) (v2 &&& (v2 - (nI 1))) M)
set_option maxHeartbeats 4000000 in
set_option maxRecDepth 100000 in
theorem vX9_ones_b4 {G : Rg} {X : Ct} {r : Int32} {Mf : Mm}   (C : cxX9_ones G X) (hG : gS G = shM)   : ∀ (n : Nat) (v1 : Int32) (v2 : Int32) (M : Mm), fX9_ones_b4 n v1 v2 M = some (r, Mf) → V G X 3 (some (.int r)) Mf 4 [(1, .int v1), (2, .int v2)] [] M := by
  intro n
  induction n with
  | zero => intro v1 v2 M hf; rw [fX9_ones_b4] at hf; cases hf
  | succ n ih =>
    intro v1 v2 M hf
    rw [fX9_ones_b4] at hf
    refine V.iload_n (pc := 4) C 1 rfl dX9_ones_4 ?_
    rcases it_some hf with ⟨h1, hf⟩ | ⟨h1, hf⟩
    · refine V.if_eqT (pc := 5) C 20 h1 (by decide) dX9_ones_5 ?_
      refine V.iload_n (pc := 20) C 0 rfl dX9_ones_20 ?_
      exact V.retI (pc := 21) C hf dX9_ones_21
    · refine V.if_eqF (pc := 5) C 20 h1 (by decide) dX9_ones_5 ?_
      refine V.iinc (pc := 8) (lv' := [(1, .int (v1 + (nI 1))), (2, .int v2)]) C (v1 + (nI 1)) 0 rfl rfl (by decide) rfl dX9_ones_8 ?_
      refine V.iload_n (pc := 11) C 1 rfl dX9_ones_11 ?_
      refine V.iload_n (pc := 12) C 1 rfl dX9_ones_12 ?_
      refine V.iconst (pc := 13) C (nI 1) (by decide) dX9_ones_13 ?_
      refine V.isub (pc := 14) C dX9_ones_14 ?_
      refine V.iand (pc := 15) C dX9_ones_15 ?_
      refine V.istore_n (pc := 16) (lv' := [(2, .int (v2 &&& (v2 - (nI 1)))), (1, .int (v1 + (nI 1)))]) C (by decide) rfl dX9_ones_16 ?_
      refine V.goto (pc := 17) C 4 (by decide) dX9_ones_17 ?_
      refine V.sub C [1, 0] (lv' := [(1, .int (v1 + (nI 1))), (2, .int (v2 &&& (v2 - (nI 1))))]) rfl ?_
      exact ih _ _ _ hf
def fX9_ones (x0 : Int32) (M : Mm) : Option (Int32 × Mm) :=
fX9_ones_b4 fu (nI 0) x0 M
set_option maxHeartbeats 4000000 in
set_option maxRecDepth 100000 in
theorem mX9_ones (l : Launch) {G : Rg} (hG : gS G = shM) {x0 : Int32}  {M Mf : Mm} {r : Int32} (hf : fX9_ones x0 M = some (r, Mf)) : Mt l G yX9_ones cX9_ones 3 (some .int) 0 0 [.int x0] M (some (.int r)) Mf := by
  refine Mt.of (by decide) (Nat.le_of_ble_eq_true rfl) ?_
  intro X C hX
  subst hX
  have C : cxX9_ones G X := C
  show V G X 3 (some (.int r)) Mf 0 [(0, .int x0)] [] M
  rw [fX9_ones] at hf
  refine V.iconst (pc := 0) C (nI 0) (by decide) dX9_ones_0 ?_
  refine V.istore_n (pc := 1) (lv' := [(1, .int (nI 0)), (0, .int x0)]) C (by decide) rfl dX9_ones_1 ?_
  refine V.iload_n (pc := 2) C 1 rfl dX9_ones_2 ?_
  refine V.istore_n (pc := 3) (lv' := [(2, .int x0), (1, .int (nI 0)), (0, .int x0)]) C (by decide) rfl dX9_ones_3 ?_
  refine V.sub C [1, 0] (lv' := [(1, .int (nI 0)), (2, .int x0)]) rfl ?_
  exact vX9_ones_b4 C hG   fu _ _ _ hf
theorem dX9_officer_0 : decode cX9_officer 0 = .ok (.iload_n 1, 1) := by decide +kernel
theorem dX9_officer_1 : decode cX9_officer 1 = .ok (.i2l, 1) := by decide +kernel
theorem dX9_officer_2 : decode cX9_officer 2 = .ok (.lconst 0, 1) := by decide +kernel
theorem dX9_officer_3 : decode cX9_officer 3 = .ok (.ldc2_w 67, 3) := by decide +kernel
theorem dX9_officer_6 : decode cX9_officer 6 = .ok (.invokestatic 69, 3) := by decide +kernel
theorem dX9_officer_9 : decode cX9_officer 9 = .ok (.ifCond .ne 5, 3) := by decide +kernel
theorem dX9_officer_12 : decode cX9_officer 12 = .ok (.iconst (-1), 1) := by decide +kernel
theorem dX9_officer_13 : decode cX9_officer 13 = .ok (.ireturn, 1) := by decide +kernel
theorem dX9_officer_14 : decode cX9_officer 14 = .ok (.iload_n 2, 1) := by decide +kernel
theorem dX9_officer_15 : decode cX9_officer 15 = .ok (.invokestatic 78, 3) := by decide +kernel
theorem dX9_officer_18 : decode cX9_officer 18 = .ok (.ifCond .ne 6, 3) := by decide +kernel
theorem dX9_officer_21 : decode cX9_officer 21 = .ok (.bipush (-2), 2) := by decide +kernel
theorem dX9_officer_23 : decode cX9_officer 23 = .ok (.ireturn, 1) := by decide +kernel
theorem dX9_officer_24 : decode cX9_officer 24 = .ok (.aload_n 0, 1) := by decide +kernel
theorem dX9_officer_25 : decode cX9_officer 25 = .ok (.dup, 1) := by decide +kernel
theorem dX9_officer_26 : decode cX9_officer 26 = .ok (.getfield 73, 3) := by decide +kernel
theorem dX9_officer_29 : decode cX9_officer 29 = .ok (.iconst 1, 1) := by decide +kernel
theorem dX9_officer_30 : decode cX9_officer 30 = .ok (.iload_n 1, 1) := by decide +kernel
theorem dX9_officer_31 : decode cX9_officer 31 = .ok (.ishl, 1) := by decide +kernel
theorem dX9_officer_32 : decode cX9_officer 32 = .ok (.ior, 1) := by decide +kernel
theorem dX9_officer_33 : decode cX9_officer 33 = .ok (.putfield 73, 3) := by decide +kernel
theorem dX9_officer_36 : decode cX9_officer 36 = .ok (.aload_n 0, 1) := by decide +kernel
theorem dX9_officer_37 : decode cX9_officer 37 = .ok (.getfield 7, 3) := by decide +kernel
theorem dX9_officer_40 : decode cX9_officer 40 = .ok (.iload_n 1, 1) := by decide +kernel
theorem dX9_officer_41 : decode cX9_officer 41 = .ok (.iload_n 2, 1) := by decide +kernel
theorem dX9_officer_42 : decode cX9_officer 42 = .ok (.iastore, 1) := by decide +kernel
theorem dX9_officer_43 : decode cX9_officer 43 = .ok (.aload_n 0, 1) := by decide +kernel
theorem dX9_officer_44 : decode cX9_officer 44 = .ok (.getfield 13, 3) := by decide +kernel
theorem dX9_officer_47 : decode cX9_officer 47 = .ok (.iload_n 1, 1) := by decide +kernel
theorem dX9_officer_48 : decode cX9_officer 48 = .ok (.iconst 0, 1) := by decide +kernel
theorem dX9_officer_49 : decode cX9_officer 49 = .ok (.iastore, 1) := by decide +kernel
theorem dX9_officer_50 : decode cX9_officer 50 = .ok (.aload_n 0, 1) := by decide +kernel
theorem dX9_officer_51 : decode cX9_officer 51 = .ok (.getfield 73, 3) := by decide +kernel
theorem dX9_officer_54 : decode cX9_officer 54 = .ok (.invokestatic 82, 3) := by decide +kernel
theorem dX9_officer_57 : decode cX9_officer 57 = .ok (.ireturn, 1) := by decide +kernel
abbrev cxX9_officer (G : Rg) (X : Ct) : Prop := Cx G X cX9_officer 3 RX9 (some .int) 2 45 (Cond.code yX9_officer cX9_officer 3 (some .int))
def fX9_officer (x1 : Int32) (x2 : Int32) (M : Mm) : Option (Int32 × Mm) :=
bd (fX9_in x1.toInt64 (lN 0) (lN 11) M) fun r1 M1 =>
if r1 = (nI 0) then
(some ((mI 1), M1))
else
(bd (fX9_isRank x2 M1) fun r3 M3 =>
if r3 = (nI 0) then
(some ((mI 2), M3))
else
(gd (inb x1 12) (
gd (inb x1 12) (
bd (fX9_ones ((sI (sI (sI M3 0 0 ((M3.1 0 0) ||| (jshl (nI 1) x1))) 1 x1.toNatClampNeg x2) 2 x1.toNatClampNeg (nI 0)).1 0 0) (sI (sI (sI M3 0 0 ((M3.1 0 0) ||| (jshl (nI 1) x1))) 1 x1.toNatClampNeg x2) 2 x1.toNatClampNeg (nI 0))) fun r7 M7 =>
some (r7, M7)))))
set_option maxHeartbeats 4000000 in
set_option maxRecDepth 100000 in
theorem mX9_officer (l : Launch) {G : Rg} (hG : gS G = shM) {x1 : Int32} {x2 : Int32}  {M Mf : Mm} {r : Int32} (hf : fX9_officer x1 x2 M = some (r, Mf)) : Mt l G yX9_officer cX9_officer 3 (some .int) 2 45 [.ref (gA G 0), .int x1, .int x2] M (some (.int r)) Mf := by
  refine Mt.of (by decide) (Nat.le_of_ble_eq_true rfl) ?_
  intro X C hX
  subst hX
  have C : cxX9_officer G X := C
  show V G X 3 (some (.int r)) Mf 0 [(0, .ref (gA G 0)), (1, .int x1), (2, .int x2)] [] M
  rw [fX9_officer] at hf
  refine V.iload_n (pc := 0) C 1 rfl dX9_officer_0 ?_
  refine V.i2l (pc := 1) C dX9_officer_1 ?_
  refine V.lconst (pc := 2) C (lN 0) (by decide) dX9_officer_2 ?_
  refine V.ldc2 (pc := 3) C wL_X9_67 dX9_officer_3 ?_
  obtain ⟨r1, M1, h1, hf⟩ := bd_some hf
  refine V.callSi (pc := 6) (As := [.long x1.toInt64, .long (lN 0), .long (lN 11)]) (rest := []) C (mX9_in X.2.1 hG  h1) mf_X9_in wM_X9_69 rfl rfl ⟨by decide, by decide⟩ (Nat.le_of_ble_eq_true rfl) dX9_officer_6 ?_
  rcases it_some hf with ⟨h2, hf⟩ | ⟨h2, hf⟩
  · refine V.if_neF (pc := 9) C 14 h2 (by decide) dX9_officer_9 ?_
    refine V.iconst (pc := 12) C (mI 1) (by decide) dX9_officer_12 ?_
    exact V.retI (pc := 13) C hf dX9_officer_13
  · refine V.if_neT (pc := 9) C 14 h2 (by decide) dX9_officer_9 ?_
    refine V.iload_n (pc := 14) C 2 rfl dX9_officer_14 ?_
    obtain ⟨r3, M3, h3, hf⟩ := bd_some hf
    refine V.callSi (pc := 15) (As := [.int x2]) (rest := []) C (mX9_isRank X.2.1 hG  h3) mf_X9_isRank wM_X9_78 rfl rfl ⟨by decide, by decide⟩ (Nat.le_of_ble_eq_true rfl) dX9_officer_15 ?_
    rcases it_some hf with ⟨h4, hf⟩ | ⟨h4, hf⟩
    · refine V.if_neF (pc := 18) C 24 h4 (by decide) dX9_officer_18 ?_
      refine V.bipush (pc := 21) C (mI 2) (by decide) dX9_officer_21 ?_
      exact V.retI (pc := 23) C hf dX9_officer_23
    · refine V.if_neT (pc := 18) C 24 h4 (by decide) dX9_officer_18 ?_
      refine V.aload_n (pc := 24) C 0 rfl dX9_officer_24 ?_
      refine V.dup (pc := 25) C rfl dX9_officer_25 ?_
      refine V.getI (pc := 26) C clX9 inX9 (sm_0 hG) 0 (by decide) wF_X9_73 rfl dX9_officer_26 ?_
      refine V.iconst (pc := 29) C (nI 1) (by decide) dX9_officer_29 ?_
      refine V.iload_n (pc := 30) C 1 rfl dX9_officer_30 ?_
      refine V.ishl (pc := 31) C dX9_officer_31 ?_
      refine V.ior (pc := 32) C dX9_officer_32 ?_
      refine V.putI (pc := 33) C clX9 inX9 (sm_0 hG) 0 (by decide) wF_X9_73 tyX9 tyX9_ok nmX9 rfl (tyX9_ok 0 (by decide)) rfl dX9_officer_33 ?_
      refine V.aload_n (pc := 36) C 0 rfl dX9_officer_36 ?_
      refine V.getR (pc := 37) C clX9 inX9 (sm_0 hG) 2 (by decide) wF_X9_7 rfl dX9_officer_37 ?_
      refine V.iload_n (pc := 40) C 1 rfl dX9_officer_40 ?_
      refine V.iload_n (pc := 41) C 2 rfl dX9_officer_41 ?_
      obtain ⟨g5, hf⟩ := gd_some hf
      refine V.iast (pc := 42) C (sm_1 hG) (inb_in g5) dX9_officer_42 ?_
      refine V.aload_n (pc := 43) C 0 rfl dX9_officer_43 ?_
      refine V.getR (pc := 44) C clX9 inX9 (sm_0 hG) 3 (by decide) wF_X9_13 rfl dX9_officer_44 ?_
      refine V.iload_n (pc := 47) C 1 rfl dX9_officer_47 ?_
      refine V.iconst (pc := 48) C (nI 0) (by decide) dX9_officer_48 ?_
      obtain ⟨g6, hf⟩ := gd_some hf
      refine V.iast (pc := 49) C (sm_2 hG) (inb_in g6) dX9_officer_49 ?_
      refine V.aload_n (pc := 50) C 0 rfl dX9_officer_50 ?_
      refine V.getI (pc := 51) C clX9 inX9 (sm_0 hG) 0 (by decide) wF_X9_73 rfl dX9_officer_51 ?_
      obtain ⟨r7, M7, h7, hf⟩ := bd_some hf
      refine V.callSi (pc := 54) (As := [.int ((sI (sI (sI M3 0 0 ((M3.1 0 0) ||| (jshl (nI 1) x1))) 1 x1.toNatClampNeg x2) 2 x1.toNatClampNeg (nI 0)).1 0 0)]) (rest := []) C (mX9_ones X.2.1 hG  h7) mf_X9_ones wM_X9_82 rfl rfl ⟨by decide, by decide⟩ (Nat.le_of_ble_eq_true rfl) dX9_officer_54 ?_
      exact V.retI (pc := 57) C hf dX9_officer_57
theorem dX9_isOfficer_0 : decode cX9_isOfficer 0 = .ok (.iload_n 1, 1) := by decide +kernel
theorem dX9_isOfficer_1 : decode cX9_isOfficer 1 = .ok (.i2l, 1) := by decide +kernel
theorem dX9_isOfficer_2 : decode cX9_isOfficer 2 = .ok (.lconst 0, 1) := by decide +kernel
theorem dX9_isOfficer_3 : decode cX9_isOfficer 3 = .ok (.ldc2_w 67, 3) := by decide +kernel
theorem dX9_isOfficer_6 : decode cX9_isOfficer 6 = .ok (.invokestatic 69, 3) := by decide +kernel
theorem dX9_isOfficer_9 : decode cX9_isOfficer 9 = .ok (.ifCond .eq 19, 3) := by decide +kernel
theorem dX9_isOfficer_12 : decode cX9_isOfficer 12 = .ok (.aload_n 0, 1) := by decide +kernel
theorem dX9_isOfficer_13 : decode cX9_isOfficer 13 = .ok (.getfield 73, 3) := by decide +kernel
theorem dX9_isOfficer_16 : decode cX9_isOfficer 16 = .ok (.iload_n 1, 1) := by decide +kernel
theorem dX9_isOfficer_17 : decode cX9_isOfficer 17 = .ok (.ishr, 1) := by decide +kernel
theorem dX9_isOfficer_18 : decode cX9_isOfficer 18 = .ok (.iconst 1, 1) := by decide +kernel
theorem dX9_isOfficer_19 : decode cX9_isOfficer 19 = .ok (.iand, 1) := by decide +kernel
theorem dX9_isOfficer_20 : decode cX9_isOfficer 20 = .ok (.iconst 1, 1) := by decide +kernel
theorem dX9_isOfficer_21 : decode cX9_isOfficer 21 = .ok (.if_icmp .ne 7, 3) := by decide +kernel
theorem dX9_isOfficer_24 : decode cX9_isOfficer 24 = .ok (.iconst 1, 1) := by decide +kernel
theorem dX9_isOfficer_25 : decode cX9_isOfficer 25 = .ok (.goto 4, 3) := by decide +kernel
theorem dX9_isOfficer_28 : decode cX9_isOfficer 28 = .ok (.iconst 0, 1) := by decide +kernel
theorem dX9_isOfficer_29 : decode cX9_isOfficer 29 = .ok (.ireturn, 1) := by decide +kernel
abbrev cxX9_isOfficer (G : Rg) (X : Ct) : Prop := Cx G X cX9_isOfficer 2 RX9 (some .boolean) 1 25 (Cond.code yX9_isOfficer cX9_isOfficer 2 (some .boolean))
def fX9_isOfficer (x1 : Int32) (M : Mm) : Option (Int32 × Mm) :=
bd (fX9_in x1.toInt64 (lN 0) (lN 11) M) fun r1 M1 =>
if r1 = (nI 0) then
(some ((nI 0), M1))
else
(if ((jshr (M1.1 0 0) x1) &&& (nI 1)) = (nI 1) then
(some ((nI 1), M1))
else
(some ((nI 0), M1)))
set_option maxHeartbeats 4000000 in
set_option maxRecDepth 100000 in
theorem mX9_isOfficer (l : Launch) {G : Rg} (hG : gS G = shM) {x1 : Int32}  {M Mf : Mm} {r : Int32} (hf : fX9_isOfficer x1 M = some (r, Mf)) : Mt l G yX9_isOfficer cX9_isOfficer 2 (some .boolean) 1 25 [.ref (gA G 0), .int x1] M (some (.int r)) Mf := by
  refine Mt.of (by decide) (Nat.le_of_ble_eq_true rfl) ?_
  intro X C hX
  subst hX
  have C : cxX9_isOfficer G X := C
  show V G X 2 (some (.int r)) Mf 0 [(0, .ref (gA G 0)), (1, .int x1)] [] M
  rw [fX9_isOfficer] at hf
  refine V.iload_n (pc := 0) C 1 rfl dX9_isOfficer_0 ?_
  refine V.i2l (pc := 1) C dX9_isOfficer_1 ?_
  refine V.lconst (pc := 2) C (lN 0) (by decide) dX9_isOfficer_2 ?_
  refine V.ldc2 (pc := 3) C wL_X9_67 dX9_isOfficer_3 ?_
  obtain ⟨r1, M1, h1, hf⟩ := bd_some hf
  refine V.callSi (pc := 6) (As := [.long x1.toInt64, .long (lN 0), .long (lN 11)]) (rest := []) C (mX9_in X.2.1 hG  h1) mf_X9_in wM_X9_69 rfl rfl ⟨by decide, by decide⟩ (Nat.le_of_ble_eq_true rfl) dX9_isOfficer_6 ?_
  rcases it_some hf with ⟨h2, hf⟩ | ⟨h2, hf⟩
  · refine V.if_eqT (pc := 9) C 28 h2 (by decide) dX9_isOfficer_9 ?_
    refine V.iconst (pc := 28) C (nI 0) (by decide) dX9_isOfficer_28 ?_
    exact V.retZ (pc := 29) C (Or.inl rfl) hf dX9_isOfficer_29
  · refine V.if_eqF (pc := 9) C 28 h2 (by decide) dX9_isOfficer_9 ?_
    refine V.aload_n (pc := 12) C 0 rfl dX9_isOfficer_12 ?_
    refine V.getI (pc := 13) C clX9 inX9 (sm_0 hG) 0 (by decide) wF_X9_73 rfl dX9_isOfficer_13 ?_
    refine V.iload_n (pc := 16) C 1 rfl dX9_isOfficer_16 ?_
    refine V.ishr (pc := 17) C dX9_isOfficer_17 ?_
    refine V.iconst (pc := 18) C (nI 1) (by decide) dX9_isOfficer_18 ?_
    refine V.iand (pc := 19) C dX9_isOfficer_19 ?_
    refine V.iconst (pc := 20) C (nI 1) (by decide) dX9_isOfficer_20 ?_
    rcases it_some hf with ⟨h3, hf⟩ | ⟨h3, hf⟩
    · refine V.ic_neF (pc := 21) C 28 h3 (by decide) dX9_isOfficer_21 ?_
      refine V.iconst (pc := 24) C (nI 1) (by decide) dX9_isOfficer_24 ?_
      refine V.goto (pc := 25) C 29 (by decide) dX9_isOfficer_25 ?_
      exact V.retZ (pc := 29) C (Or.inr rfl) hf dX9_isOfficer_29
    · refine V.ic_neT (pc := 21) C 28 h3 (by decide) dX9_isOfficer_21 ?_
      refine V.iconst (pc := 28) C (nI 0) (by decide) dX9_isOfficer_28 ?_
      exact V.retZ (pc := 29) C (Or.inl rfl) hf dX9_isOfficer_29
theorem dX9_leave_0 : decode cX9_leave 0 = .ok (.aload_n 0, 1) := by decide +kernel
theorem dX9_leave_1 : decode cX9_leave 1 = .ok (.iload_n 1, 1) := by decide +kernel
theorem dX9_leave_2 : decode cX9_leave 2 = .ok (.invokevirtual 86, 3) := by decide +kernel
theorem dX9_leave_5 : decode cX9_leave 5 = .ok (.ifCond .ne 5, 3) := by decide +kernel
theorem dX9_leave_8 : decode cX9_leave 8 = .ok (.iconst (-1), 1) := by decide +kernel
theorem dX9_leave_9 : decode cX9_leave 9 = .ok (.ireturn, 1) := by decide +kernel
theorem dX9_leave_10 : decode cX9_leave 10 = .ok (.aload_n 0, 1) := by decide +kernel
theorem dX9_leave_11 : decode cX9_leave 11 = .ok (.dup, 1) := by decide +kernel
theorem dX9_leave_12 : decode cX9_leave 12 = .ok (.getfield 73, 3) := by decide +kernel
theorem dX9_leave_15 : decode cX9_leave 15 = .ok (.iconst 1, 1) := by decide +kernel
theorem dX9_leave_16 : decode cX9_leave 16 = .ok (.iload_n 1, 1) := by decide +kernel
theorem dX9_leave_17 : decode cX9_leave 17 = .ok (.ishl, 1) := by decide +kernel
theorem dX9_leave_18 : decode cX9_leave 18 = .ok (.iconst (-1), 1) := by decide +kernel
theorem dX9_leave_19 : decode cX9_leave 19 = .ok (.ixor, 1) := by decide +kernel
theorem dX9_leave_20 : decode cX9_leave 20 = .ok (.iand, 1) := by decide +kernel
theorem dX9_leave_21 : decode cX9_leave 21 = .ok (.putfield 73, 3) := by decide +kernel
theorem dX9_leave_24 : decode cX9_leave 24 = .ok (.aload_n 0, 1) := by decide +kernel
theorem dX9_leave_25 : decode cX9_leave 25 = .ok (.getfield 73, 3) := by decide +kernel
theorem dX9_leave_28 : decode cX9_leave 28 = .ok (.invokestatic 82, 3) := by decide +kernel
theorem dX9_leave_31 : decode cX9_leave 31 = .ok (.ireturn, 1) := by decide +kernel
abbrev cxX9_leave (G : Rg) (X : Ct) : Prop := Cx G X cX9_leave 2 RX9 (some .int) 2 46 (Cond.code yX9_leave cX9_leave 2 (some .int))
def fX9_leave (x1 : Int32) (M : Mm) : Option (Int32 × Mm) :=
bd (fX9_isOfficer x1 M) fun r1 M1 =>
if r1 = (nI 0) then
(some ((mI 1), M1))
else
(bd (fX9_ones ((sI M1 0 0 ((M1.1 0 0) &&& ((jshl (nI 1) x1) ^^^ (mI 1)))).1 0 0) (sI M1 0 0 ((M1.1 0 0) &&& ((jshl (nI 1) x1) ^^^ (mI 1))))) fun r3 M3 =>
some (r3, M3))
set_option maxHeartbeats 4000000 in
set_option maxRecDepth 100000 in
theorem mX9_leave (l : Launch) {G : Rg} (hG : gS G = shM) {x1 : Int32}  {M Mf : Mm} {r : Int32} (hf : fX9_leave x1 M = some (r, Mf)) : Mt l G yX9_leave cX9_leave 2 (some .int) 2 46 [.ref (gA G 0), .int x1] M (some (.int r)) Mf := by
  refine Mt.of (by decide) (Nat.le_of_ble_eq_true rfl) ?_
  intro X C hX
  subst hX
  have C : cxX9_leave G X := C
  show V G X 2 (some (.int r)) Mf 0 [(0, .ref (gA G 0)), (1, .int x1)] [] M
  rw [fX9_leave] at hf
  refine V.aload_n (pc := 0) C 0 rfl dX9_leave_0 ?_
  refine V.iload_n (pc := 1) C 1 rfl dX9_leave_1 ?_
  obtain ⟨r1, M1, h1, hf⟩ := bd_some hf
  refine V.callVi (pc := 2) (As := [.int x1]) (rest := []) C (mX9_isOfficer X.2.1 hG  h1) mf_X9_isOfficer clX9 (sm_0 hG) wM_X9_86 rfl rfl ⟨by decide, by decide⟩ (Nat.le_of_ble_eq_true rfl) dX9_leave_2 ?_
  rcases it_some hf with ⟨h2, hf⟩ | ⟨h2, hf⟩
  · refine V.if_neF (pc := 5) C 10 h2 (by decide) dX9_leave_5 ?_
    refine V.iconst (pc := 8) C (mI 1) (by decide) dX9_leave_8 ?_
    exact V.retI (pc := 9) C hf dX9_leave_9
  · refine V.if_neT (pc := 5) C 10 h2 (by decide) dX9_leave_5 ?_
    refine V.aload_n (pc := 10) C 0 rfl dX9_leave_10 ?_
    refine V.dup (pc := 11) C rfl dX9_leave_11 ?_
    refine V.getI (pc := 12) C clX9 inX9 (sm_0 hG) 0 (by decide) wF_X9_73 rfl dX9_leave_12 ?_
    refine V.iconst (pc := 15) C (nI 1) (by decide) dX9_leave_15 ?_
    refine V.iload_n (pc := 16) C 1 rfl dX9_leave_16 ?_
    refine V.ishl (pc := 17) C dX9_leave_17 ?_
    refine V.iconst (pc := 18) C (mI 1) (by decide) dX9_leave_18 ?_
    refine V.ixor (pc := 19) C dX9_leave_19 ?_
    refine V.iand (pc := 20) C dX9_leave_20 ?_
    refine V.putI (pc := 21) C clX9 inX9 (sm_0 hG) 0 (by decide) wF_X9_73 tyX9 tyX9_ok nmX9 rfl (tyX9_ok 0 (by decide)) rfl dX9_leave_21 ?_
    refine V.aload_n (pc := 24) C 0 rfl dX9_leave_24 ?_
    refine V.getI (pc := 25) C clX9 inX9 (sm_0 hG) 0 (by decide) wF_X9_73 rfl dX9_leave_25 ?_
    obtain ⟨r3, M3, h3, hf⟩ := bd_some hf
    refine V.callSi (pc := 28) (As := [.int ((sI M1 0 0 ((M1.1 0 0) &&& ((jshl (nI 1) x1) ^^^ (mI 1)))).1 0 0)]) (rest := []) C (mX9_ones X.2.1 hG  h3) mf_X9_ones wM_X9_82 rfl rfl ⟨by decide, by decide⟩ (Nat.le_of_ble_eq_true rfl) dX9_leave_28 ?_
    exact V.retI (pc := 31) C hf dX9_leave_31
theorem dX9_rate_0 : decode cX9_rate 0 = .ok (.iload_n 1, 1) := by decide +kernel
theorem dX9_rate_1 : decode cX9_rate 1 = .ok (.invokestatic 78, 3) := by decide +kernel
theorem dX9_rate_4 : decode cX9_rate 4 = .ok (.ifCond .eq 15, 3) := by decide +kernel
theorem dX9_rate_7 : decode cX9_rate 7 = .ok (.iload_n 2, 1) := by decide +kernel
theorem dX9_rate_8 : decode cX9_rate 8 = .ok (.i2l, 1) := by decide +kernel
theorem dX9_rate_9 : decode cX9_rate 9 = .ok (.lconst 1, 1) := by decide +kernel
theorem dX9_rate_10 : decode cX9_rate 10 = .ok (.ldc2_w 89, 3) := by decide +kernel
theorem dX9_rate_13 : decode cX9_rate 13 = .ok (.invokestatic 69, 3) := by decide +kernel
theorem dX9_rate_16 : decode cX9_rate 16 = .ok (.ifCond .ne 6, 3) := by decide +kernel
theorem dX9_rate_19 : decode cX9_rate 19 = .ok (.bipush (-2), 2) := by decide +kernel
theorem dX9_rate_21 : decode cX9_rate 21 = .ok (.ireturn, 1) := by decide +kernel
theorem dX9_rate_22 : decode cX9_rate 22 = .ok (.aload_n 0, 1) := by decide +kernel
theorem dX9_rate_23 : decode cX9_rate 23 = .ok (.getfield 16, 3) := by decide +kernel
theorem dX9_rate_26 : decode cX9_rate 26 = .ok (.iload_n 1, 1) := by decide +kernel
theorem dX9_rate_27 : decode cX9_rate 27 = .ok (.iaload, 1) := by decide +kernel
theorem dX9_rate_28 : decode cX9_rate 28 = .ok (.istore_n 3, 1) := by decide +kernel
theorem dX9_rate_29 : decode cX9_rate 29 = .ok (.aload_n 0, 1) := by decide +kernel
theorem dX9_rate_30 : decode cX9_rate 30 = .ok (.getfield 16, 3) := by decide +kernel
theorem dX9_rate_33 : decode cX9_rate 33 = .ok (.iload_n 1, 1) := by decide +kernel
theorem dX9_rate_34 : decode cX9_rate 34 = .ok (.iload_n 2, 1) := by decide +kernel
theorem dX9_rate_35 : decode cX9_rate 35 = .ok (.iastore, 1) := by decide +kernel
theorem dX9_rate_36 : decode cX9_rate 36 = .ok (.iload_n 3, 1) := by decide +kernel
theorem dX9_rate_37 : decode cX9_rate 37 = .ok (.ireturn, 1) := by decide +kernel
abbrev cxX9_rate (G : Rg) (X : Ct) : Prop := Cx G X cX9_rate 4 RX9 (some .int) 2 45 (Cond.code yX9_rate cX9_rate 4 (some .int))
def fX9_rate (x1 : Int32) (x2 : Int32) (M : Mm) : Option (Int32 × Mm) :=
bd (fX9_isRank x1 M) fun r1 M1 =>
if r1 = (nI 0) then
(some ((mI 2), M1))
else
(bd (fX9_in x2.toInt64 (lN 1) (lN 99) M1) fun r3 M3 =>
if r3 = (nI 0) then
(some ((mI 2), M3))
else
(gd (inb x1 6) (
gd (inb x1 6) (
some ((M3.1 3 x1.toNatClampNeg), (sI M3 3 x1.toNatClampNeg x2))))))
set_option maxHeartbeats 4000000 in
set_option maxRecDepth 100000 in
theorem mX9_rate (l : Launch) {G : Rg} (hG : gS G = shM) {x1 : Int32} {x2 : Int32}  {M Mf : Mm} {r : Int32} (hf : fX9_rate x1 x2 M = some (r, Mf)) : Mt l G yX9_rate cX9_rate 4 (some .int) 2 45 [.ref (gA G 0), .int x1, .int x2] M (some (.int r)) Mf := by
  refine Mt.of (by decide) (Nat.le_of_ble_eq_true rfl) ?_
  intro X C hX
  subst hX
  have C : cxX9_rate G X := C
  show V G X 4 (some (.int r)) Mf 0 [(0, .ref (gA G 0)), (1, .int x1), (2, .int x2)] [] M
  rw [fX9_rate] at hf
  refine V.iload_n (pc := 0) C 1 rfl dX9_rate_0 ?_
  obtain ⟨r1, M1, h1, hf⟩ := bd_some hf
  refine V.callSi (pc := 1) (As := [.int x1]) (rest := []) C (mX9_isRank X.2.1 hG  h1) mf_X9_isRank wM_X9_78 rfl rfl ⟨by decide, by decide⟩ (Nat.le_of_ble_eq_true rfl) dX9_rate_1 ?_
  rcases it_some hf with ⟨h2, hf⟩ | ⟨h2, hf⟩
  · refine V.if_eqT (pc := 4) C 19 h2 (by decide) dX9_rate_4 ?_
    refine V.bipush (pc := 19) C (mI 2) (by decide) dX9_rate_19 ?_
    exact V.retI (pc := 21) C hf dX9_rate_21
  · refine V.if_eqF (pc := 4) C 19 h2 (by decide) dX9_rate_4 ?_
    refine V.iload_n (pc := 7) C 2 rfl dX9_rate_7 ?_
    refine V.i2l (pc := 8) C dX9_rate_8 ?_
    refine V.lconst (pc := 9) C (lN 1) (by decide) dX9_rate_9 ?_
    refine V.ldc2 (pc := 10) C wL_X9_89 dX9_rate_10 ?_
    obtain ⟨r3, M3, h3, hf⟩ := bd_some hf
    refine V.callSi (pc := 13) (As := [.long x2.toInt64, .long (lN 1), .long (lN 99)]) (rest := []) C (mX9_in X.2.1 hG  h3) mf_X9_in wM_X9_69 rfl rfl ⟨by decide, by decide⟩ (Nat.le_of_ble_eq_true rfl) dX9_rate_13 ?_
    rcases it_some hf with ⟨h4, hf⟩ | ⟨h4, hf⟩
    · refine V.if_neF (pc := 16) C 22 h4 (by decide) dX9_rate_16 ?_
      refine V.bipush (pc := 19) C (mI 2) (by decide) dX9_rate_19 ?_
      exact V.retI (pc := 21) C hf dX9_rate_21
    · refine V.if_neT (pc := 16) C 22 h4 (by decide) dX9_rate_16 ?_
      refine V.aload_n (pc := 22) C 0 rfl dX9_rate_22 ?_
      refine V.getR (pc := 23) C clX9 inX9 (sm_0 hG) 4 (by decide) wF_X9_16 rfl dX9_rate_23 ?_
      refine V.iload_n (pc := 26) C 1 rfl dX9_rate_26 ?_
      obtain ⟨g5, hf⟩ := gd_some hf
      refine V.iald (pc := 27) C (sm_3 hG) (inb_in g5) dX9_rate_27 ?_
      refine V.istore_n (pc := 28) (lv' := [(3, .int (M3.1 3 x1.toNatClampNeg)), (0, .ref (gA G 0)), (1, .int x1), (2, .int x2)]) C (by decide) rfl dX9_rate_28 ?_
      refine V.aload_n (pc := 29) C 1 rfl dX9_rate_29 ?_
      refine V.getR (pc := 30) C clX9 inX9 (sm_0 hG) 4 (by decide) wF_X9_16 rfl dX9_rate_30 ?_
      refine V.iload_n (pc := 33) C 2 rfl dX9_rate_33 ?_
      refine V.iload_n (pc := 34) C 3 rfl dX9_rate_34 ?_
      obtain ⟨g6, hf⟩ := gd_some hf
      refine V.iast (pc := 35) C (sm_3 hG) (inb_in g6) dX9_rate_35 ?_
      refine V.iload_n (pc := 36) C 0 rfl dX9_rate_36 ?_
      exact V.retI (pc := 37) C hf dX9_rate_37
theorem dX9_trust_0 : decode cX9_trust 0 = .ok (.iload_n 1, 1) := by decide +kernel
theorem dX9_trust_1 : decode cX9_trust 1 = .ok (.i2l, 1) := by decide +kernel
theorem dX9_trust_2 : decode cX9_trust 2 = .ok (.lconst 0, 1) := by decide +kernel
theorem dX9_trust_3 : decode cX9_trust 3 = .ok (.ldc2_w 91, 3) := by decide +kernel
theorem dX9_trust_6 : decode cX9_trust 6 = .ok (.invokestatic 69, 3) := by decide +kernel
theorem dX9_trust_9 : decode cX9_trust 9 = .ok (.ifCond .ne 6, 3) := by decide +kernel
theorem dX9_trust_12 : decode cX9_trust 12 = .ok (.bipush (-2), 2) := by decide +kernel
theorem dX9_trust_14 : decode cX9_trust 14 = .ok (.ireturn, 1) := by decide +kernel
theorem dX9_trust_15 : decode cX9_trust 15 = .ok (.aload_n 0, 1) := by decide +kernel
theorem dX9_trust_16 : decode cX9_trust 16 = .ok (.getfield 63, 3) := by decide +kernel
theorem dX9_trust_19 : decode cX9_trust 19 = .ok (.istore_n 2, 1) := by decide +kernel
theorem dX9_trust_20 : decode cX9_trust 20 = .ok (.aload_n 0, 1) := by decide +kernel
theorem dX9_trust_21 : decode cX9_trust 21 = .ok (.iload_n 1, 1) := by decide +kernel
theorem dX9_trust_22 : decode cX9_trust 22 = .ok (.putfield 63, 3) := by decide +kernel
theorem dX9_trust_25 : decode cX9_trust 25 = .ok (.iload_n 2, 1) := by decide +kernel
theorem dX9_trust_26 : decode cX9_trust 26 = .ok (.ireturn, 1) := by decide +kernel
abbrev cxX9_trust (G : Rg) (X : Ct) : Prop := Cx G X cX9_trust 3 RX9 (some .int) 1 25 (Cond.code yX9_trust cX9_trust 3 (some .int))
def fX9_trust (x1 : Int32) (M : Mm) : Option (Int32 × Mm) :=
bd (fX9_in x1.toInt64 (lN 0) (lN 9) M) fun r1 M1 =>
if r1 = (nI 0) then
(some ((mI 2), M1))
else
(some ((M1.1 0 1), (sI M1 0 1 x1)))
set_option maxHeartbeats 4000000 in
set_option maxRecDepth 100000 in
theorem mX9_trust (l : Launch) {G : Rg} (hG : gS G = shM) {x1 : Int32}  {M Mf : Mm} {r : Int32} (hf : fX9_trust x1 M = some (r, Mf)) : Mt l G yX9_trust cX9_trust 3 (some .int) 1 25 [.ref (gA G 0), .int x1] M (some (.int r)) Mf := by
  refine Mt.of (by decide) (Nat.le_of_ble_eq_true rfl) ?_
  intro X C hX
  subst hX
  have C : cxX9_trust G X := C
  show V G X 3 (some (.int r)) Mf 0 [(0, .ref (gA G 0)), (1, .int x1)] [] M
  rw [fX9_trust] at hf
  refine V.iload_n (pc := 0) C 1 rfl dX9_trust_0 ?_
  refine V.i2l (pc := 1) C dX9_trust_1 ?_
  refine V.lconst (pc := 2) C (lN 0) (by decide) dX9_trust_2 ?_
  refine V.ldc2 (pc := 3) C wL_X9_91 dX9_trust_3 ?_
  obtain ⟨r1, M1, h1, hf⟩ := bd_some hf
  refine V.callSi (pc := 6) (As := [.long x1.toInt64, .long (lN 0), .long (lN 9)]) (rest := []) C (mX9_in X.2.1 hG  h1) mf_X9_in wM_X9_69 rfl rfl ⟨by decide, by decide⟩ (Nat.le_of_ble_eq_true rfl) dX9_trust_6 ?_
  rcases it_some hf with ⟨h2, hf⟩ | ⟨h2, hf⟩
  · refine V.if_neF (pc := 9) C 15 h2 (by decide) dX9_trust_9 ?_
    refine V.bipush (pc := 12) C (mI 2) (by decide) dX9_trust_12 ?_
    exact V.retI (pc := 14) C hf dX9_trust_14
  · refine V.if_neT (pc := 9) C 15 h2 (by decide) dX9_trust_9 ?_
    refine V.aload_n (pc := 15) C 0 rfl dX9_trust_15 ?_
    refine V.getI (pc := 16) C clX9 inX9 (sm_0 hG) 1 (by decide) wF_X9_63 rfl dX9_trust_16 ?_
    refine V.istore_n (pc := 19) (lv' := [(2, .int (M1.1 0 1)), (0, .ref (gA G 0)), (1, .int x1)]) C (by decide) rfl dX9_trust_19 ?_
    refine V.aload_n (pc := 20) C 1 rfl dX9_trust_20 ?_
    refine V.iload_n (pc := 21) C 2 rfl dX9_trust_21 ?_
    refine V.putI (pc := 22) C clX9 inX9 (sm_0 hG) 1 (by decide) wF_X9_63 tyX9 tyX9_ok nmX9 rfl (tyX9_ok 1 (by decide)) rfl dX9_trust_22 ?_
    refine V.iload_n (pc := 25) C 0 rfl dX9_trust_25 ?_
    exact V.retI (pc := 26) C hf dX9_trust_26
theorem dX9_say_0 : decode cX9_say 0 = .ok (.iload_n 1, 1) := by decide +kernel
theorem dX9_say_1 : decode cX9_say 1 = .ok (.i2l, 1) := by decide +kernel
theorem dX9_say_2 : decode cX9_say 2 = .ok (.ldc2_w 93, 3) := by decide +kernel
theorem dX9_say_5 : decode cX9_say 5 = .ok (.ldc2_w 95, 3) := by decide +kernel
theorem dX9_say_8 : decode cX9_say 8 = .ok (.invokestatic 69, 3) := by decide +kernel
theorem dX9_say_11 : decode cX9_say 11 = .ok (.ifCond .ne 6, 3) := by decide +kernel
theorem dX9_say_14 : decode cX9_say 14 = .ok (.bipush (-2), 2) := by decide +kernel
theorem dX9_say_16 : decode cX9_say 16 = .ok (.ireturn, 1) := by decide +kernel
theorem dX9_say_17 : decode cX9_say 17 = .ok (.aload_n 0, 1) := by decide +kernel
theorem dX9_say_18 : decode cX9_say 18 = .ok (.getfield 97, 3) := by decide +kernel
theorem dX9_say_21 : decode cX9_say 21 = .ok (.bipush 60, 2) := by decide +kernel
theorem dX9_say_23 : decode cX9_say 23 = .ok (.if_icmp .ne 6, 3) := by decide +kernel
theorem dX9_say_26 : decode cX9_say 26 = .ok (.bipush (-4), 2) := by decide +kernel
theorem dX9_say_28 : decode cX9_say 28 = .ok (.ireturn, 1) := by decide +kernel
theorem dX9_say_29 : decode cX9_say 29 = .ok (.aload_n 0, 1) := by decide +kernel
theorem dX9_say_30 : decode cX9_say 30 = .ok (.getfield 28, 3) := by decide +kernel
theorem dX9_say_33 : decode cX9_say 33 = .ok (.aload_n 0, 1) := by decide +kernel
theorem dX9_say_34 : decode cX9_say 34 = .ok (.getfield 97, 3) := by decide +kernel
theorem dX9_say_37 : decode cX9_say 37 = .ok (.iload_n 1, 1) := by decide +kernel
theorem dX9_say_38 : decode cX9_say 38 = .ok (.iastore, 1) := by decide +kernel
theorem dX9_say_39 : decode cX9_say 39 = .ok (.aload_n 0, 1) := by decide +kernel
theorem dX9_say_40 : decode cX9_say 40 = .ok (.dup, 1) := by decide +kernel
theorem dX9_say_41 : decode cX9_say 41 = .ok (.getfield 97, 3) := by decide +kernel
theorem dX9_say_44 : decode cX9_say 44 = .ok (.iconst 1, 1) := by decide +kernel
theorem dX9_say_45 : decode cX9_say 45 = .ok (.iadd, 1) := by decide +kernel
theorem dX9_say_46 : decode cX9_say 46 = .ok (.putfield 97, 3) := by decide +kernel
theorem dX9_say_49 : decode cX9_say 49 = .ok (.aload_n 0, 1) := by decide +kernel
theorem dX9_say_50 : decode cX9_say 50 = .ok (.getfield 97, 3) := by decide +kernel
theorem dX9_say_53 : decode cX9_say 53 = .ok (.ireturn, 1) := by decide +kernel
abbrev cxX9_say (G : Rg) (X : Ct) : Prop := Cx G X cX9_say 2 RX9 (some .int) 1 25 (Cond.code yX9_say cX9_say 2 (some .int))
def fX9_say (x1 : Int32) (M : Mm) : Option (Int32 × Mm) :=
bd (fX9_in x1.toInt64 (lN 33) (lN 126) M) fun r1 M1 =>
if r1 = (nI 0) then
(some ((mI 2), M1))
else
(if (M1.1 0 10) = (nI 60) then
(some ((mI 4), M1))
else
(gd (inb (M1.1 0 10) 60) (
some (((sI (sI M1 7 (M1.1 0 10).toNatClampNeg x1) 0 10 (((sI M1 7 (M1.1 0 10).toNatClampNeg x1).1 0 10) + (nI 1))).1 0 10), (sI (sI M1 7 (M1.1 0 10).toNatClampNeg x1) 0 10 (((sI M1 7 (M1.1 0 10).toNatClampNeg x1).1 0 10) + (nI 1)))))))
set_option maxHeartbeats 4000000 in
set_option maxRecDepth 100000 in
theorem mX9_say (l : Launch) {G : Rg} (hG : gS G = shM) {x1 : Int32}  {M Mf : Mm} {r : Int32} (hf : fX9_say x1 M = some (r, Mf)) : Mt l G yX9_say cX9_say 2 (some .int) 1 25 [.ref (gA G 0), .int x1] M (some (.int r)) Mf := by
  refine Mt.of (by decide) (Nat.le_of_ble_eq_true rfl) ?_
  intro X C hX
  subst hX
  have C : cxX9_say G X := C
  show V G X 2 (some (.int r)) Mf 0 [(0, .ref (gA G 0)), (1, .int x1)] [] M
  rw [fX9_say] at hf
  refine V.iload_n (pc := 0) C 1 rfl dX9_say_0 ?_
  refine V.i2l (pc := 1) C dX9_say_1 ?_
  refine V.ldc2 (pc := 2) C wL_X9_93 dX9_say_2 ?_
  refine V.ldc2 (pc := 5) C wL_X9_95 dX9_say_5 ?_
  obtain ⟨r1, M1, h1, hf⟩ := bd_some hf
  refine V.callSi (pc := 8) (As := [.long x1.toInt64, .long (lN 33), .long (lN 126)]) (rest := []) C (mX9_in X.2.1 hG  h1) mf_X9_in wM_X9_69 rfl rfl ⟨by decide, by decide⟩ (Nat.le_of_ble_eq_true rfl) dX9_say_8 ?_
  rcases it_some hf with ⟨h2, hf⟩ | ⟨h2, hf⟩
  · refine V.if_neF (pc := 11) C 17 h2 (by decide) dX9_say_11 ?_
    refine V.bipush (pc := 14) C (mI 2) (by decide) dX9_say_14 ?_
    exact V.retI (pc := 16) C hf dX9_say_16
  · refine V.if_neT (pc := 11) C 17 h2 (by decide) dX9_say_11 ?_
    refine V.aload_n (pc := 17) C 0 rfl dX9_say_17 ?_
    refine V.getI (pc := 18) C clX9 inX9 (sm_0 hG) 10 (by decide) wF_X9_97 rfl dX9_say_18 ?_
    refine V.bipush (pc := 21) C (nI 60) (by decide) dX9_say_21 ?_
    rcases it_some hf with ⟨h3, hf⟩ | ⟨h3, hf⟩
    · refine V.ic_neF (pc := 23) C 29 h3 (by decide) dX9_say_23 ?_
      refine V.bipush (pc := 26) C (mI 4) (by decide) dX9_say_26 ?_
      exact V.retI (pc := 28) C hf dX9_say_28
    · refine V.ic_neT (pc := 23) C 29 h3 (by decide) dX9_say_23 ?_
      refine V.aload_n (pc := 29) C 0 rfl dX9_say_29 ?_
      refine V.getR (pc := 30) C clX9 inX9 (sm_0 hG) 9 (by decide) wF_X9_28 rfl dX9_say_30 ?_
      refine V.aload_n (pc := 33) C 0 rfl dX9_say_33 ?_
      refine V.getI (pc := 34) C clX9 inX9 (sm_0 hG) 10 (by decide) wF_X9_97 rfl dX9_say_34 ?_
      refine V.iload_n (pc := 37) C 1 rfl dX9_say_37 ?_
      obtain ⟨g4, hf⟩ := gd_some hf
      refine V.iast (pc := 38) C (sm_7 hG) (inb_in g4) dX9_say_38 ?_
      refine V.aload_n (pc := 39) C 0 rfl dX9_say_39 ?_
      refine V.dup (pc := 40) C rfl dX9_say_40 ?_
      refine V.getI (pc := 41) C clX9 inX9 (sm_0 hG) 10 (by decide) wF_X9_97 rfl dX9_say_41 ?_
      refine V.iconst (pc := 44) C (nI 1) (by decide) dX9_say_44 ?_
      refine V.iadd (pc := 45) C dX9_say_45 ?_
      refine V.putI (pc := 46) C clX9 inX9 (sm_0 hG) 10 (by decide) wF_X9_97 tyX9 tyX9_ok nmX9 rfl (tyX9_ok 10 (by decide)) rfl dX9_say_46 ?_
      refine V.aload_n (pc := 49) C 0 rfl dX9_say_49 ?_
      refine V.getI (pc := 50) C clX9 inX9 (sm_0 hG) 10 (by decide) wF_X9_97 rfl dX9_say_50 ?_
      exact V.retI (pc := 53) C hf dX9_say_53
theorem dX9_wipe_0 : decode cX9_wipe 0 = .ok (.aload_n 0, 1) := by decide +kernel
theorem dX9_wipe_1 : decode cX9_wipe 1 = .ok (.getfield 97, 3) := by decide +kernel
theorem dX9_wipe_4 : decode cX9_wipe 4 = .ok (.istore_n 1, 1) := by decide +kernel
theorem dX9_wipe_5 : decode cX9_wipe 5 = .ok (.aload_n 0, 1) := by decide +kernel
theorem dX9_wipe_6 : decode cX9_wipe 6 = .ok (.iconst 0, 1) := by decide +kernel
theorem dX9_wipe_7 : decode cX9_wipe 7 = .ok (.putfield 97, 3) := by decide +kernel
theorem dX9_wipe_10 : decode cX9_wipe 10 = .ok (.iload_n 1, 1) := by decide +kernel
theorem dX9_wipe_11 : decode cX9_wipe 11 = .ok (.ireturn, 1) := by decide +kernel
abbrev cxX9_wipe (G : Rg) (X : Ct) : Prop := Cx G X cX9_wipe 2 RX9 (some .int) 0 0 (Cond.code yX9_wipe cX9_wipe 2 (some .int))
def fX9_wipe  (M : Mm) : Option (Int32 × Mm) :=
some ((M.1 0 10), (sI M 0 10 (nI 0)))
set_option maxHeartbeats 4000000 in
set_option maxRecDepth 100000 in
theorem mX9_wipe (l : Launch) {G : Rg} (hG : gS G = shM)   {M Mf : Mm} {r : Int32} (hf : fX9_wipe  M = some (r, Mf)) : Mt l G yX9_wipe cX9_wipe 2 (some .int) 0 0 [.ref (gA G 0)] M (some (.int r)) Mf := by
  refine Mt.of (by decide) (Nat.le_of_ble_eq_true rfl) ?_
  intro X C hX
  subst hX
  have C : cxX9_wipe G X := C
  show V G X 2 (some (.int r)) Mf 0 [(0, .ref (gA G 0))] [] M
  rw [fX9_wipe] at hf
  refine V.aload_n (pc := 0) C 0 rfl dX9_wipe_0 ?_
  refine V.getI (pc := 1) C clX9 inX9 (sm_0 hG) 10 (by decide) wF_X9_97 rfl dX9_wipe_1 ?_
  refine V.istore_n (pc := 4) (lv' := [(1, .int (M.1 0 10)), (0, .ref (gA G 0))]) C (by decide) rfl dX9_wipe_4 ?_
  refine V.aload_n (pc := 5) C 1 rfl dX9_wipe_5 ?_
  refine V.iconst (pc := 6) C (nI 0) (by decide) dX9_wipe_6 ?_
  refine V.putI (pc := 7) C clX9 inX9 (sm_0 hG) 10 (by decide) wF_X9_97 tyX9 tyX9_ok nmX9 rfl (tyX9_ok 10 (by decide)) rfl dX9_wipe_7 ?_
  refine V.iload_n (pc := 10) C 0 rfl dX9_wipe_10 ?_
  exact V.retI (pc := 11) C hf dX9_wipe_11
theorem dX9_ours_0 : decode cX9_ours 0 = .ok (.iload_n 0, 1) := by decide +kernel
theorem dX9_ours_1 : decode cX9_ours 1 = .ok (.i2l, 1) := by decide +kernel
theorem dX9_ours_2 : decode cX9_ours 2 = .ok (.ldc2_w 100, 3) := by decide +kernel
theorem dX9_ours_5 : decode cX9_ours 5 = .ok (.ldc2_w 102, 3) := by decide +kernel
theorem dX9_ours_8 : decode cX9_ours 8 = .ok (.invokestatic 69, 3) := by decide +kernel
theorem dX9_ours_11 : decode cX9_ours 11 = .ok (.ifCond .eq 10, 3) := by decide +kernel
theorem dX9_ours_14 : decode cX9_ours 14 = .ok (.iload_n 0, 1) := by decide +kernel
theorem dX9_ours_15 : decode cX9_ours 15 = .ok (.bipush 65, 2) := by decide +kernel
theorem dX9_ours_17 : decode cX9_ours 17 = .ok (.isub, 1) := by decide +kernel
theorem dX9_ours_18 : decode cX9_ours 18 = .ok (.goto 5, 3) := by decide +kernel
theorem dX9_ours_21 : decode cX9_ours 21 = .ok (.bipush (-6), 2) := by decide +kernel
theorem dX9_ours_23 : decode cX9_ours 23 = .ok (.ireturn, 1) := by decide +kernel
abbrev cxX9_ours (G : Rg) (X : Ct) : Prop := Cx G X cX9_ours 1 RX9 (some .int) 1 25 (Cond.code yX9_ours cX9_ours 1 (some .int))
def fX9_ours (x0 : Int32) (M : Mm) : Option (Int32 × Mm) :=
bd (fX9_in x0.toInt64 (lN 65) (lN 70) M) fun r1 M1 =>
if r1 = (nI 0) then
(some ((mI 6), M1))
else
(some ((x0 - (nI 65)), M1))
set_option maxHeartbeats 4000000 in
set_option maxRecDepth 100000 in
theorem mX9_ours (l : Launch) {G : Rg} (hG : gS G = shM) {x0 : Int32}  {M Mf : Mm} {r : Int32} (hf : fX9_ours x0 M = some (r, Mf)) : Mt l G yX9_ours cX9_ours 1 (some .int) 1 25 [.int x0] M (some (.int r)) Mf := by
  refine Mt.of (by decide) (Nat.le_of_ble_eq_true rfl) ?_
  intro X C hX
  subst hX
  have C : cxX9_ours G X := C
  show V G X 1 (some (.int r)) Mf 0 [(0, .int x0)] [] M
  rw [fX9_ours] at hf
  refine V.iload_n (pc := 0) C 0 rfl dX9_ours_0 ?_
  refine V.i2l (pc := 1) C dX9_ours_1 ?_
  refine V.ldc2 (pc := 2) C wL_X9_100 dX9_ours_2 ?_
  refine V.ldc2 (pc := 5) C wL_X9_102 dX9_ours_5 ?_
  obtain ⟨r1, M1, h1, hf⟩ := bd_some hf
  refine V.callSi (pc := 8) (As := [.long x0.toInt64, .long (lN 65), .long (lN 70)]) (rest := []) C (mX9_in X.2.1 hG  h1) mf_X9_in wM_X9_69 rfl rfl ⟨by decide, by decide⟩ (Nat.le_of_ble_eq_true rfl) dX9_ours_8 ?_
  rcases it_some hf with ⟨h2, hf⟩ | ⟨h2, hf⟩
  · refine V.if_eqT (pc := 11) C 21 h2 (by decide) dX9_ours_11 ?_
    refine V.bipush (pc := 21) C (mI 6) (by decide) dX9_ours_21 ?_
    exact V.retI (pc := 23) C hf dX9_ours_23
  · refine V.if_eqF (pc := 11) C 21 h2 (by decide) dX9_ours_11 ?_
    refine V.iload_n (pc := 14) C 0 rfl dX9_ours_14 ?_
    refine V.bipush (pc := 15) C (nI 65) (by decide) dX9_ours_15 ?_
    refine V.isub (pc := 17) C dX9_ours_17 ?_
    refine V.goto (pc := 18) C 23 (by decide) dX9_ours_18 ?_
    exact V.retI (pc := 23) C hf dX9_ours_23
theorem dX9_theirs_0 : decode cX9_theirs 0 = .ok (.iload_n 0, 1) := by decide +kernel
theorem dX9_theirs_1 : decode cX9_theirs 1 = .ok (.i2l, 1) := by decide +kernel
theorem dX9_theirs_2 : decode cX9_theirs 2 = .ok (.ldc2_w 104, 3) := by decide +kernel
theorem dX9_theirs_5 : decode cX9_theirs 5 = .ok (.ldc2_w 106, 3) := by decide +kernel
theorem dX9_theirs_8 : decode cX9_theirs 8 = .ok (.invokestatic 69, 3) := by decide +kernel
theorem dX9_theirs_11 : decode cX9_theirs 11 = .ok (.ifCond .eq 13, 3) := by decide +kernel
theorem dX9_theirs_14 : decode cX9_theirs 14 = .ok (.iload_n 0, 1) := by decide +kernel
theorem dX9_theirs_15 : decode cX9_theirs 15 = .ok (.bipush 97, 2) := by decide +kernel
theorem dX9_theirs_17 : decode cX9_theirs 17 = .ok (.isub, 1) := by decide +kernel
theorem dX9_theirs_18 : decode cX9_theirs 18 = .ok (.bipush 6, 2) := by decide +kernel
theorem dX9_theirs_20 : decode cX9_theirs 20 = .ok (.iadd, 1) := by decide +kernel
theorem dX9_theirs_21 : decode cX9_theirs 21 = .ok (.goto 5, 3) := by decide +kernel
theorem dX9_theirs_24 : decode cX9_theirs 24 = .ok (.bipush (-6), 2) := by decide +kernel
theorem dX9_theirs_26 : decode cX9_theirs 26 = .ok (.ireturn, 1) := by decide +kernel
abbrev cxX9_theirs (G : Rg) (X : Ct) : Prop := Cx G X cX9_theirs 1 RX9 (some .int) 1 25 (Cond.code yX9_theirs cX9_theirs 1 (some .int))
def fX9_theirs (x0 : Int32) (M : Mm) : Option (Int32 × Mm) :=
bd (fX9_in x0.toInt64 (lN 97) (lN 102) M) fun r1 M1 =>
if r1 = (nI 0) then
(some ((mI 6), M1))
else
(some (((x0 - (nI 97)) + (nI 6)), M1))
set_option maxHeartbeats 4000000 in
set_option maxRecDepth 100000 in
theorem mX9_theirs (l : Launch) {G : Rg} (hG : gS G = shM) {x0 : Int32}  {M Mf : Mm} {r : Int32} (hf : fX9_theirs x0 M = some (r, Mf)) : Mt l G yX9_theirs cX9_theirs 1 (some .int) 1 25 [.int x0] M (some (.int r)) Mf := by
  refine Mt.of (by decide) (Nat.le_of_ble_eq_true rfl) ?_
  intro X C hX
  subst hX
  have C : cxX9_theirs G X := C
  show V G X 1 (some (.int r)) Mf 0 [(0, .int x0)] [] M
  rw [fX9_theirs] at hf
  refine V.iload_n (pc := 0) C 0 rfl dX9_theirs_0 ?_
  refine V.i2l (pc := 1) C dX9_theirs_1 ?_
  refine V.ldc2 (pc := 2) C wL_X9_104 dX9_theirs_2 ?_
  refine V.ldc2 (pc := 5) C wL_X9_106 dX9_theirs_5 ?_
  obtain ⟨r1, M1, h1, hf⟩ := bd_some hf
  refine V.callSi (pc := 8) (As := [.long x0.toInt64, .long (lN 97), .long (lN 102)]) (rest := []) C (mX9_in X.2.1 hG  h1) mf_X9_in wM_X9_69 rfl rfl ⟨by decide, by decide⟩ (Nat.le_of_ble_eq_true rfl) dX9_theirs_8 ?_
  rcases it_some hf with ⟨h2, hf⟩ | ⟨h2, hf⟩
  · refine V.if_eqT (pc := 11) C 24 h2 (by decide) dX9_theirs_11 ?_
    refine V.bipush (pc := 24) C (mI 6) (by decide) dX9_theirs_24 ?_
    exact V.retI (pc := 26) C hf dX9_theirs_26
  · refine V.if_eqF (pc := 11) C 24 h2 (by decide) dX9_theirs_11 ?_
    refine V.iload_n (pc := 14) C 0 rfl dX9_theirs_14 ?_
    refine V.bipush (pc := 15) C (nI 97) (by decide) dX9_theirs_15 ?_
    refine V.isub (pc := 17) C dX9_theirs_17 ?_
    refine V.bipush (pc := 18) C (nI 6) (by decide) dX9_theirs_18 ?_
    refine V.iadd (pc := 20) C dX9_theirs_20 ?_
    refine V.goto (pc := 21) C 26 (by decide) dX9_theirs_21 ?_
    exact V.retI (pc := 26) C hf dX9_theirs_26
theorem dX9_add_0 : decode cX9_add 0 = .ok (.aload_n 0, 1) := by decide +kernel
theorem dX9_add_1 : decode cX9_add 1 = .ok (.getfield 37, 3) := by decide +kernel
theorem dX9_add_4 : decode cX9_add 4 = .ok (.aload_n 0, 1) := by decide +kernel
theorem dX9_add_5 : decode cX9_add 5 = .ok (.getfield 108, 3) := by decide +kernel
theorem dX9_add_8 : decode cX9_add 8 = .ok (.dup2, 1) := by decide +kernel
theorem dX9_add_9 : decode cX9_add 9 = .ok (.iaload, 1) := by decide +kernel
theorem dX9_add_10 : decode cX9_add 10 = .ok (.aload_n 0, 1) := by decide +kernel
theorem dX9_add_11 : decode cX9_add 11 = .ok (.getfield 34, 3) := by decide +kernel
theorem dX9_add_14 : decode cX9_add 14 = .ok (.aload_n 0, 1) := by decide +kernel
theorem dX9_add_15 : decode cX9_add 15 = .ok (.getfield 108, 3) := by decide +kernel
theorem dX9_add_18 : decode cX9_add 18 = .ok (.iaload, 1) := by decide +kernel
theorem dX9_add_19 : decode cX9_add 19 = .ok (.iload_n 1, 1) := by decide +kernel
theorem dX9_add_20 : decode cX9_add 20 = .ok (.ishr, 1) := by decide +kernel
theorem dX9_add_21 : decode cX9_add 21 = .ok (.iconst 1, 1) := by decide +kernel
theorem dX9_add_22 : decode cX9_add 22 = .ok (.iand, 1) := by decide +kernel
theorem dX9_add_23 : decode cX9_add 23 = .ok (.ior, 1) := by decide +kernel
theorem dX9_add_24 : decode cX9_add 24 = .ok (.iastore, 1) := by decide +kernel
theorem dX9_add_25 : decode cX9_add 25 = .ok (.aload_n 0, 1) := by decide +kernel
theorem dX9_add_26 : decode cX9_add 26 = .ok (.getfield 34, 3) := by decide +kernel
theorem dX9_add_29 : decode cX9_add 29 = .ok (.aload_n 0, 1) := by decide +kernel
theorem dX9_add_30 : decode cX9_add 30 = .ok (.getfield 108, 3) := by decide +kernel
theorem dX9_add_33 : decode cX9_add 33 = .ok (.dup2, 1) := by decide +kernel
theorem dX9_add_34 : decode cX9_add 34 = .ok (.iaload, 1) := by decide +kernel
theorem dX9_add_35 : decode cX9_add 35 = .ok (.iconst 1, 1) := by decide +kernel
theorem dX9_add_36 : decode cX9_add 36 = .ok (.iload_n 1, 1) := by decide +kernel
theorem dX9_add_37 : decode cX9_add 37 = .ok (.ishl, 1) := by decide +kernel
theorem dX9_add_38 : decode cX9_add 38 = .ok (.ior, 1) := by decide +kernel
theorem dX9_add_39 : decode cX9_add 39 = .ok (.iastore, 1) := by decide +kernel
theorem dX9_add_40 : decode cX9_add 40 = .ok (.return_, 1) := by decide +kernel
abbrev cxX9_add (G : Rg) (X : Ct) : Prop := Cx G X cX9_add 2 RX9 (none) 0 0 (Cond.code yX9_add cX9_add 2 (none))
def fX9_add (x1 : Int32) (M : Mm) : Option (Unit × Mm) :=
gd (inb (M.1 0 14) 60) (
gd (inb (M.1 0 14) 60) (
gd (inb (M.1 0 14) 60) (
gd (inb ((sI M 10 (M.1 0 14).toNatClampNeg ((M.1 10 (M.1 0 14).toNatClampNeg) ||| ((jshr (M.1 9 (M.1 0 14).toNatClampNeg) x1) &&& (nI 1)))).1 0 14) 60) (
gd (inb ((sI M 10 (M.1 0 14).toNatClampNeg ((M.1 10 (M.1 0 14).toNatClampNeg) ||| ((jshr (M.1 9 (M.1 0 14).toNatClampNeg) x1) &&& (nI 1)))).1 0 14) 60) (
some ((), (sI (sI M 10 (M.1 0 14).toNatClampNeg ((M.1 10 (M.1 0 14).toNatClampNeg) ||| ((jshr (M.1 9 (M.1 0 14).toNatClampNeg) x1) &&& (nI 1)))) 9 ((sI M 10 (M.1 0 14).toNatClampNeg ((M.1 10 (M.1 0 14).toNatClampNeg) ||| ((jshr (M.1 9 (M.1 0 14).toNatClampNeg) x1) &&& (nI 1)))).1 0 14).toNatClampNeg (((sI M 10 (M.1 0 14).toNatClampNeg ((M.1 10 (M.1 0 14).toNatClampNeg) ||| ((jshr (M.1 9 (M.1 0 14).toNatClampNeg) x1) &&& (nI 1)))).1 9 ((sI M 10 (M.1 0 14).toNatClampNeg ((M.1 10 (M.1 0 14).toNatClampNeg) ||| ((jshr (M.1 9 (M.1 0 14).toNatClampNeg) x1) &&& (nI 1)))).1 0 14).toNatClampNeg) ||| (jshl (nI 1) x1)))))))))
set_option maxHeartbeats 4000000 in
set_option maxRecDepth 100000 in
theorem mX9_add (l : Launch) {G : Rg} (hG : gS G = shM) {x1 : Int32}  {M Mf : Mm} {r : Unit} (hf : fX9_add x1 M = some (r, Mf)) : Mt l G yX9_add cX9_add 2 (none) 0 0 [.ref (gA G 0), .int x1] M none Mf := by
  refine Mt.of (by decide) (Nat.le_of_ble_eq_true rfl) ?_
  intro X C hX
  subst hX
  have C : cxX9_add G X := C
  show V G X 2 none Mf 0 [(0, .ref (gA G 0)), (1, .int x1)] [] M
  rw [fX9_add] at hf
  refine V.aload_n (pc := 0) C 0 rfl dX9_add_0 ?_
  refine V.getR (pc := 1) C clX9 inX9 (sm_0 hG) 13 (by decide) wF_X9_37 rfl dX9_add_1 ?_
  refine V.aload_n (pc := 4) C 0 rfl dX9_add_4 ?_
  refine V.getI (pc := 5) C clX9 inX9 (sm_0 hG) 14 (by decide) wF_X9_108 rfl dX9_add_5 ?_
  refine V.dup2 (pc := 8) C rfl rfl dX9_add_8 ?_
  obtain ⟨g1, hf⟩ := gd_some hf
  refine V.iald (pc := 9) C (sm_10 hG) (inb_in g1) dX9_add_9 ?_
  refine V.aload_n (pc := 10) C 0 rfl dX9_add_10 ?_
  refine V.getR (pc := 11) C clX9 inX9 (sm_0 hG) 12 (by decide) wF_X9_34 rfl dX9_add_11 ?_
  refine V.aload_n (pc := 14) C 0 rfl dX9_add_14 ?_
  refine V.getI (pc := 15) C clX9 inX9 (sm_0 hG) 14 (by decide) wF_X9_108 rfl dX9_add_15 ?_
  obtain ⟨g2, hf⟩ := gd_some hf
  refine V.iald (pc := 18) C (sm_9 hG) (inb_in g2) dX9_add_18 ?_
  refine V.iload_n (pc := 19) C 1 rfl dX9_add_19 ?_
  refine V.ishr (pc := 20) C dX9_add_20 ?_
  refine V.iconst (pc := 21) C (nI 1) (by decide) dX9_add_21 ?_
  refine V.iand (pc := 22) C dX9_add_22 ?_
  refine V.ior (pc := 23) C dX9_add_23 ?_
  obtain ⟨g3, hf⟩ := gd_some hf
  refine V.iast (pc := 24) C (sm_10 hG) (inb_in g3) dX9_add_24 ?_
  refine V.aload_n (pc := 25) C 0 rfl dX9_add_25 ?_
  refine V.getR (pc := 26) C clX9 inX9 (sm_0 hG) 12 (by decide) wF_X9_34 rfl dX9_add_26 ?_
  refine V.aload_n (pc := 29) C 0 rfl dX9_add_29 ?_
  refine V.getI (pc := 30) C clX9 inX9 (sm_0 hG) 14 (by decide) wF_X9_108 rfl dX9_add_30 ?_
  refine V.dup2 (pc := 33) C rfl rfl dX9_add_33 ?_
  obtain ⟨g4, hf⟩ := gd_some hf
  refine V.iald (pc := 34) C (sm_9 hG) (inb_in g4) dX9_add_34 ?_
  refine V.iconst (pc := 35) C (nI 1) (by decide) dX9_add_35 ?_
  refine V.iload_n (pc := 36) C 1 rfl dX9_add_36 ?_
  refine V.ishl (pc := 37) C dX9_add_37 ?_
  refine V.ior (pc := 38) C dX9_add_38 ?_
  obtain ⟨g5, hf⟩ := gd_some hf
  refine V.iast (pc := 39) C (sm_9 hG) (inb_in g5) dX9_add_39 ?_
  exact V.retV (pc := 40) C hf dX9_add_40
theorem dX9_begin_0 : decode cX9_begin 0 = .ok (.aload_n 0, 1) := by decide +kernel
theorem dX9_begin_1 : decode cX9_begin 1 = .ok (.getfield 34, 3) := by decide +kernel
theorem dX9_begin_4 : decode cX9_begin 4 = .ok (.aload_n 0, 1) := by decide +kernel
theorem dX9_begin_5 : decode cX9_begin 5 = .ok (.getfield 108, 3) := by decide +kernel
theorem dX9_begin_8 : decode cX9_begin 8 = .ok (.iconst 0, 1) := by decide +kernel
theorem dX9_begin_9 : decode cX9_begin 9 = .ok (.iastore, 1) := by decide +kernel
theorem dX9_begin_10 : decode cX9_begin 10 = .ok (.aload_n 0, 1) := by decide +kernel
theorem dX9_begin_11 : decode cX9_begin 11 = .ok (.getfield 37, 3) := by decide +kernel
theorem dX9_begin_14 : decode cX9_begin 14 = .ok (.aload_n 0, 1) := by decide +kernel
theorem dX9_begin_15 : decode cX9_begin 15 = .ok (.getfield 108, 3) := by decide +kernel
theorem dX9_begin_18 : decode cX9_begin 18 = .ok (.iconst 0, 1) := by decide +kernel
theorem dX9_begin_19 : decode cX9_begin 19 = .ok (.iastore, 1) := by decide +kernel
theorem dX9_begin_20 : decode cX9_begin 20 = .ok (.aload_n 0, 1) := by decide +kernel
theorem dX9_begin_21 : decode cX9_begin 21 = .ok (.getfield 31, 3) := by decide +kernel
theorem dX9_begin_24 : decode cX9_begin 24 = .ok (.aload_n 0, 1) := by decide +kernel
theorem dX9_begin_25 : decode cX9_begin 25 = .ok (.getfield 108, 3) := by decide +kernel
theorem dX9_begin_28 : decode cX9_begin 28 = .ok (.iconst 4, 1) := by decide +kernel
theorem dX9_begin_29 : decode cX9_begin 29 = .ok (.iastore, 1) := by decide +kernel
theorem dX9_begin_30 : decode cX9_begin 30 = .ok (.iload_n 1, 1) := by decide +kernel
theorem dX9_begin_31 : decode cX9_begin 31 = .ok (.invokestatic 111, 3) := by decide +kernel
theorem dX9_begin_34 : decode cX9_begin 34 = .ok (.ifCond .lt 10, 3) := by decide +kernel
theorem dX9_begin_37 : decode cX9_begin 37 = .ok (.iload_n 1, 1) := by decide +kernel
theorem dX9_begin_38 : decode cX9_begin 38 = .ok (.invokestatic 111, 3) := by decide +kernel
theorem dX9_begin_41 : decode cX9_begin 41 = .ok (.goto 7, 3) := by decide +kernel
theorem dX9_begin_44 : decode cX9_begin 44 = .ok (.iload_n 1, 1) := by decide +kernel
theorem dX9_begin_45 : decode cX9_begin 45 = .ok (.invokestatic 114, 3) := by decide +kernel
theorem dX9_begin_48 : decode cX9_begin 48 = .ok (.istore_n 2, 1) := by decide +kernel
theorem dX9_begin_49 : decode cX9_begin 49 = .ok (.iload_n 2, 1) := by decide +kernel
theorem dX9_begin_50 : decode cX9_begin 50 = .ok (.ifCond .lt 8, 3) := by decide +kernel
theorem dX9_begin_53 : decode cX9_begin 53 = .ok (.aload_n 0, 1) := by decide +kernel
theorem dX9_begin_54 : decode cX9_begin 54 = .ok (.iload_n 2, 1) := by decide +kernel
theorem dX9_begin_55 : decode cX9_begin 55 = .ok (.invokevirtual 117, 3) := by decide +kernel
theorem dX9_begin_58 : decode cX9_begin 58 = .ok (.iload_n 1, 1) := by decide +kernel
theorem dX9_begin_59 : decode cX9_begin 59 = .ok (.bipush 40, 2) := by decide +kernel
theorem dX9_begin_61 : decode cX9_begin 61 = .ok (.if_icmp .ne 7, 3) := by decide +kernel
theorem dX9_begin_64 : decode cX9_begin 64 = .ok (.iconst 2, 1) := by decide +kernel
theorem dX9_begin_65 : decode cX9_begin 65 = .ok (.goto 13, 3) := by decide +kernel
theorem dX9_begin_68 : decode cX9_begin 68 = .ok (.iload_n 2, 1) := by decide +kernel
theorem dX9_begin_69 : decode cX9_begin 69 = .ok (.ifCond .ge 8, 3) := by decide +kernel
theorem dX9_begin_72 : decode cX9_begin 72 = .ok (.bipush (-6), 2) := by decide +kernel
theorem dX9_begin_74 : decode cX9_begin 74 = .ok (.goto 4, 3) := by decide +kernel
theorem dX9_begin_77 : decode cX9_begin 77 = .ok (.iconst 1, 1) := by decide +kernel
theorem dX9_begin_78 : decode cX9_begin 78 = .ok (.ireturn, 1) := by decide +kernel
abbrev cxX9_begin (G : Rg) (X : Ct) : Prop := Cx G X cX9_begin 3 RX9 (some .int) 2 45 (Cond.code yX9_begin cX9_begin 3 (some .int))
def fX9_begin_b58   (v1 : Int32) (v2 : Int32) (M : Mm) : Option (Int32 × Mm) :=
if v1 = (nI 40) then
(some ((nI 2), M))
else
(if (nI 0) ≤ v2 then
(some ((nI 1), M))
else
(some ((mI 6), M)))
set_option maxHeartbeats 4000000 in
set_option maxRecDepth 100000 in
theorem vX9_begin_b58 {G : Rg} {X : Ct} {r : Int32} {Mf : Mm}   (C : cxX9_begin G X) (hG : gS G = shM)   (v1 : Int32) (v2 : Int32) (M : Mm) (hf : fX9_begin_b58 v1 v2 M = some (r, Mf)) : V G X 3 (some (.int r)) Mf 58 [(1, .int v1), (2, .int v2)] [] M := by
  rw [fX9_begin_b58] at hf
  refine V.iload_n (pc := 58) C 0 rfl dX9_begin_58 ?_
  refine V.bipush (pc := 59) C (nI 40) (by decide) dX9_begin_59 ?_
  rcases it_some hf with ⟨h1, hf⟩ | ⟨h1, hf⟩
  · refine V.ic_neF (pc := 61) C 68 h1 (by decide) dX9_begin_61 ?_
    refine V.iconst (pc := 64) C (nI 2) (by decide) dX9_begin_64 ?_
    refine V.goto (pc := 65) C 78 (by decide) dX9_begin_65 ?_
    exact V.retI (pc := 78) C hf dX9_begin_78
  · refine V.ic_neT (pc := 61) C 68 h1 (by decide) dX9_begin_61 ?_
    refine V.iload_n (pc := 68) C 1 rfl dX9_begin_68 ?_
    rcases it_some hf with ⟨h2, hf⟩ | ⟨h2, hf⟩
    · refine V.if_geT (pc := 69) C 77 h2 (by decide) dX9_begin_69 ?_
      refine V.iconst (pc := 77) C (nI 1) (by decide) dX9_begin_77 ?_
      exact V.retI (pc := 78) C hf dX9_begin_78
    · refine V.if_geF (pc := 69) C 77 h2 (by decide) dX9_begin_69 ?_
      refine V.bipush (pc := 72) C (mI 6) (by decide) dX9_begin_72 ?_
      refine V.goto (pc := 74) C 78 (by decide) dX9_begin_74 ?_
      exact V.retI (pc := 78) C hf dX9_begin_78
def fX9_begin_b48   (v1 : Int32) (s0 : Int32) (M : Mm) : Option (Int32 × Mm) :=
if s0 < (nI 0) then
(fX9_begin_b58 v1 s0 M)
else
(bd (fX9_add s0 M) fun _ M2 =>
fX9_begin_b58 v1 s0 M2)
set_option maxHeartbeats 4000000 in
set_option maxRecDepth 100000 in
theorem vX9_begin_b48 {G : Rg} {X : Ct} {r : Int32} {Mf : Mm}   (C : cxX9_begin G X) (hG : gS G = shM)   (v1 : Int32) (s0 : Int32) (M : Mm) (hf : fX9_begin_b48 v1 s0 M = some (r, Mf)) : V G X 3 (some (.int r)) Mf 48 [(0, .ref (gA G 0)), (1, .int v1)] [.int s0] M := by
  rw [fX9_begin_b48] at hf
  refine V.istore_n (pc := 48) (lv' := [(2, .int s0), (0, .ref (gA G 0)), (1, .int v1)]) C (by decide) rfl dX9_begin_48 ?_
  refine V.iload_n (pc := 49) C 0 rfl dX9_begin_49 ?_
  rcases it_some hf with ⟨h1, hf⟩ | ⟨h1, hf⟩
  · refine V.if_ltT (pc := 50) C 58 h1 (by decide) dX9_begin_50 ?_
    refine V.sub C [2, 0] (lv' := [(1, .int v1), (2, .int s0)]) rfl ?_
    exact vX9_begin_b58 C hG    _ _ _ hf
  · refine V.if_ltF (pc := 50) C 58 h1 (by decide) dX9_begin_50 ?_
    refine V.aload_n (pc := 53) C 1 rfl dX9_begin_53 ?_
    refine V.iload_n (pc := 54) C 0 rfl dX9_begin_54 ?_
    obtain ⟨_, M2, h2, hf⟩ := bd_some hf
    refine V.callVv (pc := 55) (As := [.int s0]) (rest := []) C (mX9_add X.2.1 hG  h2) mf_X9_add clX9 (sm_0 hG) wM_X9_117 rfl rfl ⟨by decide, by decide⟩ (Nat.le_of_ble_eq_true rfl) dX9_begin_55 ?_
    refine V.sub C [2, 0] (lv' := [(1, .int v1), (2, .int s0)]) rfl ?_
    exact vX9_begin_b58 C hG    _ _ _ hf
def fX9_begin (x1 : Int32) (M : Mm) : Option (Int32 × Mm) :=
gd (inb (M.1 0 14) 60) (
gd (inb ((sI M 9 (M.1 0 14).toNatClampNeg (nI 0)).1 0 14) 60) (
gd (inb ((sI (sI M 9 (M.1 0 14).toNatClampNeg (nI 0)) 10 ((sI M 9 (M.1 0 14).toNatClampNeg (nI 0)).1 0 14).toNatClampNeg (nI 0)).1 0 14) 60) (
bd (fX9_ours x1 (sI (sI (sI M 9 (M.1 0 14).toNatClampNeg (nI 0)) 10 ((sI M 9 (M.1 0 14).toNatClampNeg (nI 0)).1 0 14).toNatClampNeg (nI 0)) 8 ((sI (sI M 9 (M.1 0 14).toNatClampNeg (nI 0)) 10 ((sI M 9 (M.1 0 14).toNatClampNeg (nI 0)).1 0 14).toNatClampNeg (nI 0)).1 0 14).toNatClampNeg (nI 4))) fun r4 M4 =>
if r4 < (nI 0) then
(bd (fX9_theirs x1 M4) fun r6 M6 =>
fX9_begin_b48 x1 r6 M6)
else
(bd (fX9_ours x1 M4) fun r7 M7 =>
fX9_begin_b48 x1 r7 M7))))
set_option maxHeartbeats 4000000 in
set_option maxRecDepth 100000 in
theorem mX9_begin (l : Launch) {G : Rg} (hG : gS G = shM) {x1 : Int32}  {M Mf : Mm} {r : Int32} (hf : fX9_begin x1 M = some (r, Mf)) : Mt l G yX9_begin cX9_begin 3 (some .int) 2 45 [.ref (gA G 0), .int x1] M (some (.int r)) Mf := by
  refine Mt.of (by decide) (Nat.le_of_ble_eq_true rfl) ?_
  intro X C hX
  subst hX
  have C : cxX9_begin G X := C
  show V G X 3 (some (.int r)) Mf 0 [(0, .ref (gA G 0)), (1, .int x1)] [] M
  rw [fX9_begin] at hf
  refine V.aload_n (pc := 0) C 0 rfl dX9_begin_0 ?_
  refine V.getR (pc := 1) C clX9 inX9 (sm_0 hG) 12 (by decide) wF_X9_34 rfl dX9_begin_1 ?_
  refine V.aload_n (pc := 4) C 0 rfl dX9_begin_4 ?_
  refine V.getI (pc := 5) C clX9 inX9 (sm_0 hG) 14 (by decide) wF_X9_108 rfl dX9_begin_5 ?_
  refine V.iconst (pc := 8) C (nI 0) (by decide) dX9_begin_8 ?_
  obtain ⟨g1, hf⟩ := gd_some hf
  refine V.iast (pc := 9) C (sm_9 hG) (inb_in g1) dX9_begin_9 ?_
  refine V.aload_n (pc := 10) C 0 rfl dX9_begin_10 ?_
  refine V.getR (pc := 11) C clX9 inX9 (sm_0 hG) 13 (by decide) wF_X9_37 rfl dX9_begin_11 ?_
  refine V.aload_n (pc := 14) C 0 rfl dX9_begin_14 ?_
  refine V.getI (pc := 15) C clX9 inX9 (sm_0 hG) 14 (by decide) wF_X9_108 rfl dX9_begin_15 ?_
  refine V.iconst (pc := 18) C (nI 0) (by decide) dX9_begin_18 ?_
  obtain ⟨g2, hf⟩ := gd_some hf
  refine V.iast (pc := 19) C (sm_10 hG) (inb_in g2) dX9_begin_19 ?_
  refine V.aload_n (pc := 20) C 0 rfl dX9_begin_20 ?_
  refine V.getR (pc := 21) C clX9 inX9 (sm_0 hG) 11 (by decide) wF_X9_31 rfl dX9_begin_21 ?_
  refine V.aload_n (pc := 24) C 0 rfl dX9_begin_24 ?_
  refine V.getI (pc := 25) C clX9 inX9 (sm_0 hG) 14 (by decide) wF_X9_108 rfl dX9_begin_25 ?_
  refine V.iconst (pc := 28) C (nI 4) (by decide) dX9_begin_28 ?_
  obtain ⟨g3, hf⟩ := gd_some hf
  refine V.iast (pc := 29) C (sm_8 hG) (inb_in g3) dX9_begin_29 ?_
  refine V.iload_n (pc := 30) C 1 rfl dX9_begin_30 ?_
  obtain ⟨r4, M4, h4, hf⟩ := bd_some hf
  refine V.callSi (pc := 31) (As := [.int x1]) (rest := []) C (mX9_ours X.2.1 hG  h4) mf_X9_ours wM_X9_111 rfl rfl ⟨by decide, by decide⟩ (Nat.le_of_ble_eq_true rfl) dX9_begin_31 ?_
  rcases it_some hf with ⟨h5, hf⟩ | ⟨h5, hf⟩
  · refine V.if_ltT (pc := 34) C 44 h5 (by decide) dX9_begin_34 ?_
    refine V.iload_n (pc := 44) C 1 rfl dX9_begin_44 ?_
    obtain ⟨r6, M6, h6, hf⟩ := bd_some hf
    refine V.callSi (pc := 45) (As := [.int x1]) (rest := []) C (mX9_theirs X.2.1 hG  h6) mf_X9_theirs wM_X9_114 rfl rfl ⟨by decide, by decide⟩ (Nat.le_of_ble_eq_true rfl) dX9_begin_45 ?_
    exact vX9_begin_b48 C hG    _ _ _ hf
  · refine V.if_ltF (pc := 34) C 44 h5 (by decide) dX9_begin_34 ?_
    refine V.iload_n (pc := 37) C 1 rfl dX9_begin_37 ?_
    obtain ⟨r7, M7, h7, hf⟩ := bd_some hf
    refine V.callSi (pc := 38) (As := [.int x1]) (rest := []) C (mX9_ours X.2.1 hG  h7) mf_X9_ours wM_X9_111 rfl rfl ⟨by decide, by decide⟩ (Nat.le_of_ble_eq_true rfl) dX9_begin_38 ?_
    refine V.goto (pc := 41) C 48 (by decide) dX9_begin_41 ?_
    exact vX9_begin_b48 C hG    _ _ _ hf
theorem dX9_deed_0 : decode cX9_deed 0 = .ok (.aload_n 0, 1) := by decide +kernel
theorem dX9_deed_1 : decode cX9_deed 1 = .ok (.getfield 31, 3) := by decide +kernel
theorem dX9_deed_4 : decode cX9_deed 4 = .ok (.aload_n 0, 1) := by decide +kernel
theorem dX9_deed_5 : decode cX9_deed 5 = .ok (.getfield 108, 3) := by decide +kernel
theorem dX9_deed_8 : decode cX9_deed 8 = .ok (.iload_n 1, 1) := by decide +kernel
theorem dX9_deed_9 : decode cX9_deed 9 = .ok (.bipush 115, 2) := by decide +kernel
theorem dX9_deed_11 : decode cX9_deed 11 = .ok (.if_icmp .ne 7, 3) := by decide +kernel
theorem dX9_deed_14 : decode cX9_deed 14 = .ok (.iconst 0, 1) := by decide +kernel
theorem dX9_deed_15 : decode cX9_deed 15 = .ok (.goto 24, 3) := by decide +kernel
theorem dX9_deed_18 : decode cX9_deed 18 = .ok (.iload_n 1, 1) := by decide +kernel
theorem dX9_deed_19 : decode cX9_deed 19 = .ok (.bipush 104, 2) := by decide +kernel
theorem dX9_deed_21 : decode cX9_deed 21 = .ok (.if_icmp .ne 7, 3) := by decide +kernel
theorem dX9_deed_24 : decode cX9_deed 24 = .ok (.iconst 1, 1) := by decide +kernel
theorem dX9_deed_25 : decode cX9_deed 25 = .ok (.goto 14, 3) := by decide +kernel
theorem dX9_deed_28 : decode cX9_deed 28 = .ok (.iload_n 1, 1) := by decide +kernel
theorem dX9_deed_29 : decode cX9_deed 29 = .ok (.bipush 98, 2) := by decide +kernel
theorem dX9_deed_31 : decode cX9_deed 31 = .ok (.if_icmp .ne 7, 3) := by decide +kernel
theorem dX9_deed_34 : decode cX9_deed 34 = .ok (.iconst 2, 1) := by decide +kernel
theorem dX9_deed_35 : decode cX9_deed 35 = .ok (.goto 4, 3) := by decide +kernel
theorem dX9_deed_38 : decode cX9_deed 38 = .ok (.iconst 3, 1) := by decide +kernel
theorem dX9_deed_39 : decode cX9_deed 39 = .ok (.iastore, 1) := by decide +kernel
theorem dX9_deed_40 : decode cX9_deed 40 = .ok (.aload_n 0, 1) := by decide +kernel
theorem dX9_deed_41 : decode cX9_deed 41 = .ok (.dup, 1) := by decide +kernel
theorem dX9_deed_42 : decode cX9_deed 42 = .ok (.getfield 108, 3) := by decide +kernel
theorem dX9_deed_45 : decode cX9_deed 45 = .ok (.iconst 1, 1) := by decide +kernel
theorem dX9_deed_46 : decode cX9_deed 46 = .ok (.iadd, 1) := by decide +kernel
theorem dX9_deed_47 : decode cX9_deed 47 = .ok (.putfield 108, 3) := by decide +kernel
theorem dX9_deed_50 : decode cX9_deed 50 = .ok (.iload_n 1, 1) := by decide +kernel
theorem dX9_deed_51 : decode cX9_deed 51 = .ok (.bipush 115, 2) := by decide +kernel
theorem dX9_deed_53 : decode cX9_deed 53 = .ok (.if_icmp .eq 21, 3) := by decide +kernel
theorem dX9_deed_56 : decode cX9_deed 56 = .ok (.iload_n 1, 1) := by decide +kernel
theorem dX9_deed_57 : decode cX9_deed 57 = .ok (.bipush 104, 2) := by decide +kernel
theorem dX9_deed_59 : decode cX9_deed 59 = .ok (.if_icmp .eq 15, 3) := by decide +kernel
theorem dX9_deed_62 : decode cX9_deed 62 = .ok (.iload_n 1, 1) := by decide +kernel
theorem dX9_deed_63 : decode cX9_deed 63 = .ok (.bipush 98, 2) := by decide +kernel
theorem dX9_deed_65 : decode cX9_deed 65 = .ok (.if_icmp .eq 9, 3) := by decide +kernel
theorem dX9_deed_68 : decode cX9_deed 68 = .ok (.iload_n 1, 1) := by decide +kernel
theorem dX9_deed_69 : decode cX9_deed 69 = .ok (.bipush 43, 2) := by decide +kernel
theorem dX9_deed_71 : decode cX9_deed 71 = .ok (.if_icmp .ne 7, 3) := by decide +kernel
theorem dX9_deed_74 : decode cX9_deed 74 = .ok (.iconst 0, 1) := by decide +kernel
theorem dX9_deed_75 : decode cX9_deed 75 = .ok (.goto 5, 3) := by decide +kernel
theorem dX9_deed_78 : decode cX9_deed 78 = .ok (.bipush (-6), 2) := by decide +kernel
theorem dX9_deed_80 : decode cX9_deed 80 = .ok (.ireturn, 1) := by decide +kernel
abbrev cxX9_deed (G : Rg) (X : Ct) : Prop := Cx G X cX9_deed 2 RX9 (some .int) 0 0 (Cond.code yX9_deed cX9_deed 2 (some .int))
def fX9_deed_b39   (v1 : Int32) (s1 : Int32) (s2 : Int32) (M : Mm) : Option (Int32 × Mm) :=
gd (inb s1 60) (
if v1 = (nI 115) then
(some ((nI 0), (sI (sI M 8 s1.toNatClampNeg s2) 0 14 (((sI M 8 s1.toNatClampNeg s2).1 0 14) + (nI 1)))))
else
(if v1 = (nI 104) then
(some ((nI 0), (sI (sI M 8 s1.toNatClampNeg s2) 0 14 (((sI M 8 s1.toNatClampNeg s2).1 0 14) + (nI 1)))))
else
(if v1 = (nI 98) then
(some ((nI 0), (sI (sI M 8 s1.toNatClampNeg s2) 0 14 (((sI M 8 s1.toNatClampNeg s2).1 0 14) + (nI 1)))))
else
(if v1 = (nI 43) then
(some ((nI 0), (sI (sI M 8 s1.toNatClampNeg s2) 0 14 (((sI M 8 s1.toNatClampNeg s2).1 0 14) + (nI 1)))))
else
(some ((mI 6), (sI (sI M 8 s1.toNatClampNeg s2) 0 14 (((sI M 8 s1.toNatClampNeg s2).1 0 14) + (nI 1)))))))))
set_option maxHeartbeats 4000000 in
set_option maxRecDepth 100000 in
theorem vX9_deed_b39 {G : Rg} {X : Ct} {r : Int32} {Mf : Mm}   (C : cxX9_deed G X) (hG : gS G = shM)   (v1 : Int32) (s1 : Int32) (s2 : Int32) (M : Mm) (hf : fX9_deed_b39 v1 s1 s2 M = some (r, Mf)) : V G X 2 (some (.int r)) Mf 39 [(0, .ref (gA G 0)), (1, .int v1)] [.int s2, .int s1, .ref (gA G 8)] M := by
  rw [fX9_deed_b39] at hf
  obtain ⟨g1, hf⟩ := gd_some hf
  refine V.iast (pc := 39) C (sm_8 hG) (inb_in g1) dX9_deed_39 ?_
  refine V.aload_n (pc := 40) C 0 rfl dX9_deed_40 ?_
  refine V.dup (pc := 41) C rfl dX9_deed_41 ?_
  refine V.getI (pc := 42) C clX9 inX9 (sm_0 hG) 14 (by decide) wF_X9_108 rfl dX9_deed_42 ?_
  refine V.iconst (pc := 45) C (nI 1) (by decide) dX9_deed_45 ?_
  refine V.iadd (pc := 46) C dX9_deed_46 ?_
  refine V.putI (pc := 47) C clX9 inX9 (sm_0 hG) 14 (by decide) wF_X9_108 tyX9 tyX9_ok nmX9 rfl (tyX9_ok 14 (by decide)) rfl dX9_deed_47 ?_
  refine V.iload_n (pc := 50) C 1 rfl dX9_deed_50 ?_
  refine V.bipush (pc := 51) C (nI 115) (by decide) dX9_deed_51 ?_
  rcases it_some hf with ⟨h2, hf⟩ | ⟨h2, hf⟩
  · refine V.ic_eqT (pc := 53) C 74 h2 (by decide) dX9_deed_53 ?_
    refine V.iconst (pc := 74) C (nI 0) (by decide) dX9_deed_74 ?_
    refine V.goto (pc := 75) C 80 (by decide) dX9_deed_75 ?_
    exact V.retI (pc := 80) C hf dX9_deed_80
  · refine V.ic_eqF (pc := 53) C 74 h2 (by decide) dX9_deed_53 ?_
    refine V.iload_n (pc := 56) C 1 rfl dX9_deed_56 ?_
    refine V.bipush (pc := 57) C (nI 104) (by decide) dX9_deed_57 ?_
    rcases it_some hf with ⟨h3, hf⟩ | ⟨h3, hf⟩
    · refine V.ic_eqT (pc := 59) C 74 h3 (by decide) dX9_deed_59 ?_
      refine V.iconst (pc := 74) C (nI 0) (by decide) dX9_deed_74 ?_
      refine V.goto (pc := 75) C 80 (by decide) dX9_deed_75 ?_
      exact V.retI (pc := 80) C hf dX9_deed_80
    · refine V.ic_eqF (pc := 59) C 74 h3 (by decide) dX9_deed_59 ?_
      refine V.iload_n (pc := 62) C 1 rfl dX9_deed_62 ?_
      refine V.bipush (pc := 63) C (nI 98) (by decide) dX9_deed_63 ?_
      rcases it_some hf with ⟨h4, hf⟩ | ⟨h4, hf⟩
      · refine V.ic_eqT (pc := 65) C 74 h4 (by decide) dX9_deed_65 ?_
        refine V.iconst (pc := 74) C (nI 0) (by decide) dX9_deed_74 ?_
        refine V.goto (pc := 75) C 80 (by decide) dX9_deed_75 ?_
        exact V.retI (pc := 80) C hf dX9_deed_80
      · refine V.ic_eqF (pc := 65) C 74 h4 (by decide) dX9_deed_65 ?_
        refine V.iload_n (pc := 68) C 1 rfl dX9_deed_68 ?_
        refine V.bipush (pc := 69) C (nI 43) (by decide) dX9_deed_69 ?_
        rcases it_some hf with ⟨h5, hf⟩ | ⟨h5, hf⟩
        · refine V.ic_neF (pc := 71) C 78 h5 (by decide) dX9_deed_71 ?_
          refine V.iconst (pc := 74) C (nI 0) (by decide) dX9_deed_74 ?_
          refine V.goto (pc := 75) C 80 (by decide) dX9_deed_75 ?_
          exact V.retI (pc := 80) C hf dX9_deed_80
        · refine V.ic_neT (pc := 71) C 78 h5 (by decide) dX9_deed_71 ?_
          refine V.bipush (pc := 78) C (mI 6) (by decide) dX9_deed_78 ?_
          exact V.retI (pc := 80) C hf dX9_deed_80
def fX9_deed (x1 : Int32) (M : Mm) : Option (Int32 × Mm) :=
if x1 = (nI 115) then
(fX9_deed_b39 x1 (M.1 0 14) (nI 0) M)
else
(if x1 = (nI 104) then
(fX9_deed_b39 x1 (M.1 0 14) (nI 1) M)
else
(if x1 = (nI 98) then
(fX9_deed_b39 x1 (M.1 0 14) (nI 2) M)
else
(fX9_deed_b39 x1 (M.1 0 14) (nI 3) M)))
set_option maxHeartbeats 4000000 in
set_option maxRecDepth 100000 in
theorem mX9_deed (l : Launch) {G : Rg} (hG : gS G = shM) {x1 : Int32}  {M Mf : Mm} {r : Int32} (hf : fX9_deed x1 M = some (r, Mf)) : Mt l G yX9_deed cX9_deed 2 (some .int) 0 0 [.ref (gA G 0), .int x1] M (some (.int r)) Mf := by
  refine Mt.of (by decide) (Nat.le_of_ble_eq_true rfl) ?_
  intro X C hX
  subst hX
  have C : cxX9_deed G X := C
  show V G X 2 (some (.int r)) Mf 0 [(0, .ref (gA G 0)), (1, .int x1)] [] M
  rw [fX9_deed] at hf
  refine V.aload_n (pc := 0) C 0 rfl dX9_deed_0 ?_
  refine V.getR (pc := 1) C clX9 inX9 (sm_0 hG) 11 (by decide) wF_X9_31 rfl dX9_deed_1 ?_
  refine V.aload_n (pc := 4) C 0 rfl dX9_deed_4 ?_
  refine V.getI (pc := 5) C clX9 inX9 (sm_0 hG) 14 (by decide) wF_X9_108 rfl dX9_deed_5 ?_
  refine V.iload_n (pc := 8) C 1 rfl dX9_deed_8 ?_
  refine V.bipush (pc := 9) C (nI 115) (by decide) dX9_deed_9 ?_
  rcases it_some hf with ⟨h1, hf⟩ | ⟨h1, hf⟩
  · refine V.ic_neF (pc := 11) C 18 h1 (by decide) dX9_deed_11 ?_
    refine V.iconst (pc := 14) C (nI 0) (by decide) dX9_deed_14 ?_
    refine V.goto (pc := 15) C 39 (by decide) dX9_deed_15 ?_
    exact vX9_deed_b39 C hG    _ _ _ _ hf
  · refine V.ic_neT (pc := 11) C 18 h1 (by decide) dX9_deed_11 ?_
    refine V.iload_n (pc := 18) C 1 rfl dX9_deed_18 ?_
    refine V.bipush (pc := 19) C (nI 104) (by decide) dX9_deed_19 ?_
    rcases it_some hf with ⟨h2, hf⟩ | ⟨h2, hf⟩
    · refine V.ic_neF (pc := 21) C 28 h2 (by decide) dX9_deed_21 ?_
      refine V.iconst (pc := 24) C (nI 1) (by decide) dX9_deed_24 ?_
      refine V.goto (pc := 25) C 39 (by decide) dX9_deed_25 ?_
      exact vX9_deed_b39 C hG    _ _ _ _ hf
    · refine V.ic_neT (pc := 21) C 28 h2 (by decide) dX9_deed_21 ?_
      refine V.iload_n (pc := 28) C 1 rfl dX9_deed_28 ?_
      refine V.bipush (pc := 29) C (nI 98) (by decide) dX9_deed_29 ?_
      rcases it_some hf with ⟨h3, hf⟩ | ⟨h3, hf⟩
      · refine V.ic_neF (pc := 31) C 38 h3 (by decide) dX9_deed_31 ?_
        refine V.iconst (pc := 34) C (nI 2) (by decide) dX9_deed_34 ?_
        refine V.goto (pc := 35) C 39 (by decide) dX9_deed_35 ?_
        exact vX9_deed_b39 C hG    _ _ _ _ hf
      · refine V.ic_neT (pc := 31) C 38 h3 (by decide) dX9_deed_31 ?_
        refine V.iconst (pc := 38) C (nI 3) (by decide) dX9_deed_38 ?_
        exact vX9_deed_b39 C hG    _ _ _ _ hf
theorem dX9_inLots_0 : decode cX9_inLots 0 = .ok (.iload_n 1, 1) := by decide +kernel
theorem dX9_inLots_1 : decode cX9_inLots 1 = .ok (.iconst 4, 1) := by decide +kernel
theorem dX9_inLots_2 : decode cX9_inLots 2 = .ok (.if_icmp .ge 10, 3) := by decide +kernel
theorem dX9_inLots_5 : decode cX9_inLots 5 = .ok (.iload_n 2, 1) := by decide +kernel
theorem dX9_inLots_6 : decode cX9_inLots 6 = .ok (.invokestatic 111, 3) := by decide +kernel
theorem dX9_inLots_9 : decode cX9_inLots 9 = .ok (.goto 7, 3) := by decide +kernel
theorem dX9_inLots_12 : decode cX9_inLots 12 = .ok (.iload_n 2, 1) := by decide +kernel
theorem dX9_inLots_13 : decode cX9_inLots 13 = .ok (.invokestatic 114, 3) := by decide +kernel
theorem dX9_inLots_16 : decode cX9_inLots 16 = .ok (.istore_n 3, 1) := by decide +kernel
theorem dX9_inLots_17 : decode cX9_inLots 17 = .ok (.iload_n 3, 1) := by decide +kernel
theorem dX9_inLots_18 : decode cX9_inLots 18 = .ok (.ifCond .lt 19, 3) := by decide +kernel
theorem dX9_inLots_21 : decode cX9_inLots 21 = .ok (.aload_n 0, 1) := by decide +kernel
theorem dX9_inLots_22 : decode cX9_inLots 22 = .ok (.iload_n 3, 1) := by decide +kernel
theorem dX9_inLots_23 : decode cX9_inLots 23 = .ok (.invokevirtual 117, 3) := by decide +kernel
theorem dX9_inLots_26 : decode cX9_inLots 26 = .ok (.iload_n 1, 1) := by decide +kernel
theorem dX9_inLots_27 : decode cX9_inLots 27 = .ok (.iconst 4, 1) := by decide +kernel
theorem dX9_inLots_28 : decode cX9_inLots 28 = .ok (.if_icmp .ge 7, 3) := by decide +kernel
theorem dX9_inLots_31 : decode cX9_inLots 31 = .ok (.iconst 3, 1) := by decide +kernel
theorem dX9_inLots_32 : decode cX9_inLots 32 = .ok (.goto 4, 3) := by decide +kernel
theorem dX9_inLots_35 : decode cX9_inLots 35 = .ok (.iconst 5, 1) := by decide +kernel
theorem dX9_inLots_36 : decode cX9_inLots 36 = .ok (.ireturn, 1) := by decide +kernel
theorem dX9_inLots_37 : decode cX9_inLots 37 = .ok (.iload_n 1, 1) := by decide +kernel
theorem dX9_inLots_38 : decode cX9_inLots 38 = .ok (.iconst 3, 1) := by decide +kernel
theorem dX9_inLots_39 : decode cX9_inLots 39 = .ok (.if_icmp .ne 11, 3) := by decide +kernel
theorem dX9_inLots_42 : decode cX9_inLots 42 = .ok (.iload_n 2, 1) := by decide +kernel
theorem dX9_inLots_43 : decode cX9_inLots 43 = .ok (.bipush 58, 2) := by decide +kernel
theorem dX9_inLots_45 : decode cX9_inLots 45 = .ok (.if_icmp .ne 5, 3) := by decide +kernel
theorem dX9_inLots_48 : decode cX9_inLots 48 = .ok (.iconst 4, 1) := by decide +kernel
theorem dX9_inLots_49 : decode cX9_inLots 49 = .ok (.ireturn, 1) := by decide +kernel
theorem dX9_inLots_50 : decode cX9_inLots 50 = .ok (.aload_n 0, 1) := by decide +kernel
theorem dX9_inLots_51 : decode cX9_inLots 51 = .ok (.dup, 1) := by decide +kernel
theorem dX9_inLots_52 : decode cX9_inLots 52 = .ok (.getfield 108, 3) := by decide +kernel
theorem dX9_inLots_55 : decode cX9_inLots 55 = .ok (.iload_n 1, 1) := by decide +kernel
theorem dX9_inLots_56 : decode cX9_inLots 56 = .ok (.iconst 5, 1) := by decide +kernel
theorem dX9_inLots_57 : decode cX9_inLots 57 = .ok (.if_icmp .ne 13, 3) := by decide +kernel
theorem dX9_inLots_60 : decode cX9_inLots 60 = .ok (.iload_n 2, 1) := by decide +kernel
theorem dX9_inLots_61 : decode cX9_inLots 61 = .ok (.bipush 41, 2) := by decide +kernel
theorem dX9_inLots_63 : decode cX9_inLots 63 = .ok (.if_icmp .ne 7, 3) := by decide +kernel
theorem dX9_inLots_66 : decode cX9_inLots 66 = .ok (.iconst 1, 1) := by decide +kernel
theorem dX9_inLots_67 : decode cX9_inLots 67 = .ok (.goto 4, 3) := by decide +kernel
theorem dX9_inLots_70 : decode cX9_inLots 70 = .ok (.iconst 0, 1) := by decide +kernel
theorem dX9_inLots_71 : decode cX9_inLots 71 = .ok (.iadd, 1) := by decide +kernel
theorem dX9_inLots_72 : decode cX9_inLots 72 = .ok (.putfield 108, 3) := by decide +kernel
theorem dX9_inLots_75 : decode cX9_inLots 75 = .ok (.iload_n 1, 1) := by decide +kernel
theorem dX9_inLots_76 : decode cX9_inLots 76 = .ok (.iconst 5, 1) := by decide +kernel
theorem dX9_inLots_77 : decode cX9_inLots 77 = .ok (.if_icmp .ne 13, 3) := by decide +kernel
theorem dX9_inLots_80 : decode cX9_inLots 80 = .ok (.iload_n 2, 1) := by decide +kernel
theorem dX9_inLots_81 : decode cX9_inLots 81 = .ok (.bipush 41, 2) := by decide +kernel
theorem dX9_inLots_83 : decode cX9_inLots 83 = .ok (.if_icmp .ne 7, 3) := by decide +kernel
theorem dX9_inLots_86 : decode cX9_inLots 86 = .ok (.iconst 0, 1) := by decide +kernel
theorem dX9_inLots_87 : decode cX9_inLots 87 = .ok (.goto 5, 3) := by decide +kernel
theorem dX9_inLots_90 : decode cX9_inLots 90 = .ok (.bipush (-6), 2) := by decide +kernel
theorem dX9_inLots_92 : decode cX9_inLots 92 = .ok (.ireturn, 1) := by decide +kernel
abbrev cxX9_inLots (G : Rg) (X : Ct) : Prop := Cx G X cX9_inLots 4 RX9 (some .int) 2 45 (Cond.code yX9_inLots cX9_inLots 4 (some .int))
def fX9_inLots_b71   (v1 : Int32) (v2 : Int32) (s1 : Int32) (s2 : Int32) (M : Mm) : Option (Int32 × Mm) :=
if v1 = (nI 5) then
(if v2 = (nI 41) then
(some ((nI 0), (sI M 0 14 (s1 + s2))))
else
(some ((mI 6), (sI M 0 14 (s1 + s2)))))
else
(some ((mI 6), (sI M 0 14 (s1 + s2))))
set_option maxHeartbeats 4000000 in
set_option maxRecDepth 100000 in
theorem vX9_inLots_b71 {G : Rg} {X : Ct} {r : Int32} {Mf : Mm}   (C : cxX9_inLots G X) (hG : gS G = shM)   (v1 : Int32) (v2 : Int32) (s1 : Int32) (s2 : Int32) (M : Mm) (hf : fX9_inLots_b71 v1 v2 s1 s2 M = some (r, Mf)) : V G X 4 (some (.int r)) Mf 71 [(1, .int v1), (2, .int v2)] [.int s2, .int s1, .ref (gA G 0)] M := by
  rw [fX9_inLots_b71] at hf
  refine V.iadd (pc := 71) C dX9_inLots_71 ?_
  refine V.putI (pc := 72) C clX9 inX9 (sm_0 hG) 14 (by decide) wF_X9_108 tyX9 tyX9_ok nmX9 rfl (tyX9_ok 14 (by decide)) rfl dX9_inLots_72 ?_
  refine V.iload_n (pc := 75) C 0 rfl dX9_inLots_75 ?_
  refine V.iconst (pc := 76) C (nI 5) (by decide) dX9_inLots_76 ?_
  rcases it_some hf with ⟨h1, hf⟩ | ⟨h1, hf⟩
  · refine V.ic_neF (pc := 77) C 90 h1 (by decide) dX9_inLots_77 ?_
    refine V.iload_n (pc := 80) C 1 rfl dX9_inLots_80 ?_
    refine V.bipush (pc := 81) C (nI 41) (by decide) dX9_inLots_81 ?_
    rcases it_some hf with ⟨h2, hf⟩ | ⟨h2, hf⟩
    · refine V.ic_neF (pc := 83) C 90 h2 (by decide) dX9_inLots_83 ?_
      refine V.iconst (pc := 86) C (nI 0) (by decide) dX9_inLots_86 ?_
      refine V.goto (pc := 87) C 92 (by decide) dX9_inLots_87 ?_
      exact V.retI (pc := 92) C hf dX9_inLots_92
    · refine V.ic_neT (pc := 83) C 90 h2 (by decide) dX9_inLots_83 ?_
      refine V.bipush (pc := 90) C (mI 6) (by decide) dX9_inLots_90 ?_
      exact V.retI (pc := 92) C hf dX9_inLots_92
  · refine V.ic_neT (pc := 77) C 90 h1 (by decide) dX9_inLots_77 ?_
    refine V.bipush (pc := 90) C (mI 6) (by decide) dX9_inLots_90 ?_
    exact V.retI (pc := 92) C hf dX9_inLots_92
def fX9_inLots_b70   (v1 : Int32) (v2 : Int32) (s1 : Int32) (M : Mm) : Option (Int32 × Mm) :=
fX9_inLots_b71 v1 v2 s1 (nI 0) M
set_option maxHeartbeats 4000000 in
set_option maxRecDepth 100000 in
theorem vX9_inLots_b70 {G : Rg} {X : Ct} {r : Int32} {Mf : Mm}   (C : cxX9_inLots G X) (hG : gS G = shM)   (v1 : Int32) (v2 : Int32) (s1 : Int32) (M : Mm) (hf : fX9_inLots_b70 v1 v2 s1 M = some (r, Mf)) : V G X 4 (some (.int r)) Mf 70 [(1, .int v1), (2, .int v2)] [.int s1, .ref (gA G 0)] M := by
  rw [fX9_inLots_b70] at hf
  refine V.iconst (pc := 70) C (nI 0) (by decide) dX9_inLots_70 ?_
  exact vX9_inLots_b71 C hG    _ _ _ _ _ hf
def fX9_inLots_b50   (v1 : Int32) (v2 : Int32) (M : Mm) : Option (Int32 × Mm) :=
if v1 = (nI 5) then
(if v2 = (nI 41) then
(fX9_inLots_b71 v1 v2 (M.1 0 14) (nI 1) M)
else
(fX9_inLots_b70 v1 v2 (M.1 0 14) M))
else
(fX9_inLots_b70 v1 v2 (M.1 0 14) M)
set_option maxHeartbeats 4000000 in
set_option maxRecDepth 100000 in
theorem vX9_inLots_b50 {G : Rg} {X : Ct} {r : Int32} {Mf : Mm}   (C : cxX9_inLots G X) (hG : gS G = shM)   (v1 : Int32) (v2 : Int32) (M : Mm) (hf : fX9_inLots_b50 v1 v2 M = some (r, Mf)) : V G X 4 (some (.int r)) Mf 50 [(0, .ref (gA G 0)), (1, .int v1), (2, .int v2)] [] M := by
  rw [fX9_inLots_b50] at hf
  refine V.aload_n (pc := 50) C 0 rfl dX9_inLots_50 ?_
  refine V.dup (pc := 51) C rfl dX9_inLots_51 ?_
  refine V.getI (pc := 52) C clX9 inX9 (sm_0 hG) 14 (by decide) wF_X9_108 rfl dX9_inLots_52 ?_
  refine V.iload_n (pc := 55) C 1 rfl dX9_inLots_55 ?_
  refine V.iconst (pc := 56) C (nI 5) (by decide) dX9_inLots_56 ?_
  rcases it_some hf with ⟨h1, hf⟩ | ⟨h1, hf⟩
  · refine V.ic_neF (pc := 57) C 70 h1 (by decide) dX9_inLots_57 ?_
    refine V.iload_n (pc := 60) C 2 rfl dX9_inLots_60 ?_
    refine V.bipush (pc := 61) C (nI 41) (by decide) dX9_inLots_61 ?_
    rcases it_some hf with ⟨h2, hf⟩ | ⟨h2, hf⟩
    · refine V.ic_neF (pc := 63) C 70 h2 (by decide) dX9_inLots_63 ?_
      refine V.iconst (pc := 66) C (nI 1) (by decide) dX9_inLots_66 ?_
      refine V.goto (pc := 67) C 71 (by decide) dX9_inLots_67 ?_
      refine V.sub C [1, 2] (lv' := [(1, .int v1), (2, .int v2)]) rfl ?_
      exact vX9_inLots_b71 C hG    _ _ _ _ _ hf
    · refine V.ic_neT (pc := 63) C 70 h2 (by decide) dX9_inLots_63 ?_
      refine V.sub C [1, 2] (lv' := [(1, .int v1), (2, .int v2)]) rfl ?_
      exact vX9_inLots_b70 C hG    _ _ _ _ hf
  · refine V.ic_neT (pc := 57) C 70 h1 (by decide) dX9_inLots_57 ?_
    refine V.sub C [1, 2] (lv' := [(1, .int v1), (2, .int v2)]) rfl ?_
    exact vX9_inLots_b70 C hG    _ _ _ _ hf
def fX9_inLots_b16   (v1 : Int32) (v2 : Int32) (s0 : Int32) (M : Mm) : Option (Int32 × Mm) :=
if s0 < (nI 0) then
(if v1 = (nI 3) then
(if v2 = (nI 58) then
(some ((nI 4), M))
else
(fX9_inLots_b50 v1 v2 M))
else
(fX9_inLots_b50 v1 v2 M))
else
(bd (fX9_add s0 M) fun _ M4 =>
if (nI 4) ≤ v1 then
(some ((nI 5), M4))
else
(some ((nI 3), M4)))
set_option maxHeartbeats 4000000 in
set_option maxRecDepth 100000 in
theorem vX9_inLots_b16 {G : Rg} {X : Ct} {r : Int32} {Mf : Mm}   (C : cxX9_inLots G X) (hG : gS G = shM)   (v1 : Int32) (v2 : Int32) (s0 : Int32) (M : Mm) (hf : fX9_inLots_b16 v1 v2 s0 M = some (r, Mf)) : V G X 4 (some (.int r)) Mf 16 [(0, .ref (gA G 0)), (1, .int v1), (2, .int v2)] [.int s0] M := by
  rw [fX9_inLots_b16] at hf
  refine V.istore_n (pc := 16) (lv' := [(3, .int s0), (0, .ref (gA G 0)), (1, .int v1), (2, .int v2)]) C (by decide) rfl dX9_inLots_16 ?_
  refine V.iload_n (pc := 17) C 0 rfl dX9_inLots_17 ?_
  rcases it_some hf with ⟨h1, hf⟩ | ⟨h1, hf⟩
  · refine V.if_ltT (pc := 18) C 37 h1 (by decide) dX9_inLots_18 ?_
    refine V.iload_n (pc := 37) C 2 rfl dX9_inLots_37 ?_
    refine V.iconst (pc := 38) C (nI 3) (by decide) dX9_inLots_38 ?_
    rcases it_some hf with ⟨h2, hf⟩ | ⟨h2, hf⟩
    · refine V.ic_neF (pc := 39) C 50 h2 (by decide) dX9_inLots_39 ?_
      refine V.iload_n (pc := 42) C 3 rfl dX9_inLots_42 ?_
      refine V.bipush (pc := 43) C (nI 58) (by decide) dX9_inLots_43 ?_
      rcases it_some hf with ⟨h3, hf⟩ | ⟨h3, hf⟩
      · refine V.ic_neF (pc := 45) C 50 h3 (by decide) dX9_inLots_45 ?_
        refine V.iconst (pc := 48) C (nI 4) (by decide) dX9_inLots_48 ?_
        exact V.retI (pc := 49) C hf dX9_inLots_49
      · refine V.ic_neT (pc := 45) C 50 h3 (by decide) dX9_inLots_45 ?_
        refine V.sub C [1, 2, 3] (lv' := [(0, .ref (gA G 0)), (1, .int v1), (2, .int v2)]) rfl ?_
        exact vX9_inLots_b50 C hG    _ _ _ hf
    · refine V.ic_neT (pc := 39) C 50 h2 (by decide) dX9_inLots_39 ?_
      refine V.sub C [1, 2, 3] (lv' := [(0, .ref (gA G 0)), (1, .int v1), (2, .int v2)]) rfl ?_
      exact vX9_inLots_b50 C hG    _ _ _ hf
  · refine V.if_ltF (pc := 18) C 37 h1 (by decide) dX9_inLots_18 ?_
    refine V.aload_n (pc := 21) C 1 rfl dX9_inLots_21 ?_
    refine V.iload_n (pc := 22) C 0 rfl dX9_inLots_22 ?_
    obtain ⟨_, M4, h4, hf⟩ := bd_some hf
    refine V.callVv (pc := 23) (As := [.int s0]) (rest := []) C (mX9_add X.2.1 hG  h4) mf_X9_add clX9 (sm_0 hG) wM_X9_117 rfl rfl ⟨by decide, by decide⟩ (Nat.le_of_ble_eq_true rfl) dX9_inLots_23 ?_
    refine V.iload_n (pc := 26) C 2 rfl dX9_inLots_26 ?_
    refine V.iconst (pc := 27) C (nI 4) (by decide) dX9_inLots_27 ?_
    rcases it_some hf with ⟨h5, hf⟩ | ⟨h5, hf⟩
    · refine V.ic_geT (pc := 28) C 35 h5 (by decide) dX9_inLots_28 ?_
      refine V.iconst (pc := 35) C (nI 5) (by decide) dX9_inLots_35 ?_
      exact V.retI (pc := 36) C hf dX9_inLots_36
    · refine V.ic_geF (pc := 28) C 35 h5 (by decide) dX9_inLots_28 ?_
      refine V.iconst (pc := 31) C (nI 3) (by decide) dX9_inLots_31 ?_
      refine V.goto (pc := 32) C 36 (by decide) dX9_inLots_32 ?_
      exact V.retI (pc := 36) C hf dX9_inLots_36
def fX9_inLots (x1 : Int32) (x2 : Int32) (M : Mm) : Option (Int32 × Mm) :=
if (nI 4) ≤ x1 then
(bd (fX9_theirs x2 M) fun r2 M2 =>
fX9_inLots_b16 x1 x2 r2 M2)
else
(bd (fX9_ours x2 M) fun r3 M3 =>
fX9_inLots_b16 x1 x2 r3 M3)
set_option maxHeartbeats 4000000 in
set_option maxRecDepth 100000 in
theorem mX9_inLots (l : Launch) {G : Rg} (hG : gS G = shM) {x1 : Int32} {x2 : Int32}  {M Mf : Mm} {r : Int32} (hf : fX9_inLots x1 x2 M = some (r, Mf)) : Mt l G yX9_inLots cX9_inLots 4 (some .int) 2 45 [.ref (gA G 0), .int x1, .int x2] M (some (.int r)) Mf := by
  refine Mt.of (by decide) (Nat.le_of_ble_eq_true rfl) ?_
  intro X C hX
  subst hX
  have C : cxX9_inLots G X := C
  show V G X 4 (some (.int r)) Mf 0 [(0, .ref (gA G 0)), (1, .int x1), (2, .int x2)] [] M
  rw [fX9_inLots] at hf
  refine V.iload_n (pc := 0) C 1 rfl dX9_inLots_0 ?_
  refine V.iconst (pc := 1) C (nI 4) (by decide) dX9_inLots_1 ?_
  rcases it_some hf with ⟨h1, hf⟩ | ⟨h1, hf⟩
  · refine V.ic_geT (pc := 2) C 12 h1 (by decide) dX9_inLots_2 ?_
    refine V.iload_n (pc := 12) C 2 rfl dX9_inLots_12 ?_
    obtain ⟨r2, M2, h2, hf⟩ := bd_some hf
    refine V.callSi (pc := 13) (As := [.int x2]) (rest := []) C (mX9_theirs X.2.1 hG  h2) mf_X9_theirs wM_X9_114 rfl rfl ⟨by decide, by decide⟩ (Nat.le_of_ble_eq_true rfl) dX9_inLots_13 ?_
    exact vX9_inLots_b16 C hG    _ _ _ _ hf
  · refine V.ic_geF (pc := 2) C 12 h1 (by decide) dX9_inLots_2 ?_
    refine V.iload_n (pc := 5) C 2 rfl dX9_inLots_5 ?_
    obtain ⟨r3, M3, h3, hf⟩ := bd_some hf
    refine V.callSi (pc := 6) (As := [.int x2]) (rest := []) C (mX9_ours X.2.1 hG  h3) mf_X9_ours wM_X9_111 rfl rfl ⟨by decide, by decide⟩ (Nat.le_of_ble_eq_true rfl) dX9_inLots_6 ?_
    refine V.goto (pc := 9) C 16 (by decide) dX9_inLots_9 ?_
    exact vX9_inLots_b16 C hG    _ _ _ _ hf
theorem dX9_fault_0 : decode cX9_fault 0 = .ok (.aload_n 0, 1) := by decide +kernel
theorem dX9_fault_1 : decode cX9_fault 1 = .ok (.iconst 0, 1) := by decide +kernel
theorem dX9_fault_2 : decode cX9_fault 2 = .ok (.putfield 108, 3) := by decide +kernel
theorem dX9_fault_5 : decode cX9_fault 5 = .ok (.iconst 0, 1) := by decide +kernel
theorem dX9_fault_6 : decode cX9_fault 6 = .ok (.istore_n 1, 1) := by decide +kernel
theorem dX9_fault_7 : decode cX9_fault 7 = .ok (.iconst 0, 1) := by decide +kernel
theorem dX9_fault_8 : decode cX9_fault 8 = .ok (.istore_n 2, 1) := by decide +kernel
theorem dX9_fault_9 : decode cX9_fault 9 = .ok (.iload_n 2, 1) := by decide +kernel
theorem dX9_fault_10 : decode cX9_fault 10 = .ok (.aload_n 0, 1) := by decide +kernel
theorem dX9_fault_11 : decode cX9_fault 11 = .ok (.getfield 97, 3) := by decide +kernel
theorem dX9_fault_14 : decode cX9_fault 14 = .ok (.if_icmp .ge 62, 3) := by decide +kernel
theorem dX9_fault_17 : decode cX9_fault 17 = .ok (.iload_n 1, 1) := by decide +kernel
theorem dX9_fault_18 : decode cX9_fault 18 = .ok (.ifCond .ne 16, 3) := by decide +kernel
theorem dX9_fault_21 : decode cX9_fault 21 = .ok (.aload_n 0, 1) := by decide +kernel
theorem dX9_fault_22 : decode cX9_fault 22 = .ok (.aload_n 0, 1) := by decide +kernel
theorem dX9_fault_23 : decode cX9_fault 23 = .ok (.getfield 28, 3) := by decide +kernel
theorem dX9_fault_26 : decode cX9_fault 26 = .ok (.iload_n 2, 1) := by decide +kernel
theorem dX9_fault_27 : decode cX9_fault 27 = .ok (.iaload, 1) := by decide +kernel
theorem dX9_fault_28 : decode cX9_fault 28 = .ok (.invokevirtual 121, 3) := by decide +kernel
theorem dX9_fault_31 : decode cX9_fault 31 = .ok (.goto 32, 3) := by decide +kernel
theorem dX9_fault_34 : decode cX9_fault 34 = .ok (.iload_n 1, 1) := by decide +kernel
theorem dX9_fault_35 : decode cX9_fault 35 = .ok (.iconst 1, 1) := by decide +kernel
theorem dX9_fault_36 : decode cX9_fault 36 = .ok (.if_icmp .ne 16, 3) := by decide +kernel
theorem dX9_fault_39 : decode cX9_fault 39 = .ok (.aload_n 0, 1) := by decide +kernel
theorem dX9_fault_40 : decode cX9_fault 40 = .ok (.aload_n 0, 1) := by decide +kernel
theorem dX9_fault_41 : decode cX9_fault 41 = .ok (.getfield 28, 3) := by decide +kernel
theorem dX9_fault_44 : decode cX9_fault 44 = .ok (.iload_n 2, 1) := by decide +kernel
theorem dX9_fault_45 : decode cX9_fault 45 = .ok (.iaload, 1) := by decide +kernel
theorem dX9_fault_46 : decode cX9_fault 46 = .ok (.invokevirtual 124, 3) := by decide +kernel
theorem dX9_fault_49 : decode cX9_fault 49 = .ok (.goto 14, 3) := by decide +kernel
theorem dX9_fault_52 : decode cX9_fault 52 = .ok (.aload_n 0, 1) := by decide +kernel
theorem dX9_fault_53 : decode cX9_fault 53 = .ok (.iload_n 1, 1) := by decide +kernel
theorem dX9_fault_54 : decode cX9_fault 54 = .ok (.aload_n 0, 1) := by decide +kernel
theorem dX9_fault_55 : decode cX9_fault 55 = .ok (.getfield 28, 3) := by decide +kernel
theorem dX9_fault_58 : decode cX9_fault 58 = .ok (.iload_n 2, 1) := by decide +kernel
theorem dX9_fault_59 : decode cX9_fault 59 = .ok (.iaload, 1) := by decide +kernel
theorem dX9_fault_60 : decode cX9_fault 60 = .ok (.invokevirtual 127, 3) := by decide +kernel
theorem dX9_fault_63 : decode cX9_fault 63 = .ok (.istore_n 1, 1) := by decide +kernel
theorem dX9_fault_64 : decode cX9_fault 64 = .ok (.iload_n 1, 1) := by decide +kernel
theorem dX9_fault_65 : decode cX9_fault 65 = .ok (.ifCond .ge 5, 3) := by decide +kernel
theorem dX9_fault_68 : decode cX9_fault 68 = .ok (.iload_n 2, 1) := by decide +kernel
theorem dX9_fault_69 : decode cX9_fault 69 = .ok (.ireturn, 1) := by decide +kernel
theorem dX9_fault_70 : decode cX9_fault 70 = .ok (.iinc 2 1, 3) := by decide +kernel
theorem dX9_fault_73 : decode cX9_fault 73 = .ok (.goto (-64), 3) := by decide +kernel
theorem dX9_fault_76 : decode cX9_fault 76 = .ok (.iload_n 1, 1) := by decide +kernel
theorem dX9_fault_77 : decode cX9_fault 77 = .ok (.ifCond .ne 8, 3) := by decide +kernel
theorem dX9_fault_80 : decode cX9_fault 80 = .ok (.bipush (-6), 2) := by decide +kernel
theorem dX9_fault_82 : decode cX9_fault 82 = .ok (.goto 7, 3) := by decide +kernel
theorem dX9_fault_85 : decode cX9_fault 85 = .ok (.aload_n 0, 1) := by decide +kernel
theorem dX9_fault_86 : decode cX9_fault 86 = .ok (.getfield 97, 3) := by decide +kernel
theorem dX9_fault_89 : decode cX9_fault 89 = .ok (.ireturn, 1) := by decide +kernel
abbrev cxX9_fault (G : Rg) (X : Ct) : Prop := Cx G X cX9_fault 3 RX9 (some .int) 3 68 (Cond.code yX9_fault cX9_fault 3 (some .int))
def fX9_fault_b76   (v1 : Int32) (M : Mm) : Option (Int32 × Mm) :=
if v1 = (nI 0) then
(some ((mI 6), M))
else
(some ((M.1 0 10), M))
set_option maxHeartbeats 4000000 in
set_option maxRecDepth 100000 in
theorem vX9_fault_b76 {G : Rg} {X : Ct} {r : Int32} {Mf : Mm}   (C : cxX9_fault G X) (hG : gS G = shM)   (v1 : Int32) (M : Mm) (hf : fX9_fault_b76 v1 M = some (r, Mf)) : V G X 3 (some (.int r)) Mf 76 [(0, .ref (gA G 0)), (1, .int v1)] [] M := by
  rw [fX9_fault_b76] at hf
  refine V.iload_n (pc := 76) C 1 rfl dX9_fault_76 ?_
  rcases it_some hf with ⟨h1, hf⟩ | ⟨h1, hf⟩
  · refine V.if_neF (pc := 77) C 85 h1 (by decide) dX9_fault_77 ?_
    refine V.bipush (pc := 80) C (mI 6) (by decide) dX9_fault_80 ?_
    refine V.goto (pc := 82) C 89 (by decide) dX9_fault_82 ?_
    exact V.retI (pc := 89) C hf dX9_fault_89
  · refine V.if_neT (pc := 77) C 85 h1 (by decide) dX9_fault_77 ?_
    refine V.aload_n (pc := 85) C 0 rfl dX9_fault_85 ?_
    refine V.getI (pc := 86) C clX9 inX9 (sm_0 hG) 10 (by decide) wF_X9_97 rfl dX9_fault_86 ?_
    exact V.retI (pc := 89) C hf dX9_fault_89
def fX9_fault_b63 (nx9 : Int32 → Int32 → Mm → Option (Int32 × Mm))  (v2 : Int32) (s0 : Int32) (M : Mm) : Option (Int32 × Mm) :=
if (nI 0) ≤ s0 then
(nx9 s0 (v2 + (nI 1)) M)
else
(some (v2, M))
set_option maxHeartbeats 4000000 in
set_option maxRecDepth 100000 in
theorem vX9_fault_b63 {G : Rg} {X : Ct} {r : Int32} {Mf : Mm}  {nx9 : Int32 → Int32 → Mm → Option (Int32 × Mm)} (C : cxX9_fault G X) (hG : gS G = shM)  (hx9 : ∀ (v1 : Int32) (v2 : Int32) (M : Mm), nx9 v1 v2 M = some (r, Mf) → V G X 3 (some (.int r)) Mf 9 [(0, .ref (gA G 0)), (1, .int v1), (2, .int v2)] [] M) (v2 : Int32) (s0 : Int32) (M : Mm) (hf : fX9_fault_b63 nx9 v2 s0 M = some (r, Mf)) : V G X 3 (some (.int r)) Mf 63 [(0, .ref (gA G 0)), (2, .int v2)] [.int s0] M := by
  rw [fX9_fault_b63] at hf
  refine V.istore_n (pc := 63) (lv' := [(1, .int s0), (0, .ref (gA G 0)), (2, .int v2)]) C (by decide) rfl dX9_fault_63 ?_
  refine V.iload_n (pc := 64) C 0 rfl dX9_fault_64 ?_
  rcases it_some hf with ⟨h1, hf⟩ | ⟨h1, hf⟩
  · refine V.if_geT (pc := 65) C 70 h1 (by decide) dX9_fault_65 ?_
    refine V.iinc (pc := 70) (lv' := [(2, .int (v2 + (nI 1))), (1, .int s0), (0, .ref (gA G 0))]) C (v2 + (nI 1)) 2 rfl rfl (by decide) rfl dX9_fault_70 ?_
    refine V.goto (pc := 73) C 9 (by decide) dX9_fault_73 ?_
    refine V.sub C [2, 1, 0] (lv' := [(0, .ref (gA G 0)), (1, .int s0), (2, .int (v2 + (nI 1)))]) rfl ?_
    exact hx9 _ _ _ hf
  · refine V.if_geF (pc := 65) C 70 h1 (by decide) dX9_fault_65 ?_
    refine V.iload_n (pc := 68) C 2 rfl dX9_fault_68 ?_
    exact V.retI (pc := 69) C hf dX9_fault_69
def fX9_fault_b9   : Nat → Int32 → Int32 → Mm → Option (Int32 × Mm)
  | 0, _, _, _ => none
  | n + 1, v1, v2, M =>
    if (M.1 0 10) ≤ v2 then
    (fX9_fault_b76 v1 M)
    else
    (if v1 = (nI 0) then
    (gd (inb v2 60) (
    bd (fX9_begin (M.1 7 v2.toNatClampNeg) M) fun r9 M9 =>
    fX9_fault_b63 (fX9_fault_b9  n) v2 r9 M9))
    else
    (if v1 = (nI 1) then
    (gd (inb v2 60) (
    bd (fX9_deed (M.1 7 v2.toNatClampNeg) M) fun r7 M7 =>
    fX9_fault_b63 (fX9_fault_b9  n) v2 r7 M7))
    else
    (gd (inb v2 60) (
    bd (fX9_inLots v1 (M.1 7 v2.toNatClampNeg) M) fun r5 M5 =>
    fX9_fault_b63 (fX9_fault_b9  n) v2 r5 M5))))
set_option maxHeartbeats 4000000 in
set_option maxRecDepth 100000 in
theorem vX9_fault_b9 {G : Rg} {X : Ct} {r : Int32} {Mf : Mm}   (C : cxX9_fault G X) (hG : gS G = shM)   : ∀ (n : Nat) (v1 : Int32) (v2 : Int32) (M : Mm), fX9_fault_b9 n v1 v2 M = some (r, Mf) → V G X 3 (some (.int r)) Mf 9 [(0, .ref (gA G 0)), (1, .int v1), (2, .int v2)] [] M := by
  intro n
  induction n with
  | zero => intro v1 v2 M hf; rw [fX9_fault_b9] at hf; cases hf
  | succ n ih =>
    intro v1 v2 M hf
    rw [fX9_fault_b9] at hf
    refine V.iload_n (pc := 9) C 2 rfl dX9_fault_9 ?_
    refine V.aload_n (pc := 10) C 0 rfl dX9_fault_10 ?_
    refine V.getI (pc := 11) C clX9 inX9 (sm_0 hG) 10 (by decide) wF_X9_97 rfl dX9_fault_11 ?_
    rcases it_some hf with ⟨h1, hf⟩ | ⟨h1, hf⟩
    · refine V.ic_geT (pc := 14) C 76 h1 (by decide) dX9_fault_14 ?_
      refine V.sub C [0, 1] (lv' := [(0, .ref (gA G 0)), (1, .int v1)]) rfl ?_
      exact vX9_fault_b76 C hG    _ _ hf
    · refine V.ic_geF (pc := 14) C 76 h1 (by decide) dX9_fault_14 ?_
      refine V.iload_n (pc := 17) C 1 rfl dX9_fault_17 ?_
      rcases it_some hf with ⟨h2, hf⟩ | ⟨h2, hf⟩
      · refine V.if_neF (pc := 18) C 34 h2 (by decide) dX9_fault_18 ?_
        refine V.aload_n (pc := 21) C 0 rfl dX9_fault_21 ?_
        refine V.aload_n (pc := 22) C 0 rfl dX9_fault_22 ?_
        refine V.getR (pc := 23) C clX9 inX9 (sm_0 hG) 9 (by decide) wF_X9_28 rfl dX9_fault_23 ?_
        refine V.iload_n (pc := 26) C 2 rfl dX9_fault_26 ?_
        obtain ⟨g8, hf⟩ := gd_some hf
        refine V.iald (pc := 27) C (sm_7 hG) (inb_in g8) dX9_fault_27 ?_
        obtain ⟨r9, M9, h9, hf⟩ := bd_some hf
        refine V.callVi (pc := 28) (As := [.int (M.1 7 v2.toNatClampNeg)]) (rest := []) C (mX9_begin X.2.1 hG  h9) mf_X9_begin clX9 (sm_0 hG) wM_X9_121 rfl rfl ⟨by decide, by decide⟩ (Nat.le_of_ble_eq_true rfl) dX9_fault_28 ?_
        refine V.goto (pc := 31) C 63 (by decide) dX9_fault_31 ?_
        refine V.sub C [0, 2] (lv' := [(0, .ref (gA G 0)), (2, .int v2)]) rfl ?_
        exact vX9_fault_b63 C hG  ih  _ _ _ hf
      · refine V.if_neT (pc := 18) C 34 h2 (by decide) dX9_fault_18 ?_
        refine V.iload_n (pc := 34) C 1 rfl dX9_fault_34 ?_
        refine V.iconst (pc := 35) C (nI 1) (by decide) dX9_fault_35 ?_
        rcases it_some hf with ⟨h3, hf⟩ | ⟨h3, hf⟩
        · refine V.ic_neF (pc := 36) C 52 h3 (by decide) dX9_fault_36 ?_
          refine V.aload_n (pc := 39) C 0 rfl dX9_fault_39 ?_
          refine V.aload_n (pc := 40) C 0 rfl dX9_fault_40 ?_
          refine V.getR (pc := 41) C clX9 inX9 (sm_0 hG) 9 (by decide) wF_X9_28 rfl dX9_fault_41 ?_
          refine V.iload_n (pc := 44) C 2 rfl dX9_fault_44 ?_
          obtain ⟨g6, hf⟩ := gd_some hf
          refine V.iald (pc := 45) C (sm_7 hG) (inb_in g6) dX9_fault_45 ?_
          obtain ⟨r7, M7, h7, hf⟩ := bd_some hf
          refine V.callVi (pc := 46) (As := [.int (M.1 7 v2.toNatClampNeg)]) (rest := []) C (mX9_deed X.2.1 hG  h7) mf_X9_deed clX9 (sm_0 hG) wM_X9_124 rfl rfl ⟨by decide, by decide⟩ (Nat.le_of_ble_eq_true rfl) dX9_fault_46 ?_
          refine V.goto (pc := 49) C 63 (by decide) dX9_fault_49 ?_
          refine V.sub C [0, 2] (lv' := [(0, .ref (gA G 0)), (2, .int v2)]) rfl ?_
          exact vX9_fault_b63 C hG  ih  _ _ _ hf
        · refine V.ic_neT (pc := 36) C 52 h3 (by decide) dX9_fault_36 ?_
          refine V.aload_n (pc := 52) C 0 rfl dX9_fault_52 ?_
          refine V.iload_n (pc := 53) C 1 rfl dX9_fault_53 ?_
          refine V.aload_n (pc := 54) C 0 rfl dX9_fault_54 ?_
          refine V.getR (pc := 55) C clX9 inX9 (sm_0 hG) 9 (by decide) wF_X9_28 rfl dX9_fault_55 ?_
          refine V.iload_n (pc := 58) C 2 rfl dX9_fault_58 ?_
          obtain ⟨g4, hf⟩ := gd_some hf
          refine V.iald (pc := 59) C (sm_7 hG) (inb_in g4) dX9_fault_59 ?_
          obtain ⟨r5, M5, h5, hf⟩ := bd_some hf
          refine V.callVi (pc := 60) (As := [.int v1, .int (M.1 7 v2.toNatClampNeg)]) (rest := []) C (mX9_inLots X.2.1 hG  h5) mf_X9_inLots clX9 (sm_0 hG) wM_X9_127 rfl rfl ⟨by decide, by decide⟩ (Nat.le_of_ble_eq_true rfl) dX9_fault_60 ?_
          refine V.sub C [0, 2] (lv' := [(0, .ref (gA G 0)), (2, .int v2)]) rfl ?_
          exact vX9_fault_b63 C hG  ih  _ _ _ hf
def fX9_fault  (M : Mm) : Option (Int32 × Mm) :=
fX9_fault_b9 fu (nI 0) (nI 0) (sI M 0 14 (nI 0))
set_option maxHeartbeats 4000000 in
set_option maxRecDepth 100000 in
theorem mX9_fault (l : Launch) {G : Rg} (hG : gS G = shM)   {M Mf : Mm} {r : Int32} (hf : fX9_fault  M = some (r, Mf)) : Mt l G yX9_fault cX9_fault 3 (some .int) 3 68 [.ref (gA G 0)] M (some (.int r)) Mf := by
  refine Mt.of (by decide) (Nat.le_of_ble_eq_true rfl) ?_
  intro X C hX
  subst hX
  have C : cxX9_fault G X := C
  show V G X 3 (some (.int r)) Mf 0 [(0, .ref (gA G 0))] [] M
  rw [fX9_fault] at hf
  refine V.aload_n (pc := 0) C 0 rfl dX9_fault_0 ?_
  refine V.iconst (pc := 1) C (nI 0) (by decide) dX9_fault_1 ?_
  refine V.putI (pc := 2) C clX9 inX9 (sm_0 hG) 14 (by decide) wF_X9_108 tyX9 tyX9_ok nmX9 rfl (tyX9_ok 14 (by decide)) rfl dX9_fault_2 ?_
  refine V.iconst (pc := 5) C (nI 0) (by decide) dX9_fault_5 ?_
  refine V.istore_n (pc := 6) (lv' := [(1, .int (nI 0)), (0, .ref (gA G 0))]) C (by decide) rfl dX9_fault_6 ?_
  refine V.iconst (pc := 7) C (nI 0) (by decide) dX9_fault_7 ?_
  refine V.istore_n (pc := 8) (lv' := [(2, .int (nI 0)), (1, .int (nI 0)), (0, .ref (gA G 0))]) C (by decide) rfl dX9_fault_8 ?_
  refine V.sub C [2, 1, 0] (lv' := [(0, .ref (gA G 0)), (1, .int (nI 0)), (2, .int (nI 0))]) rfl ?_
  exact vX9_fault_b9 C hG   fu _ _ _ hf
theorem dX9_store_0 : decode cX9_store 0 = .ok (.iconst 0, 1) := by decide +kernel
theorem dX9_store_1 : decode cX9_store 1 = .ok (.istore_n 2, 1) := by decide +kernel
theorem dX9_store_2 : decode cX9_store 2 = .ok (.iload_n 2, 1) := by decide +kernel
theorem dX9_store_3 : decode cX9_store 3 = .ok (.bipush 12, 2) := by decide +kernel
theorem dX9_store_5 : decode cX9_store 5 = .ok (.if_icmp .ge 30, 3) := by decide +kernel
theorem dX9_store_8 : decode cX9_store 8 = .ok (.aload_n 1, 1) := by decide +kernel
theorem dX9_store_9 : decode cX9_store 9 = .ok (.iload_n 2, 1) := by decide +kernel
theorem dX9_store_10 : decode cX9_store 10 = .ok (.aload_n 0, 1) := by decide +kernel
theorem dX9_store_11 : decode cX9_store 11 = .ok (.getfield 13, 3) := by decide +kernel
theorem dX9_store_14 : decode cX9_store 14 = .ok (.iload_n 2, 1) := by decide +kernel
theorem dX9_store_15 : decode cX9_store 15 = .ok (.iaload, 1) := by decide +kernel
theorem dX9_store_16 : decode cX9_store 16 = .ok (.iastore, 1) := by decide +kernel
theorem dX9_store_17 : decode cX9_store 17 = .ok (.aload_n 1, 1) := by decide +kernel
theorem dX9_store_18 : decode cX9_store 18 = .ok (.bipush 12, 2) := by decide +kernel
theorem dX9_store_20 : decode cX9_store 20 = .ok (.iload_n 2, 1) := by decide +kernel
theorem dX9_store_21 : decode cX9_store 21 = .ok (.iadd, 1) := by decide +kernel
theorem dX9_store_22 : decode cX9_store 22 = .ok (.aload_n 0, 1) := by decide +kernel
theorem dX9_store_23 : decode cX9_store 23 = .ok (.getfield 7, 3) := by decide +kernel
theorem dX9_store_26 : decode cX9_store 26 = .ok (.iload_n 2, 1) := by decide +kernel
theorem dX9_store_27 : decode cX9_store 27 = .ok (.iaload, 1) := by decide +kernel
theorem dX9_store_28 : decode cX9_store 28 = .ok (.iastore, 1) := by decide +kernel
theorem dX9_store_29 : decode cX9_store 29 = .ok (.iinc 2 1, 3) := by decide +kernel
theorem dX9_store_32 : decode cX9_store 32 = .ok (.goto (-30), 3) := by decide +kernel
theorem dX9_store_35 : decode cX9_store 35 = .ok (.aload_n 1, 1) := by decide +kernel
theorem dX9_store_36 : decode cX9_store 36 = .ok (.bipush 24, 2) := by decide +kernel
theorem dX9_store_38 : decode cX9_store 38 = .ok (.aload_n 0, 1) := by decide +kernel
theorem dX9_store_39 : decode cX9_store 39 = .ok (.getfield 63, 3) := by decide +kernel
theorem dX9_store_42 : decode cX9_store 42 = .ok (.iastore, 1) := by decide +kernel
theorem dX9_store_43 : decode cX9_store 43 = .ok (.return_, 1) := by decide +kernel
abbrev cxX9_store (G : Rg) (X : Ct) : Prop := Cx G X cX9_store 3 RX9 (none) 0 0 (Cond.code yX9_store cX9_store 3 (none))
def fX9_store_b2  (c1 : Nat) : Nat → Int32 → Mm → Option (Unit × Mm)
  | 0, _, _ => none
  | n + 1, v2, M =>
    if (nI 12) ≤ v2 then
    (some ((), (sI M c1 (nI 24).toNatClampNeg (M.1 0 1))))
    else
    (gd (inb v2 12) (
    gd (inb v2 25) (
    gd (inb v2 12) (
    gd (inb ((nI 12) + v2) 25) (
    fX9_store_b2 c1 n (v2 + (nI 1)) (sI (sI M c1 v2.toNatClampNeg (M.1 2 v2.toNatClampNeg)) c1 ((nI 12) + v2).toNatClampNeg ((sI M c1 v2.toNatClampNeg (M.1 2 v2.toNatClampNeg)).1 1 v2.toNatClampNeg)))))))
set_option maxHeartbeats 4000000 in
set_option maxRecDepth 100000 in
theorem vX9_store_b2 {G : Rg} {X : Ct} {r : Unit} {Mf : Mm} {c1 : Nat}  (C : cxX9_store G X) (hG : gS G = shM) (hA1 : (gS G)[c1]? = some (.inl (0, 25)))  : ∀ (n : Nat) (v2 : Int32) (M : Mm), fX9_store_b2 c1 n v2 M = some (r, Mf) → V G X 3 none Mf 2 [(0, .ref (gA G 0)), (1, .ref (gA G c1)), (2, .int v2)] [] M := by
  intro n
  induction n with
  | zero => intro v2 M hf; rw [fX9_store_b2] at hf; cases hf
  | succ n ih =>
    intro v2 M hf
    rw [fX9_store_b2] at hf
    refine V.iload_n (pc := 2) C 2 rfl dX9_store_2 ?_
    refine V.bipush (pc := 3) C (nI 12) (by decide) dX9_store_3 ?_
    rcases it_some hf with ⟨h1, hf⟩ | ⟨h1, hf⟩
    · refine V.ic_geT (pc := 5) C 35 h1 (by decide) dX9_store_5 ?_
      refine V.aload_n (pc := 35) C 1 rfl dX9_store_35 ?_
      refine V.bipush (pc := 36) C (nI 24) (by decide) dX9_store_36 ?_
      refine V.aload_n (pc := 38) C 0 rfl dX9_store_38 ?_
      refine V.getI (pc := 39) C clX9 inX9 (sm_0 hG) 1 (by decide) wF_X9_63 rfl dX9_store_39 ?_
      refine V.iast (pc := 42) C hA1 (inb_in (by decide)) dX9_store_42 ?_
      exact V.retV (pc := 43) C hf dX9_store_43
    · refine V.ic_geF (pc := 5) C 35 h1 (by decide) dX9_store_5 ?_
      refine V.aload_n (pc := 8) C 1 rfl dX9_store_8 ?_
      refine V.iload_n (pc := 9) C 2 rfl dX9_store_9 ?_
      refine V.aload_n (pc := 10) C 0 rfl dX9_store_10 ?_
      refine V.getR (pc := 11) C clX9 inX9 (sm_0 hG) 3 (by decide) wF_X9_13 rfl dX9_store_11 ?_
      refine V.iload_n (pc := 14) C 2 rfl dX9_store_14 ?_
      obtain ⟨g2, hf⟩ := gd_some hf
      refine V.iald (pc := 15) C (sm_2 hG) (inb_in g2) dX9_store_15 ?_
      obtain ⟨g3, hf⟩ := gd_some hf
      refine V.iast (pc := 16) C hA1 (inb_in g3) dX9_store_16 ?_
      refine V.aload_n (pc := 17) C 1 rfl dX9_store_17 ?_
      refine V.bipush (pc := 18) C (nI 12) (by decide) dX9_store_18 ?_
      refine V.iload_n (pc := 20) C 2 rfl dX9_store_20 ?_
      refine V.iadd (pc := 21) C dX9_store_21 ?_
      refine V.aload_n (pc := 22) C 0 rfl dX9_store_22 ?_
      refine V.getR (pc := 23) C clX9 inX9 (sm_0 hG) 2 (by decide) wF_X9_7 rfl dX9_store_23 ?_
      refine V.iload_n (pc := 26) C 2 rfl dX9_store_26 ?_
      obtain ⟨g4, hf⟩ := gd_some hf
      refine V.iald (pc := 27) C (sm_1 hG) (inb_in g4) dX9_store_27 ?_
      obtain ⟨g5, hf⟩ := gd_some hf
      refine V.iast (pc := 28) C hA1 (inb_in g5) dX9_store_28 ?_
      refine V.iinc (pc := 29) (lv' := [(2, .int (v2 + (nI 1))), (0, .ref (gA G 0)), (1, .ref (gA G c1))]) C (v2 + (nI 1)) 2 rfl rfl (by decide) rfl dX9_store_29 ?_
      refine V.goto (pc := 32) C 2 (by decide) dX9_store_32 ?_
      refine V.sub C [1, 2, 0] (lv' := [(0, .ref (gA G 0)), (1, .ref (gA G c1)), (2, .int (v2 + (nI 1)))]) rfl ?_
      exact ih _ _ hf
def fX9_store (c1 : Nat) (M : Mm) : Option (Unit × Mm) :=
fX9_store_b2 c1 fu (nI 0) M
set_option maxHeartbeats 4000000 in
set_option maxRecDepth 100000 in
theorem mX9_store (l : Launch) {G : Rg} (hG : gS G = shM) {c1 : Nat} (hA1 : (gS G)[c1]? = some (.inl (0, 25))) {M Mf : Mm} {r : Unit} (hf : fX9_store c1 M = some (r, Mf)) : Mt l G yX9_store cX9_store 3 (none) 0 0 [.ref (gA G 0), .ref (gA G c1)] M none Mf := by
  refine Mt.of (by decide) (Nat.le_of_ble_eq_true rfl) ?_
  intro X C hX
  subst hX
  have C : cxX9_store G X := C
  show V G X 3 none Mf 0 [(0, .ref (gA G 0)), (1, .ref (gA G c1))] [] M
  rw [fX9_store] at hf
  refine V.iconst (pc := 0) C (nI 0) (by decide) dX9_store_0 ?_
  refine V.istore_n (pc := 1) (lv' := [(2, .int (nI 0)), (0, .ref (gA G 0)), (1, .ref (gA G c1))]) C (by decide) rfl dX9_store_1 ?_
  refine V.sub C [1, 2, 0] (lv' := [(0, .ref (gA G 0)), (1, .ref (gA G c1)), (2, .int (nI 0))]) rfl ?_
  exact vX9_store_b2 C hG hA1  fu _ _ hf
theorem dX9_isOpen_0 : decode cX9_isOpen 0 = .ok (.aload_n 0, 1) := by decide +kernel
theorem dX9_isOpen_1 : decode cX9_isOpen 1 = .ok (.iload_n 1, 1) := by decide +kernel
theorem dX9_isOpen_2 : decode cX9_isOpen 2 = .ok (.invokevirtual 86, 3) := by decide +kernel
theorem dX9_isOpen_5 : decode cX9_isOpen 5 = .ok (.ifCond .eq 17, 3) := by decide +kernel
theorem dX9_isOpen_8 : decode cX9_isOpen 8 = .ok (.aload_n 0, 1) := by decide +kernel
theorem dX9_isOpen_9 : decode cX9_isOpen 9 = .ok (.getfield 13, 3) := by decide +kernel
theorem dX9_isOpen_12 : decode cX9_isOpen 12 = .ok (.iload_n 1, 1) := by decide +kernel
theorem dX9_isOpen_13 : decode cX9_isOpen 13 = .ok (.iaload, 1) := by decide +kernel
theorem dX9_isOpen_14 : decode cX9_isOpen 14 = .ok (.iconst 3, 1) := by decide +kernel
theorem dX9_isOpen_15 : decode cX9_isOpen 15 = .ok (.if_icmp .ge 7, 3) := by decide +kernel
theorem dX9_isOpen_18 : decode cX9_isOpen 18 = .ok (.iconst 1, 1) := by decide +kernel
theorem dX9_isOpen_19 : decode cX9_isOpen 19 = .ok (.goto 4, 3) := by decide +kernel
theorem dX9_isOpen_22 : decode cX9_isOpen 22 = .ok (.iconst 0, 1) := by decide +kernel
theorem dX9_isOpen_23 : decode cX9_isOpen 23 = .ok (.ireturn, 1) := by decide +kernel
abbrev cxX9_isOpen (G : Rg) (X : Ct) : Prop := Cx G X cX9_isOpen 2 RX9 (some .boolean) 2 46 (Cond.code yX9_isOpen cX9_isOpen 2 (some .boolean))
def fX9_isOpen (x1 : Int32) (M : Mm) : Option (Int32 × Mm) :=
bd (fX9_isOfficer x1 M) fun r1 M1 =>
if r1 = (nI 0) then
(some ((nI 0), M1))
else
(gd (inb x1 12) (
if (nI 3) ≤ (M1.1 2 x1.toNatClampNeg) then
(some ((nI 0), M1))
else
(some ((nI 1), M1))))
set_option maxHeartbeats 4000000 in
set_option maxRecDepth 100000 in
theorem mX9_isOpen (l : Launch) {G : Rg} (hG : gS G = shM) {x1 : Int32}  {M Mf : Mm} {r : Int32} (hf : fX9_isOpen x1 M = some (r, Mf)) : Mt l G yX9_isOpen cX9_isOpen 2 (some .boolean) 2 46 [.ref (gA G 0), .int x1] M (some (.int r)) Mf := by
  refine Mt.of (by decide) (Nat.le_of_ble_eq_true rfl) ?_
  intro X C hX
  subst hX
  have C : cxX9_isOpen G X := C
  show V G X 2 (some (.int r)) Mf 0 [(0, .ref (gA G 0)), (1, .int x1)] [] M
  rw [fX9_isOpen] at hf
  refine V.aload_n (pc := 0) C 0 rfl dX9_isOpen_0 ?_
  refine V.iload_n (pc := 1) C 1 rfl dX9_isOpen_1 ?_
  obtain ⟨r1, M1, h1, hf⟩ := bd_some hf
  refine V.callVi (pc := 2) (As := [.int x1]) (rest := []) C (mX9_isOfficer X.2.1 hG  h1) mf_X9_isOfficer clX9 (sm_0 hG) wM_X9_86 rfl rfl ⟨by decide, by decide⟩ (Nat.le_of_ble_eq_true rfl) dX9_isOpen_2 ?_
  rcases it_some hf with ⟨h2, hf⟩ | ⟨h2, hf⟩
  · refine V.if_eqT (pc := 5) C 22 h2 (by decide) dX9_isOpen_5 ?_
    refine V.iconst (pc := 22) C (nI 0) (by decide) dX9_isOpen_22 ?_
    exact V.retZ (pc := 23) C (Or.inl rfl) hf dX9_isOpen_23
  · refine V.if_eqF (pc := 5) C 22 h2 (by decide) dX9_isOpen_5 ?_
    refine V.aload_n (pc := 8) C 0 rfl dX9_isOpen_8 ?_
    refine V.getR (pc := 9) C clX9 inX9 (sm_0 hG) 3 (by decide) wF_X9_13 rfl dX9_isOpen_9 ?_
    refine V.iload_n (pc := 12) C 1 rfl dX9_isOpen_12 ?_
    obtain ⟨g3, hf⟩ := gd_some hf
    refine V.iald (pc := 13) C (sm_2 hG) (inb_in g3) dX9_isOpen_13 ?_
    refine V.iconst (pc := 14) C (nI 3) (by decide) dX9_isOpen_14 ?_
    rcases it_some hf with ⟨h4, hf⟩ | ⟨h4, hf⟩
    · refine V.ic_geT (pc := 15) C 22 h4 (by decide) dX9_isOpen_15 ?_
      refine V.iconst (pc := 22) C (nI 0) (by decide) dX9_isOpen_22 ?_
      exact V.retZ (pc := 23) C (Or.inl rfl) hf dX9_isOpen_23
    · refine V.ic_geF (pc := 15) C 22 h4 (by decide) dX9_isOpen_15 ?_
      refine V.iconst (pc := 18) C (nI 1) (by decide) dX9_isOpen_18 ?_
      refine V.goto (pc := 19) C 23 (by decide) dX9_isOpen_19 ?_
      exact V.retZ (pc := 23) C (Or.inr rfl) hf dX9_isOpen_23
theorem dX9_areAllOpen_0 : decode cX9_areAllOpen 0 = .ok (.iconst 1, 1) := by decide +kernel
theorem dX9_areAllOpen_1 : decode cX9_areAllOpen 1 = .ok (.istore_n 2, 1) := by decide +kernel
theorem dX9_areAllOpen_2 : decode cX9_areAllOpen 2 = .ok (.iconst 0, 1) := by decide +kernel
theorem dX9_areAllOpen_3 : decode cX9_areAllOpen 3 = .ok (.istore_n 3, 1) := by decide +kernel
theorem dX9_areAllOpen_4 : decode cX9_areAllOpen 4 = .ok (.iload_n 3, 1) := by decide +kernel
theorem dX9_areAllOpen_5 : decode cX9_areAllOpen 5 = .ok (.bipush 12, 2) := by decide +kernel
theorem dX9_areAllOpen_7 : decode cX9_areAllOpen 7 = .ok (.if_icmp .ge 35, 3) := by decide +kernel
theorem dX9_areAllOpen_10 : decode cX9_areAllOpen 10 = .ok (.iload_n 2, 1) := by decide +kernel
theorem dX9_areAllOpen_11 : decode cX9_areAllOpen 11 = .ok (.ifCond .eq 23, 3) := by decide +kernel
theorem dX9_areAllOpen_14 : decode cX9_areAllOpen 14 = .ok (.iload_n 1, 1) := by decide +kernel
theorem dX9_areAllOpen_15 : decode cX9_areAllOpen 15 = .ok (.iload_n 3, 1) := by decide +kernel
theorem dX9_areAllOpen_16 : decode cX9_areAllOpen 16 = .ok (.ishr, 1) := by decide +kernel
theorem dX9_areAllOpen_17 : decode cX9_areAllOpen 17 = .ok (.iconst 1, 1) := by decide +kernel
theorem dX9_areAllOpen_18 : decode cX9_areAllOpen 18 = .ok (.iand, 1) := by decide +kernel
theorem dX9_areAllOpen_19 : decode cX9_areAllOpen 19 = .ok (.ifCond .eq 11, 3) := by decide +kernel
theorem dX9_areAllOpen_22 : decode cX9_areAllOpen 22 = .ok (.aload_n 0, 1) := by decide +kernel
theorem dX9_areAllOpen_23 : decode cX9_areAllOpen 23 = .ok (.iload_n 3, 1) := by decide +kernel
theorem dX9_areAllOpen_24 : decode cX9_areAllOpen 24 = .ok (.invokevirtual 134, 3) := by decide +kernel
theorem dX9_areAllOpen_27 : decode cX9_areAllOpen 27 = .ok (.ifCond .eq 7, 3) := by decide +kernel
theorem dX9_areAllOpen_30 : decode cX9_areAllOpen 30 = .ok (.iconst 1, 1) := by decide +kernel
theorem dX9_areAllOpen_31 : decode cX9_areAllOpen 31 = .ok (.goto 4, 3) := by decide +kernel
theorem dX9_areAllOpen_34 : decode cX9_areAllOpen 34 = .ok (.iconst 0, 1) := by decide +kernel
theorem dX9_areAllOpen_35 : decode cX9_areAllOpen 35 = .ok (.istore_n 2, 1) := by decide +kernel
theorem dX9_areAllOpen_36 : decode cX9_areAllOpen 36 = .ok (.iinc 3 1, 3) := by decide +kernel
theorem dX9_areAllOpen_39 : decode cX9_areAllOpen 39 = .ok (.goto (-35), 3) := by decide +kernel
theorem dX9_areAllOpen_42 : decode cX9_areAllOpen 42 = .ok (.iload_n 2, 1) := by decide +kernel
theorem dX9_areAllOpen_43 : decode cX9_areAllOpen 43 = .ok (.ireturn, 1) := by decide +kernel
abbrev cxX9_areAllOpen (G : Rg) (X : Ct) : Prop := Cx G X cX9_areAllOpen 4 RX9 (some .boolean) 3 67 (Cond.code yX9_areAllOpen cX9_areAllOpen 4 (some .boolean))
def fX9_areAllOpen_b4   : Nat → Int32 → Int32 → Int32 → Mm → Option (Int32 × Mm)
  | 0, _, _, _, _ => none
  | n + 1, v1, v2, v3, M =>
    if (nI 12) ≤ v3 then
    (gd (decide (v2 = nI 0 ∨ v2 = nI 1)) (
    some (v2, M)))
    else
    (if v2 = (nI 0) then
    (fX9_areAllOpen_b4  n v1 (nI 0) (v3 + (nI 1)) M)
    else
    (if ((jshr v1 v3) &&& (nI 1)) = (nI 0) then
    (fX9_areAllOpen_b4  n v1 (nI 1) (v3 + (nI 1)) M)
    else
    (bd (fX9_isOpen v3 M) fun r5 M5 =>
    if r5 = (nI 0) then
    (fX9_areAllOpen_b4  n v1 (nI 0) (v3 + (nI 1)) M5)
    else
    (fX9_areAllOpen_b4  n v1 (nI 1) (v3 + (nI 1)) M5))))
set_option maxHeartbeats 4000000 in
set_option maxRecDepth 100000 in
theorem vX9_areAllOpen_b4 {G : Rg} {X : Ct} {r : Int32} {Mf : Mm}   (C : cxX9_areAllOpen G X) (hG : gS G = shM)   : ∀ (n : Nat) (v1 : Int32) (v2 : Int32) (v3 : Int32) (M : Mm), fX9_areAllOpen_b4 n v1 v2 v3 M = some (r, Mf) → V G X 4 (some (.int r)) Mf 4 [(0, .ref (gA G 0)), (1, .int v1), (2, .int v2), (3, .int v3)] [] M := by
  intro n
  induction n with
  | zero => intro v1 v2 v3 M hf; rw [fX9_areAllOpen_b4] at hf; cases hf
  | succ n ih =>
    intro v1 v2 v3 M hf
    rw [fX9_areAllOpen_b4] at hf
    refine V.iload_n (pc := 4) C 3 rfl dX9_areAllOpen_4 ?_
    refine V.bipush (pc := 5) C (nI 12) (by decide) dX9_areAllOpen_5 ?_
    rcases it_some hf with ⟨h1, hf⟩ | ⟨h1, hf⟩
    · refine V.ic_geT (pc := 7) C 42 h1 (by decide) dX9_areAllOpen_7 ?_
      refine V.iload_n (pc := 42) C 2 rfl dX9_areAllOpen_42 ?_
      obtain ⟨g2, hf⟩ := gd_some hf
      exact V.retZ (pc := 43) C (dec_some g2) hf dX9_areAllOpen_43
    · refine V.ic_geF (pc := 7) C 42 h1 (by decide) dX9_areAllOpen_7 ?_
      refine V.iload_n (pc := 10) C 2 rfl dX9_areAllOpen_10 ?_
      rcases it_some hf with ⟨h3, hf⟩ | ⟨h3, hf⟩
      · refine V.if_eqT (pc := 11) C 34 h3 (by decide) dX9_areAllOpen_11 ?_
        refine V.iconst (pc := 34) C (nI 0) (by decide) dX9_areAllOpen_34 ?_
        refine V.istore_n (pc := 35) (lv' := [(2, .int (nI 0)), (0, .ref (gA G 0)), (1, .int v1), (3, .int v3)]) C (by decide) rfl dX9_areAllOpen_35 ?_
        refine V.iinc (pc := 36) (lv' := [(3, .int (v3 + (nI 1))), (2, .int (nI 0)), (0, .ref (gA G 0)), (1, .int v1)]) C (v3 + (nI 1)) 3 rfl rfl (by decide) rfl dX9_areAllOpen_36 ?_
        refine V.goto (pc := 39) C 4 (by decide) dX9_areAllOpen_39 ?_
        refine V.sub C [2, 3, 1, 0] (lv' := [(0, .ref (gA G 0)), (1, .int v1), (2, .int (nI 0)), (3, .int (v3 + (nI 1)))]) rfl ?_
        exact ih _ _ _ _ hf
      · refine V.if_eqF (pc := 11) C 34 h3 (by decide) dX9_areAllOpen_11 ?_
        refine V.iload_n (pc := 14) C 1 rfl dX9_areAllOpen_14 ?_
        refine V.iload_n (pc := 15) C 3 rfl dX9_areAllOpen_15 ?_
        refine V.ishr (pc := 16) C dX9_areAllOpen_16 ?_
        refine V.iconst (pc := 17) C (nI 1) (by decide) dX9_areAllOpen_17 ?_
        refine V.iand (pc := 18) C dX9_areAllOpen_18 ?_
        rcases it_some hf with ⟨h4, hf⟩ | ⟨h4, hf⟩
        · refine V.if_eqT (pc := 19) C 30 h4 (by decide) dX9_areAllOpen_19 ?_
          refine V.iconst (pc := 30) C (nI 1) (by decide) dX9_areAllOpen_30 ?_
          refine V.goto (pc := 31) C 35 (by decide) dX9_areAllOpen_31 ?_
          refine V.istore_n (pc := 35) (lv' := [(2, .int (nI 1)), (0, .ref (gA G 0)), (1, .int v1), (3, .int v3)]) C (by decide) rfl dX9_areAllOpen_35 ?_
          refine V.iinc (pc := 36) (lv' := [(3, .int (v3 + (nI 1))), (2, .int (nI 1)), (0, .ref (gA G 0)), (1, .int v1)]) C (v3 + (nI 1)) 3 rfl rfl (by decide) rfl dX9_areAllOpen_36 ?_
          refine V.goto (pc := 39) C 4 (by decide) dX9_areAllOpen_39 ?_
          refine V.sub C [2, 3, 1, 0] (lv' := [(0, .ref (gA G 0)), (1, .int v1), (2, .int (nI 1)), (3, .int (v3 + (nI 1)))]) rfl ?_
          exact ih _ _ _ _ hf
        · refine V.if_eqF (pc := 19) C 30 h4 (by decide) dX9_areAllOpen_19 ?_
          refine V.aload_n (pc := 22) C 0 rfl dX9_areAllOpen_22 ?_
          refine V.iload_n (pc := 23) C 3 rfl dX9_areAllOpen_23 ?_
          obtain ⟨r5, M5, h5, hf⟩ := bd_some hf
          refine V.callVi (pc := 24) (As := [.int v3]) (rest := []) C (mX9_isOpen X.2.1 hG  h5) mf_X9_isOpen clX9 (sm_0 hG) wM_X9_134 rfl rfl ⟨by decide, by decide⟩ (Nat.le_of_ble_eq_true rfl) dX9_areAllOpen_24 ?_
          rcases it_some hf with ⟨h6, hf⟩ | ⟨h6, hf⟩
          · refine V.if_eqT (pc := 27) C 34 h6 (by decide) dX9_areAllOpen_27 ?_
            refine V.iconst (pc := 34) C (nI 0) (by decide) dX9_areAllOpen_34 ?_
            refine V.istore_n (pc := 35) (lv' := [(2, .int (nI 0)), (0, .ref (gA G 0)), (1, .int v1), (3, .int v3)]) C (by decide) rfl dX9_areAllOpen_35 ?_
            refine V.iinc (pc := 36) (lv' := [(3, .int (v3 + (nI 1))), (2, .int (nI 0)), (0, .ref (gA G 0)), (1, .int v1)]) C (v3 + (nI 1)) 3 rfl rfl (by decide) rfl dX9_areAllOpen_36 ?_
            refine V.goto (pc := 39) C 4 (by decide) dX9_areAllOpen_39 ?_
            refine V.sub C [2, 3, 1, 0] (lv' := [(0, .ref (gA G 0)), (1, .int v1), (2, .int (nI 0)), (3, .int (v3 + (nI 1)))]) rfl ?_
            exact ih _ _ _ _ hf
          · refine V.if_eqF (pc := 27) C 34 h6 (by decide) dX9_areAllOpen_27 ?_
            refine V.iconst (pc := 30) C (nI 1) (by decide) dX9_areAllOpen_30 ?_
            refine V.goto (pc := 31) C 35 (by decide) dX9_areAllOpen_31 ?_
            refine V.istore_n (pc := 35) (lv' := [(2, .int (nI 1)), (0, .ref (gA G 0)), (1, .int v1), (3, .int v3)]) C (by decide) rfl dX9_areAllOpen_35 ?_
            refine V.iinc (pc := 36) (lv' := [(3, .int (v3 + (nI 1))), (2, .int (nI 1)), (0, .ref (gA G 0)), (1, .int v1)]) C (v3 + (nI 1)) 3 rfl rfl (by decide) rfl dX9_areAllOpen_36 ?_
            refine V.goto (pc := 39) C 4 (by decide) dX9_areAllOpen_39 ?_
            refine V.sub C [2, 3, 1, 0] (lv' := [(0, .ref (gA G 0)), (1, .int v1), (2, .int (nI 1)), (3, .int (v3 + (nI 1)))]) rfl ?_
            exact ih _ _ _ _ hf
def fX9_areAllOpen (x1 : Int32) (M : Mm) : Option (Int32 × Mm) :=
fX9_areAllOpen_b4 fu x1 (nI 1) (nI 0) M
set_option maxHeartbeats 4000000 in
set_option maxRecDepth 100000 in
theorem mX9_areAllOpen (l : Launch) {G : Rg} (hG : gS G = shM) {x1 : Int32}  {M Mf : Mm} {r : Int32} (hf : fX9_areAllOpen x1 M = some (r, Mf)) : Mt l G yX9_areAllOpen cX9_areAllOpen 4 (some .boolean) 3 67 [.ref (gA G 0), .int x1] M (some (.int r)) Mf := by
  refine Mt.of (by decide) (Nat.le_of_ble_eq_true rfl) ?_
  intro X C hX
  subst hX
  have C : cxX9_areAllOpen G X := C
  show V G X 4 (some (.int r)) Mf 0 [(0, .ref (gA G 0)), (1, .int x1)] [] M
  rw [fX9_areAllOpen] at hf
  refine V.iconst (pc := 0) C (nI 1) (by decide) dX9_areAllOpen_0 ?_
  refine V.istore_n (pc := 1) (lv' := [(2, .int (nI 1)), (0, .ref (gA G 0)), (1, .int x1)]) C (by decide) rfl dX9_areAllOpen_1 ?_
  refine V.iconst (pc := 2) C (nI 0) (by decide) dX9_areAllOpen_2 ?_
  refine V.istore_n (pc := 3) (lv' := [(3, .int (nI 0)), (2, .int (nI 1)), (0, .ref (gA G 0)), (1, .int x1)]) C (by decide) rfl dX9_areAllOpen_3 ?_
  refine V.sub C [2, 3, 1, 0] (lv' := [(0, .ref (gA G 0)), (1, .int x1), (2, .int (nI 1)), (3, .int (nI 0))]) rfl ?_
  exact vX9_areAllOpen_b4 C hG   fu _ _ _ _ hf
theorem dX9_rateOf_0 : decode cX9_rateOf 0 = .ok (.aload_n 0, 1) := by decide +kernel
theorem dX9_rateOf_1 : decode cX9_rateOf 1 = .ok (.getfield 16, 3) := by decide +kernel
theorem dX9_rateOf_4 : decode cX9_rateOf 4 = .ok (.aload_n 0, 1) := by decide +kernel
theorem dX9_rateOf_5 : decode cX9_rateOf 5 = .ok (.getfield 7, 3) := by decide +kernel
theorem dX9_rateOf_8 : decode cX9_rateOf 8 = .ok (.iload_n 1, 1) := by decide +kernel
theorem dX9_rateOf_9 : decode cX9_rateOf 9 = .ok (.iaload, 1) := by decide +kernel
theorem dX9_rateOf_10 : decode cX9_rateOf 10 = .ok (.iaload, 1) := by decide +kernel
theorem dX9_rateOf_11 : decode cX9_rateOf 11 = .ok (.ireturn, 1) := by decide +kernel
abbrev cxX9_rateOf (G : Rg) (X : Ct) : Prop := Cx G X cX9_rateOf 2 RX9 (some .int) 0 0 (Cond.code yX9_rateOf cX9_rateOf 2 (some .int))
def fX9_rateOf (x1 : Int32) (M : Mm) : Option (Int32 × Mm) :=
gd (inb x1 12) (
gd (inb (M.1 1 x1.toNatClampNeg) 6) (
some ((M.1 3 (M.1 1 x1.toNatClampNeg).toNatClampNeg), M)))
set_option maxHeartbeats 4000000 in
set_option maxRecDepth 100000 in
theorem mX9_rateOf (l : Launch) {G : Rg} (hG : gS G = shM) {x1 : Int32}  {M Mf : Mm} {r : Int32} (hf : fX9_rateOf x1 M = some (r, Mf)) : Mt l G yX9_rateOf cX9_rateOf 2 (some .int) 0 0 [.ref (gA G 0), .int x1] M (some (.int r)) Mf := by
  refine Mt.of (by decide) (Nat.le_of_ble_eq_true rfl) ?_
  intro X C hX
  subst hX
  have C : cxX9_rateOf G X := C
  show V G X 2 (some (.int r)) Mf 0 [(0, .ref (gA G 0)), (1, .int x1)] [] M
  rw [fX9_rateOf] at hf
  refine V.aload_n (pc := 0) C 0 rfl dX9_rateOf_0 ?_
  refine V.getR (pc := 1) C clX9 inX9 (sm_0 hG) 4 (by decide) wF_X9_16 rfl dX9_rateOf_1 ?_
  refine V.aload_n (pc := 4) C 0 rfl dX9_rateOf_4 ?_
  refine V.getR (pc := 5) C clX9 inX9 (sm_0 hG) 2 (by decide) wF_X9_7 rfl dX9_rateOf_5 ?_
  refine V.iload_n (pc := 8) C 1 rfl dX9_rateOf_8 ?_
  obtain ⟨g1, hf⟩ := gd_some hf
  refine V.iald (pc := 9) C (sm_1 hG) (inb_in g1) dX9_rateOf_9 ?_
  obtain ⟨g2, hf⟩ := gd_some hf
  refine V.iald (pc := 10) C (sm_3 hG) (inb_in g2) dX9_rateOf_10 ?_
  exact V.retI (pc := 11) C hf dX9_rateOf_11
theorem dX9_worthOf_0 : decode cX9_worthOf 0 = .ok (.iconst 0, 1) := by decide +kernel
theorem dX9_worthOf_1 : decode cX9_worthOf 1 = .ok (.istore_n 2, 1) := by decide +kernel
theorem dX9_worthOf_2 : decode cX9_worthOf 2 = .ok (.iconst 0, 1) := by decide +kernel
theorem dX9_worthOf_3 : decode cX9_worthOf 3 = .ok (.istore_n 3, 1) := by decide +kernel
theorem dX9_worthOf_4 : decode cX9_worthOf 4 = .ok (.iload_n 3, 1) := by decide +kernel
theorem dX9_worthOf_5 : decode cX9_worthOf 5 = .ok (.bipush 12, 2) := by decide +kernel
theorem dX9_worthOf_7 : decode cX9_worthOf 7 = .ok (.if_icmp .ge 49, 3) := by decide +kernel
theorem dX9_worthOf_10 : decode cX9_worthOf 10 = .ok (.iload_n 3, 1) := by decide +kernel
theorem dX9_worthOf_11 : decode cX9_worthOf 11 = .ok (.bipush 6, 2) := by decide +kernel
theorem dX9_worthOf_13 : decode cX9_worthOf 13 = .ok (.if_icmp .ge 11, 3) := by decide +kernel
theorem dX9_worthOf_16 : decode cX9_worthOf 16 = .ok (.aload_n 0, 1) := by decide +kernel
theorem dX9_worthOf_17 : decode cX9_worthOf 17 = .ok (.iload_n 3, 1) := by decide +kernel
theorem dX9_worthOf_18 : decode cX9_worthOf 18 = .ok (.invokevirtual 131, 3) := by decide +kernel
theorem dX9_worthOf_21 : decode cX9_worthOf 21 = .ok (.goto 9, 3) := by decide +kernel
theorem dX9_worthOf_24 : decode cX9_worthOf 24 = .ok (.aload_n 0, 1) := by decide +kernel
theorem dX9_worthOf_25 : decode cX9_worthOf 25 = .ok (.iload_n 3, 1) := by decide +kernel
theorem dX9_worthOf_26 : decode cX9_worthOf 26 = .ok (.invokevirtual 131, 3) := by decide +kernel
theorem dX9_worthOf_29 : decode cX9_worthOf 29 = .ok (.ineg, 1) := by decide +kernel
theorem dX9_worthOf_30 : decode cX9_worthOf 30 = .ok (.istore 4, 2) := by decide +kernel
theorem dX9_worthOf_32 : decode cX9_worthOf 32 = .ok (.iload_n 2, 1) := by decide +kernel
theorem dX9_worthOf_33 : decode cX9_worthOf 33 = .ok (.iload_n 1, 1) := by decide +kernel
theorem dX9_worthOf_34 : decode cX9_worthOf 34 = .ok (.iload_n 3, 1) := by decide +kernel
theorem dX9_worthOf_35 : decode cX9_worthOf 35 = .ok (.ishr, 1) := by decide +kernel
theorem dX9_worthOf_36 : decode cX9_worthOf 36 = .ok (.iconst 1, 1) := by decide +kernel
theorem dX9_worthOf_37 : decode cX9_worthOf 37 = .ok (.iand, 1) := by decide +kernel
theorem dX9_worthOf_38 : decode cX9_worthOf 38 = .ok (.iconst 1, 1) := by decide +kernel
theorem dX9_worthOf_39 : decode cX9_worthOf 39 = .ok (.if_icmp .ne 8, 3) := by decide +kernel
theorem dX9_worthOf_42 : decode cX9_worthOf 42 = .ok (.iload 4, 2) := by decide +kernel
theorem dX9_worthOf_44 : decode cX9_worthOf 44 = .ok (.goto 4, 3) := by decide +kernel
theorem dX9_worthOf_47 : decode cX9_worthOf 47 = .ok (.iconst 0, 1) := by decide +kernel
theorem dX9_worthOf_48 : decode cX9_worthOf 48 = .ok (.iadd, 1) := by decide +kernel
theorem dX9_worthOf_49 : decode cX9_worthOf 49 = .ok (.istore_n 2, 1) := by decide +kernel
theorem dX9_worthOf_50 : decode cX9_worthOf 50 = .ok (.iinc 3 1, 3) := by decide +kernel
theorem dX9_worthOf_53 : decode cX9_worthOf 53 = .ok (.goto (-49), 3) := by decide +kernel
theorem dX9_worthOf_56 : decode cX9_worthOf 56 = .ok (.iload_n 2, 1) := by decide +kernel
theorem dX9_worthOf_57 : decode cX9_worthOf 57 = .ok (.ireturn, 1) := by decide +kernel
abbrev cxX9_worthOf (G : Rg) (X : Ct) : Prop := Cx G X cX9_worthOf 5 RX9 (some .int) 1 21 (Cond.code yX9_worthOf cX9_worthOf 5 (some .int))
def fX9_worthOf_b30 (nx4 : Int32 → Int32 → Int32 → Mm → Option (Int32 × Mm))  (v1 : Int32) (v2 : Int32) (v3 : Int32) (s0 : Int32) (M : Mm) : Option (Int32 × Mm) :=
if ((jshr v1 v3) &&& (nI 1)) = (nI 1) then
(nx4 v1 (v2 + s0) (v3 + (nI 1)) M)
else
(nx4 v1 (v2 + (nI 0)) (v3 + (nI 1)) M)
set_option maxHeartbeats 4000000 in
set_option maxRecDepth 100000 in
theorem vX9_worthOf_b30 {G : Rg} {X : Ct} {r : Int32} {Mf : Mm}  {nx4 : Int32 → Int32 → Int32 → Mm → Option (Int32 × Mm)} (C : cxX9_worthOf G X) (hG : gS G = shM)  (hx4 : ∀ (v1 : Int32) (v2 : Int32) (v3 : Int32) (M : Mm), nx4 v1 v2 v3 M = some (r, Mf) → V G X 5 (some (.int r)) Mf 4 [(0, .ref (gA G 0)), (1, .int v1), (2, .int v2), (3, .int v3)] [] M) (v1 : Int32) (v2 : Int32) (v3 : Int32) (s0 : Int32) (M : Mm) (hf : fX9_worthOf_b30 nx4 v1 v2 v3 s0 M = some (r, Mf)) : V G X 5 (some (.int r)) Mf 30 [(0, .ref (gA G 0)), (1, .int v1), (2, .int v2), (3, .int v3)] [.int s0] M := by
  rw [fX9_worthOf_b30] at hf
  refine V.istore (pc := 30) (lv' := [(4, .int s0), (0, .ref (gA G 0)), (1, .int v1), (2, .int v2), (3, .int v3)]) C (by decide) rfl dX9_worthOf_30 ?_
  refine V.iload_n (pc := 32) C 3 rfl dX9_worthOf_32 ?_
  refine V.iload_n (pc := 33) C 2 rfl dX9_worthOf_33 ?_
  refine V.iload_n (pc := 34) C 4 rfl dX9_worthOf_34 ?_
  refine V.ishr (pc := 35) C dX9_worthOf_35 ?_
  refine V.iconst (pc := 36) C (nI 1) (by decide) dX9_worthOf_36 ?_
  refine V.iand (pc := 37) C dX9_worthOf_37 ?_
  refine V.iconst (pc := 38) C (nI 1) (by decide) dX9_worthOf_38 ?_
  rcases it_some hf with ⟨h1, hf⟩ | ⟨h1, hf⟩
  · refine V.ic_neF (pc := 39) C 47 h1 (by decide) dX9_worthOf_39 ?_
    refine V.iload (pc := 42) C 0 rfl dX9_worthOf_42 ?_
    refine V.goto (pc := 44) C 48 (by decide) dX9_worthOf_44 ?_
    refine V.iadd (pc := 48) C dX9_worthOf_48 ?_
    refine V.istore_n (pc := 49) (lv' := [(2, .int (v2 + s0)), (4, .int s0), (0, .ref (gA G 0)), (1, .int v1), (3, .int v3)]) C (by decide) rfl dX9_worthOf_49 ?_
    refine V.iinc (pc := 50) (lv' := [(3, .int (v3 + (nI 1))), (2, .int (v2 + s0)), (4, .int s0), (0, .ref (gA G 0)), (1, .int v1)]) C (v3 + (nI 1)) 4 rfl rfl (by decide) rfl dX9_worthOf_50 ?_
    refine V.goto (pc := 53) C 4 (by decide) dX9_worthOf_53 ?_
    refine V.sub C [3, 4, 1, 0] (lv' := [(0, .ref (gA G 0)), (1, .int v1), (2, .int (v2 + s0)), (3, .int (v3 + (nI 1)))]) rfl ?_
    exact hx4 _ _ _ _ hf
  · refine V.ic_neT (pc := 39) C 47 h1 (by decide) dX9_worthOf_39 ?_
    refine V.iconst (pc := 47) C (nI 0) (by decide) dX9_worthOf_47 ?_
    refine V.iadd (pc := 48) C dX9_worthOf_48 ?_
    refine V.istore_n (pc := 49) (lv' := [(2, .int (v2 + (nI 0))), (4, .int s0), (0, .ref (gA G 0)), (1, .int v1), (3, .int v3)]) C (by decide) rfl dX9_worthOf_49 ?_
    refine V.iinc (pc := 50) (lv' := [(3, .int (v3 + (nI 1))), (2, .int (v2 + (nI 0))), (4, .int s0), (0, .ref (gA G 0)), (1, .int v1)]) C (v3 + (nI 1)) 4 rfl rfl (by decide) rfl dX9_worthOf_50 ?_
    refine V.goto (pc := 53) C 4 (by decide) dX9_worthOf_53 ?_
    refine V.sub C [3, 4, 1, 0] (lv' := [(0, .ref (gA G 0)), (1, .int v1), (2, .int (v2 + (nI 0))), (3, .int (v3 + (nI 1)))]) rfl ?_
    exact hx4 _ _ _ _ hf
def fX9_worthOf_b4   : Nat → Int32 → Int32 → Int32 → Mm → Option (Int32 × Mm)
  | 0, _, _, _, _ => none
  | n + 1, v1, v2, v3, M =>
    if (nI 12) ≤ v3 then
    (some (v2, M))
    else
    (if (nI 6) ≤ v3 then
    (bd (fX9_rateOf v3 M) fun r3 M3 =>
    fX9_worthOf_b30 (fX9_worthOf_b4  n) v1 v2 v3 (-r3) M3)
    else
    (bd (fX9_rateOf v3 M) fun r4 M4 =>
    fX9_worthOf_b30 (fX9_worthOf_b4  n) v1 v2 v3 r4 M4))
set_option maxHeartbeats 4000000 in
set_option maxRecDepth 100000 in
theorem vX9_worthOf_b4 {G : Rg} {X : Ct} {r : Int32} {Mf : Mm}   (C : cxX9_worthOf G X) (hG : gS G = shM)   : ∀ (n : Nat) (v1 : Int32) (v2 : Int32) (v3 : Int32) (M : Mm), fX9_worthOf_b4 n v1 v2 v3 M = some (r, Mf) → V G X 5 (some (.int r)) Mf 4 [(0, .ref (gA G 0)), (1, .int v1), (2, .int v2), (3, .int v3)] [] M := by
  intro n
  induction n with
  | zero => intro v1 v2 v3 M hf; rw [fX9_worthOf_b4] at hf; cases hf
  | succ n ih =>
    intro v1 v2 v3 M hf
    rw [fX9_worthOf_b4] at hf
    refine V.iload_n (pc := 4) C 3 rfl dX9_worthOf_4 ?_
    refine V.bipush (pc := 5) C (nI 12) (by decide) dX9_worthOf_5 ?_
    rcases it_some hf with ⟨h1, hf⟩ | ⟨h1, hf⟩
    · refine V.ic_geT (pc := 7) C 56 h1 (by decide) dX9_worthOf_7 ?_
      refine V.iload_n (pc := 56) C 2 rfl dX9_worthOf_56 ?_
      exact V.retI (pc := 57) C hf dX9_worthOf_57
    · refine V.ic_geF (pc := 7) C 56 h1 (by decide) dX9_worthOf_7 ?_
      refine V.iload_n (pc := 10) C 3 rfl dX9_worthOf_10 ?_
      refine V.bipush (pc := 11) C (nI 6) (by decide) dX9_worthOf_11 ?_
      rcases it_some hf with ⟨h2, hf⟩ | ⟨h2, hf⟩
      · refine V.ic_geT (pc := 13) C 24 h2 (by decide) dX9_worthOf_13 ?_
        refine V.aload_n (pc := 24) C 0 rfl dX9_worthOf_24 ?_
        refine V.iload_n (pc := 25) C 3 rfl dX9_worthOf_25 ?_
        obtain ⟨r3, M3, h3, hf⟩ := bd_some hf
        refine V.callVi (pc := 26) (As := [.int v3]) (rest := []) C (mX9_rateOf X.2.1 hG  h3) mf_X9_rateOf clX9 (sm_0 hG) wM_X9_131 rfl rfl ⟨by decide, by decide⟩ (Nat.le_of_ble_eq_true rfl) dX9_worthOf_26 ?_
        refine V.ineg (pc := 29) C dX9_worthOf_29 ?_
        exact vX9_worthOf_b30 C hG  ih  _ _ _ _ _ hf
      · refine V.ic_geF (pc := 13) C 24 h2 (by decide) dX9_worthOf_13 ?_
        refine V.aload_n (pc := 16) C 0 rfl dX9_worthOf_16 ?_
        refine V.iload_n (pc := 17) C 3 rfl dX9_worthOf_17 ?_
        obtain ⟨r4, M4, h4, hf⟩ := bd_some hf
        refine V.callVi (pc := 18) (As := [.int v3]) (rest := []) C (mX9_rateOf X.2.1 hG  h4) mf_X9_rateOf clX9 (sm_0 hG) wM_X9_131 rfl rfl ⟨by decide, by decide⟩ (Nat.le_of_ble_eq_true rfl) dX9_worthOf_18 ?_
        refine V.goto (pc := 21) C 30 (by decide) dX9_worthOf_21 ?_
        exact vX9_worthOf_b30 C hG  ih  _ _ _ _ _ hf
def fX9_worthOf (x1 : Int32) (M : Mm) : Option (Int32 × Mm) :=
fX9_worthOf_b4 fu x1 (nI 0) (nI 0) M
set_option maxHeartbeats 4000000 in
set_option maxRecDepth 100000 in
theorem mX9_worthOf (l : Launch) {G : Rg} (hG : gS G = shM) {x1 : Int32}  {M Mf : Mm} {r : Int32} (hf : fX9_worthOf x1 M = some (r, Mf)) : Mt l G yX9_worthOf cX9_worthOf 5 (some .int) 1 21 [.ref (gA G 0), .int x1] M (some (.int r)) Mf := by
  refine Mt.of (by decide) (Nat.le_of_ble_eq_true rfl) ?_
  intro X C hX
  subst hX
  have C : cxX9_worthOf G X := C
  show V G X 5 (some (.int r)) Mf 0 [(0, .ref (gA G 0)), (1, .int x1)] [] M
  rw [fX9_worthOf] at hf
  refine V.iconst (pc := 0) C (nI 0) (by decide) dX9_worthOf_0 ?_
  refine V.istore_n (pc := 1) (lv' := [(2, .int (nI 0)), (0, .ref (gA G 0)), (1, .int x1)]) C (by decide) rfl dX9_worthOf_1 ?_
  refine V.iconst (pc := 2) C (nI 0) (by decide) dX9_worthOf_2 ?_
  refine V.istore_n (pc := 3) (lv' := [(3, .int (nI 0)), (2, .int (nI 0)), (0, .ref (gA G 0)), (1, .int x1)]) C (by decide) rfl dX9_worthOf_3 ?_
  refine V.sub C [2, 3, 1, 0] (lv' := [(0, .ref (gA G 0)), (1, .int x1), (2, .int (nI 0)), (3, .int (nI 0))]) rfl ?_
  exact vX9_worthOf_b4 C hG   fu _ _ _ _ hf
theorem dX9_only_0 : decode cX9_only 0 = .ok (.iconst 0, 1) := by decide +kernel
theorem dX9_only_1 : decode cX9_only 1 = .ok (.istore_n 1, 1) := by decide +kernel
theorem dX9_only_2 : decode cX9_only 2 = .ok (.iload_n 0, 1) := by decide +kernel
theorem dX9_only_3 : decode cX9_only 3 = .ok (.iload_n 1, 1) := by decide +kernel
theorem dX9_only_4 : decode cX9_only 4 = .ok (.ishr, 1) := by decide +kernel
theorem dX9_only_5 : decode cX9_only 5 = .ok (.iconst 1, 1) := by decide +kernel
theorem dX9_only_6 : decode cX9_only 6 = .ok (.iand, 1) := by decide +kernel
theorem dX9_only_7 : decode cX9_only 7 = .ok (.ifCond .ne 9, 3) := by decide +kernel
theorem dX9_only_10 : decode cX9_only 10 = .ok (.iinc 1 1, 3) := by decide +kernel
theorem dX9_only_13 : decode cX9_only 13 = .ok (.goto (-11), 3) := by decide +kernel
theorem dX9_only_16 : decode cX9_only 16 = .ok (.iload_n 1, 1) := by decide +kernel
theorem dX9_only_17 : decode cX9_only 17 = .ok (.ireturn, 1) := by decide +kernel
abbrev cxX9_only (G : Rg) (X : Ct) : Prop := Cx G X cX9_only 2 RX9 (some .int) 0 0 (Cond.code yX9_only cX9_only 2 (some .int))
def fX9_only_b2   : Nat → Int32 → Int32 → Mm → Option (Int32 × Mm)
  | 0, _, _, _ => none
  | n + 1, v0, v1, M =>
    if ((jshr v0 v1) &&& (nI 1)) = (nI 0) then
    (fX9_only_b2  n v0 (v1 + (nI 1)) M)
    else
    (some (v1, M))
set_option maxHeartbeats 4000000 in
set_option maxRecDepth 100000 in
theorem vX9_only_b2 {G : Rg} {X : Ct} {r : Int32} {Mf : Mm}   (C : cxX9_only G X) (hG : gS G = shM)   : ∀ (n : Nat) (v0 : Int32) (v1 : Int32) (M : Mm), fX9_only_b2 n v0 v1 M = some (r, Mf) → V G X 2 (some (.int r)) Mf 2 [(0, .int v0), (1, .int v1)] [] M := by
  intro n
  induction n with
  | zero => intro v0 v1 M hf; rw [fX9_only_b2] at hf; cases hf
  | succ n ih =>
    intro v0 v1 M hf
    rw [fX9_only_b2] at hf
    refine V.iload_n (pc := 2) C 0 rfl dX9_only_2 ?_
    refine V.iload_n (pc := 3) C 1 rfl dX9_only_3 ?_
    refine V.ishr (pc := 4) C dX9_only_4 ?_
    refine V.iconst (pc := 5) C (nI 1) (by decide) dX9_only_5 ?_
    refine V.iand (pc := 6) C dX9_only_6 ?_
    rcases it_some hf with ⟨h1, hf⟩ | ⟨h1, hf⟩
    · refine V.if_neF (pc := 7) C 16 h1 (by decide) dX9_only_7 ?_
      refine V.iinc (pc := 10) (lv' := [(1, .int (v1 + (nI 1))), (0, .int v0)]) C (v1 + (nI 1)) 1 rfl rfl (by decide) rfl dX9_only_10 ?_
      refine V.goto (pc := 13) C 2 (by decide) dX9_only_13 ?_
      refine V.sub C [1, 0] (lv' := [(0, .int v0), (1, .int (v1 + (nI 1)))]) rfl ?_
      exact ih _ _ _ hf
    · refine V.if_neT (pc := 7) C 16 h1 (by decide) dX9_only_7 ?_
      refine V.iload_n (pc := 16) C 1 rfl dX9_only_16 ?_
      exact V.retI (pc := 17) C hf dX9_only_17
def fX9_only (x0 : Int32) (M : Mm) : Option (Int32 × Mm) :=
fX9_only_b2 fu x0 (nI 0) M
set_option maxHeartbeats 4000000 in
set_option maxRecDepth 100000 in
theorem mX9_only (l : Launch) {G : Rg} (hG : gS G = shM) {x0 : Int32}  {M Mf : Mm} {r : Int32} (hf : fX9_only x0 M = some (r, Mf)) : Mt l G yX9_only cX9_only 2 (some .int) 0 0 [.int x0] M (some (.int r)) Mf := by
  refine Mt.of (by decide) (Nat.le_of_ble_eq_true rfl) ?_
  intro X C hX
  subst hX
  have C : cxX9_only G X := C
  show V G X 2 (some (.int r)) Mf 0 [(0, .int x0)] [] M
  rw [fX9_only] at hf
  refine V.iconst (pc := 0) C (nI 0) (by decide) dX9_only_0 ?_
  refine V.istore_n (pc := 1) (lv' := [(1, .int (nI 0)), (0, .int x0)]) C (by decide) rfl dX9_only_1 ?_
  refine V.sub C [1, 0] (lv' := [(0, .int x0), (1, .int (nI 0))]) rfl ?_
  exact vX9_only_b2 C hG   fu _ _ _ hf
theorem dX9_isOut_0 : decode cX9_isOut 0 = .ok (.aload_n 0, 1) := by decide +kernel
theorem dX9_isOut_1 : decode cX9_isOut 1 = .ok (.iload_n 1, 1) := by decide +kernel
theorem dX9_isOut_2 : decode cX9_isOut 2 = .ok (.invokevirtual 86, 3) := by decide +kernel
theorem dX9_isOut_5 : decode cX9_isOut 5 = .ok (.ifCond .eq 27, 3) := by decide +kernel
theorem dX9_isOut_8 : decode cX9_isOut 8 = .ok (.aload_n 0, 1) := by decide +kernel
theorem dX9_isOut_9 : decode cX9_isOut 9 = .ok (.getfield 13, 3) := by decide +kernel
theorem dX9_isOut_12 : decode cX9_isOut 12 = .ok (.iload_n 1, 1) := by decide +kernel
theorem dX9_isOut_13 : decode cX9_isOut 13 = .ok (.iaload, 1) := by decide +kernel
theorem dX9_isOut_14 : decode cX9_isOut 14 = .ok (.iconst 1, 1) := by decide +kernel
theorem dX9_isOut_15 : decode cX9_isOut 15 = .ok (.if_icmp .eq 13, 3) := by decide +kernel
theorem dX9_isOut_18 : decode cX9_isOut 18 = .ok (.aload_n 0, 1) := by decide +kernel
theorem dX9_isOut_19 : decode cX9_isOut 19 = .ok (.getfield 13, 3) := by decide +kernel
theorem dX9_isOut_22 : decode cX9_isOut 22 = .ok (.iload_n 1, 1) := by decide +kernel
theorem dX9_isOut_23 : decode cX9_isOut 23 = .ok (.iaload, 1) := by decide +kernel
theorem dX9_isOut_24 : decode cX9_isOut 24 = .ok (.iconst 2, 1) := by decide +kernel
theorem dX9_isOut_25 : decode cX9_isOut 25 = .ok (.if_icmp .ne 7, 3) := by decide +kernel
theorem dX9_isOut_28 : decode cX9_isOut 28 = .ok (.iconst 1, 1) := by decide +kernel
theorem dX9_isOut_29 : decode cX9_isOut 29 = .ok (.goto 4, 3) := by decide +kernel
theorem dX9_isOut_32 : decode cX9_isOut 32 = .ok (.iconst 0, 1) := by decide +kernel
theorem dX9_isOut_33 : decode cX9_isOut 33 = .ok (.ireturn, 1) := by decide +kernel
abbrev cxX9_isOut (G : Rg) (X : Ct) : Prop := Cx G X cX9_isOut 2 RX9 (some .boolean) 2 46 (Cond.code yX9_isOut cX9_isOut 2 (some .boolean))
def fX9_isOut (x1 : Int32) (M : Mm) : Option (Int32 × Mm) :=
bd (fX9_isOfficer x1 M) fun r1 M1 =>
if r1 = (nI 0) then
(some ((nI 0), M1))
else
(gd (inb x1 12) (
if (M1.1 2 x1.toNatClampNeg) = (nI 1) then
(some ((nI 1), M1))
else
(gd (inb x1 12) (
if (M1.1 2 x1.toNatClampNeg) = (nI 2) then
(some ((nI 1), M1))
else
(some ((nI 0), M1))))))
set_option maxHeartbeats 4000000 in
set_option maxRecDepth 100000 in
theorem mX9_isOut (l : Launch) {G : Rg} (hG : gS G = shM) {x1 : Int32}  {M Mf : Mm} {r : Int32} (hf : fX9_isOut x1 M = some (r, Mf)) : Mt l G yX9_isOut cX9_isOut 2 (some .boolean) 2 46 [.ref (gA G 0), .int x1] M (some (.int r)) Mf := by
  refine Mt.of (by decide) (Nat.le_of_ble_eq_true rfl) ?_
  intro X C hX
  subst hX
  have C : cxX9_isOut G X := C
  show V G X 2 (some (.int r)) Mf 0 [(0, .ref (gA G 0)), (1, .int x1)] [] M
  rw [fX9_isOut] at hf
  refine V.aload_n (pc := 0) C 0 rfl dX9_isOut_0 ?_
  refine V.iload_n (pc := 1) C 1 rfl dX9_isOut_1 ?_
  obtain ⟨r1, M1, h1, hf⟩ := bd_some hf
  refine V.callVi (pc := 2) (As := [.int x1]) (rest := []) C (mX9_isOfficer X.2.1 hG  h1) mf_X9_isOfficer clX9 (sm_0 hG) wM_X9_86 rfl rfl ⟨by decide, by decide⟩ (Nat.le_of_ble_eq_true rfl) dX9_isOut_2 ?_
  rcases it_some hf with ⟨h2, hf⟩ | ⟨h2, hf⟩
  · refine V.if_eqT (pc := 5) C 32 h2 (by decide) dX9_isOut_5 ?_
    refine V.iconst (pc := 32) C (nI 0) (by decide) dX9_isOut_32 ?_
    exact V.retZ (pc := 33) C (Or.inl rfl) hf dX9_isOut_33
  · refine V.if_eqF (pc := 5) C 32 h2 (by decide) dX9_isOut_5 ?_
    refine V.aload_n (pc := 8) C 0 rfl dX9_isOut_8 ?_
    refine V.getR (pc := 9) C clX9 inX9 (sm_0 hG) 3 (by decide) wF_X9_13 rfl dX9_isOut_9 ?_
    refine V.iload_n (pc := 12) C 1 rfl dX9_isOut_12 ?_
    obtain ⟨g3, hf⟩ := gd_some hf
    refine V.iald (pc := 13) C (sm_2 hG) (inb_in g3) dX9_isOut_13 ?_
    refine V.iconst (pc := 14) C (nI 1) (by decide) dX9_isOut_14 ?_
    rcases it_some hf with ⟨h4, hf⟩ | ⟨h4, hf⟩
    · refine V.ic_eqT (pc := 15) C 28 h4 (by decide) dX9_isOut_15 ?_
      refine V.iconst (pc := 28) C (nI 1) (by decide) dX9_isOut_28 ?_
      refine V.goto (pc := 29) C 33 (by decide) dX9_isOut_29 ?_
      exact V.retZ (pc := 33) C (Or.inr rfl) hf dX9_isOut_33
    · refine V.ic_eqF (pc := 15) C 28 h4 (by decide) dX9_isOut_15 ?_
      refine V.aload_n (pc := 18) C 0 rfl dX9_isOut_18 ?_
      refine V.getR (pc := 19) C clX9 inX9 (sm_0 hG) 3 (by decide) wF_X9_13 rfl dX9_isOut_19 ?_
      refine V.iload_n (pc := 22) C 1 rfl dX9_isOut_22 ?_
      obtain ⟨g5, hf⟩ := gd_some hf
      refine V.iald (pc := 23) C (sm_2 hG) (inb_in g5) dX9_isOut_23 ?_
      refine V.iconst (pc := 24) C (nI 2) (by decide) dX9_isOut_24 ?_
      rcases it_some hf with ⟨h6, hf⟩ | ⟨h6, hf⟩
      · refine V.ic_neF (pc := 25) C 32 h6 (by decide) dX9_isOut_25 ?_
        refine V.iconst (pc := 28) C (nI 1) (by decide) dX9_isOut_28 ?_
        refine V.goto (pc := 29) C 33 (by decide) dX9_isOut_29 ?_
        exact V.retZ (pc := 33) C (Or.inr rfl) hf dX9_isOut_33
      · refine V.ic_neT (pc := 25) C 32 h6 (by decide) dX9_isOut_25 ?_
        refine V.iconst (pc := 32) C (nI 0) (by decide) dX9_isOut_32 ?_
        exact V.retZ (pc := 33) C (Or.inl rfl) hf dX9_isOut_33
theorem dX9_canDeed_0 : decode cX9_canDeed 0 = .ok (.iload_n 1, 1) := by decide +kernel
theorem dX9_canDeed_1 : decode cX9_canDeed 1 = .ok (.tableswitch 64 0 2 #[27, 42, 58], 27) := by decide +kernel
theorem dX9_canDeed_28 : decode cX9_canDeed 28 = .ok (.aload_n 0, 1) := by decide +kernel
theorem dX9_canDeed_29 : decode cX9_canDeed 29 = .ok (.getfield 13, 3) := by decide +kernel
theorem dX9_canDeed_32 : decode cX9_canDeed 32 = .ok (.iload_n 2, 1) := by decide +kernel
theorem dX9_canDeed_33 : decode cX9_canDeed 33 = .ok (.iaload, 1) := by decide +kernel
theorem dX9_canDeed_34 : decode cX9_canDeed 34 = .ok (.ifCond .ne 7, 3) := by decide +kernel
theorem dX9_canDeed_37 : decode cX9_canDeed 37 = .ok (.iconst 1, 1) := by decide +kernel
theorem dX9_canDeed_38 : decode cX9_canDeed 38 = .ok (.goto 4, 3) := by decide +kernel
theorem dX9_canDeed_41 : decode cX9_canDeed 41 = .ok (.iconst 0, 1) := by decide +kernel
theorem dX9_canDeed_42 : decode cX9_canDeed 42 = .ok (.ireturn, 1) := by decide +kernel
theorem dX9_canDeed_43 : decode cX9_canDeed 43 = .ok (.aload_n 0, 1) := by decide +kernel
theorem dX9_canDeed_44 : decode cX9_canDeed 44 = .ok (.getfield 13, 3) := by decide +kernel
theorem dX9_canDeed_47 : decode cX9_canDeed 47 = .ok (.iload_n 2, 1) := by decide +kernel
theorem dX9_canDeed_48 : decode cX9_canDeed 48 = .ok (.iaload, 1) := by decide +kernel
theorem dX9_canDeed_49 : decode cX9_canDeed 49 = .ok (.iconst 1, 1) := by decide +kernel
theorem dX9_canDeed_50 : decode cX9_canDeed 50 = .ok (.if_icmp .ne 7, 3) := by decide +kernel
theorem dX9_canDeed_53 : decode cX9_canDeed 53 = .ok (.iconst 1, 1) := by decide +kernel
theorem dX9_canDeed_54 : decode cX9_canDeed 54 = .ok (.goto 4, 3) := by decide +kernel
theorem dX9_canDeed_57 : decode cX9_canDeed 57 = .ok (.iconst 0, 1) := by decide +kernel
theorem dX9_canDeed_58 : decode cX9_canDeed 58 = .ok (.ireturn, 1) := by decide +kernel
theorem dX9_canDeed_59 : decode cX9_canDeed 59 = .ok (.aload_n 0, 1) := by decide +kernel
theorem dX9_canDeed_60 : decode cX9_canDeed 60 = .ok (.iload_n 2, 1) := by decide +kernel
theorem dX9_canDeed_61 : decode cX9_canDeed 61 = .ok (.invokevirtual 137, 3) := by decide +kernel
theorem dX9_canDeed_64 : decode cX9_canDeed 64 = .ok (.ireturn, 1) := by decide +kernel
theorem dX9_canDeed_65 : decode cX9_canDeed 65 = .ok (.aload_n 0, 1) := by decide +kernel
theorem dX9_canDeed_66 : decode cX9_canDeed 66 = .ok (.iload_n 2, 1) := by decide +kernel
theorem dX9_canDeed_67 : decode cX9_canDeed 67 = .ok (.invokevirtual 134, 3) := by decide +kernel
theorem dX9_canDeed_70 : decode cX9_canDeed 70 = .ok (.ireturn, 1) := by decide +kernel
abbrev cxX9_canDeed (G : Rg) (X : Ct) : Prop := Cx G X cX9_canDeed 3 RX9 (some .boolean) 3 67 (Cond.code yX9_canDeed cX9_canDeed 3 (some .boolean))
def fX9_canDeed (x1 : Int32) (x2 : Int32) (M : Mm) : Option (Int32 × Mm) :=
if x1 = (nI 0) then
(gd (inb x2 12) (
if (M.1 2 x2.toNatClampNeg) = (nI 0) then
(some ((nI 1), M))
else
(some ((nI 0), M))))
else
if x1 = (nI 1) then
(gd (inb x2 12) (
if (M.1 2 x2.toNatClampNeg) = (nI 1) then
(some ((nI 1), M))
else
(some ((nI 0), M))))
else
if x1 = (nI 2) then
(bd (fX9_isOut x2 M) fun r8 M8 =>
gd (decide (r8 = nI 0 ∨ r8 = nI 1)) (
some (r8, M8)))
else
(bd (fX9_isOpen x2 M) fun r10 M10 =>
gd (decide (r10 = nI 0 ∨ r10 = nI 1)) (
some (r10, M10)))
set_option maxHeartbeats 4000000 in
set_option maxRecDepth 100000 in
theorem mX9_canDeed (l : Launch) {G : Rg} (hG : gS G = shM) {x1 : Int32} {x2 : Int32}  {M Mf : Mm} {r : Int32} (hf : fX9_canDeed x1 x2 M = some (r, Mf)) : Mt l G yX9_canDeed cX9_canDeed 3 (some .boolean) 3 67 [.ref (gA G 0), .int x1, .int x2] M (some (.int r)) Mf := by
  refine Mt.of (by decide) (Nat.le_of_ble_eq_true rfl) ?_
  intro X C hX
  subst hX
  have C : cxX9_canDeed G X := C
  show V G X 3 (some (.int r)) Mf 0 [(0, .ref (gA G 0)), (1, .int x1), (2, .int x2)] [] M
  rw [fX9_canDeed] at hf
  refine V.iload_n (pc := 0) C 1 rfl dX9_canDeed_0 ?_
  rcases it_some hf with ⟨h1, hf⟩ | ⟨h1, hf⟩
  · refine V.tabIn (pc := 1) (off := 27) C (nI 0) 28 h1 (by decide) (by decide) (by decide) (by decide) dX9_canDeed_1 ?_
    refine V.aload_n (pc := 28) C 0 rfl dX9_canDeed_28 ?_
    refine V.getR (pc := 29) C clX9 inX9 (sm_0 hG) 3 (by decide) wF_X9_13 rfl dX9_canDeed_29 ?_
    refine V.iload_n (pc := 32) C 2 rfl dX9_canDeed_32 ?_
    obtain ⟨g2, hf⟩ := gd_some hf
    refine V.iald (pc := 33) C (sm_2 hG) (inb_in g2) dX9_canDeed_33 ?_
    rcases it_some hf with ⟨h3, hf⟩ | ⟨h3, hf⟩
    · refine V.if_neF (pc := 34) C 41 h3 (by decide) dX9_canDeed_34 ?_
      refine V.iconst (pc := 37) C (nI 1) (by decide) dX9_canDeed_37 ?_
      refine V.goto (pc := 38) C 42 (by decide) dX9_canDeed_38 ?_
      exact V.retZ (pc := 42) C (Or.inr rfl) hf dX9_canDeed_42
    · refine V.if_neT (pc := 34) C 41 h3 (by decide) dX9_canDeed_34 ?_
      refine V.iconst (pc := 41) C (nI 0) (by decide) dX9_canDeed_41 ?_
      exact V.retZ (pc := 42) C (Or.inl rfl) hf dX9_canDeed_42
  · skip
    rcases it_some hf with ⟨h4, hf⟩ | ⟨h4, hf⟩
    · refine V.tabIn (pc := 1) (off := 42) C (nI 1) 43 h4 (by decide) (by decide) (by decide) (by decide) dX9_canDeed_1 ?_
      refine V.aload_n (pc := 43) C 0 rfl dX9_canDeed_43 ?_
      refine V.getR (pc := 44) C clX9 inX9 (sm_0 hG) 3 (by decide) wF_X9_13 rfl dX9_canDeed_44 ?_
      refine V.iload_n (pc := 47) C 2 rfl dX9_canDeed_47 ?_
      obtain ⟨g5, hf⟩ := gd_some hf
      refine V.iald (pc := 48) C (sm_2 hG) (inb_in g5) dX9_canDeed_48 ?_
      refine V.iconst (pc := 49) C (nI 1) (by decide) dX9_canDeed_49 ?_
      rcases it_some hf with ⟨h6, hf⟩ | ⟨h6, hf⟩
      · refine V.ic_neF (pc := 50) C 57 h6 (by decide) dX9_canDeed_50 ?_
        refine V.iconst (pc := 53) C (nI 1) (by decide) dX9_canDeed_53 ?_
        refine V.goto (pc := 54) C 58 (by decide) dX9_canDeed_54 ?_
        exact V.retZ (pc := 58) C (Or.inr rfl) hf dX9_canDeed_58
      · refine V.ic_neT (pc := 50) C 57 h6 (by decide) dX9_canDeed_50 ?_
        refine V.iconst (pc := 57) C (nI 0) (by decide) dX9_canDeed_57 ?_
        exact V.retZ (pc := 58) C (Or.inl rfl) hf dX9_canDeed_58
    · skip
      rcases it_some hf with ⟨h7, hf⟩ | ⟨h7, hf⟩
      · refine V.tabIn (pc := 1) (off := 58) C (nI 2) 59 h7 (by decide) (by decide) (by decide) (by decide) dX9_canDeed_1 ?_
        refine V.aload_n (pc := 59) C 0 rfl dX9_canDeed_59 ?_
        refine V.iload_n (pc := 60) C 2 rfl dX9_canDeed_60 ?_
        obtain ⟨r8, M8, h8, hf⟩ := bd_some hf
        refine V.callVi (pc := 61) (As := [.int x2]) (rest := []) C (mX9_isOut X.2.1 hG  h8) mf_X9_isOut clX9 (sm_0 hG) wM_X9_137 rfl rfl ⟨by decide, by decide⟩ (Nat.le_of_ble_eq_true rfl) dX9_canDeed_61 ?_
        obtain ⟨g9, hf⟩ := gd_some hf
        exact V.retZ (pc := 64) C (dec_some g9) hf dX9_canDeed_64
      · skip
        refine V.tabOut (pc := 1) C 65 (sw3 h1 h4 h7) (by decide) dX9_canDeed_1 ?_
        refine V.aload_n (pc := 65) C 0 rfl dX9_canDeed_65 ?_
        refine V.iload_n (pc := 66) C 2 rfl dX9_canDeed_66 ?_
        obtain ⟨r10, M10, h10, hf⟩ := bd_some hf
        refine V.callVi (pc := 67) (As := [.int x2]) (rest := []) C (mX9_isOpen X.2.1 hG  h10) mf_X9_isOpen clX9 (sm_0 hG) wM_X9_134 rfl rfl ⟨by decide, by decide⟩ (Nat.le_of_ble_eq_true rfl) dX9_canDeed_67 ?_
        obtain ⟨g11, hf⟩ := gd_some hf
        exact V.retZ (pc := 70) C (dec_some g11) hf dX9_canDeed_70
theorem dX9_whyNot_0 : decode cX9_whyNot 0 = .ok (.iload_n 2, 1) := by decide +kernel
theorem dX9_whyNot_1 : decode cX9_whyNot 1 = .ok (.aload_n 0, 1) := by decide +kernel
theorem dX9_whyNot_2 : decode cX9_whyNot 2 = .ok (.getfield 73, 3) := by decide +kernel
theorem dX9_whyNot_5 : decode cX9_whyNot 5 = .ok (.iconst (-1), 1) := by decide +kernel
theorem dX9_whyNot_6 : decode cX9_whyNot 6 = .ok (.ixor, 1) := by decide +kernel
theorem dX9_whyNot_7 : decode cX9_whyNot 7 = .ok (.iand, 1) := by decide +kernel
theorem dX9_whyNot_8 : decode cX9_whyNot 8 = .ok (.ifCond .eq 5, 3) := by decide +kernel
theorem dX9_whyNot_11 : decode cX9_whyNot 11 = .ok (.iconst 1, 1) := by decide +kernel
theorem dX9_whyNot_12 : decode cX9_whyNot 12 = .ok (.ireturn, 1) := by decide +kernel
theorem dX9_whyNot_13 : decode cX9_whyNot 13 = .ok (.iload_n 3, 1) := by decide +kernel
theorem dX9_whyNot_14 : decode cX9_whyNot 14 = .ok (.ifCond .eq 5, 3) := by decide +kernel
theorem dX9_whyNot_17 : decode cX9_whyNot 17 = .ok (.iconst 2, 1) := by decide +kernel
theorem dX9_whyNot_18 : decode cX9_whyNot 18 = .ok (.ireturn, 1) := by decide +kernel
theorem dX9_whyNot_19 : decode cX9_whyNot 19 = .ok (.iload_n 1, 1) := by decide +kernel
theorem dX9_whyNot_20 : decode cX9_whyNot 20 = .ok (.iconst 4, 1) := by decide +kernel
theorem dX9_whyNot_21 : decode cX9_whyNot 21 = .ok (.if_icmp .ne 41, 3) := by decide +kernel
theorem dX9_whyNot_24 : decode cX9_whyNot 24 = .ok (.aload_n 0, 1) := by decide +kernel
theorem dX9_whyNot_25 : decode cX9_whyNot 25 = .ok (.iload_n 2, 1) := by decide +kernel
theorem dX9_whyNot_26 : decode cX9_whyNot 26 = .ok (.invokevirtual 140, 3) := by decide +kernel
theorem dX9_whyNot_29 : decode cX9_whyNot 29 = .ok (.ifCond .ne 7, 3) := by decide +kernel
theorem dX9_whyNot_32 : decode cX9_whyNot 32 = .ok (.iconst 3, 1) := by decide +kernel
theorem dX9_whyNot_33 : decode cX9_whyNot 33 = .ok (.goto 28, 3) := by decide +kernel
theorem dX9_whyNot_36 : decode cX9_whyNot 36 = .ok (.aload_n 0, 1) := by decide +kernel
theorem dX9_whyNot_37 : decode cX9_whyNot 37 = .ok (.getfield 63, 3) := by decide +kernel
theorem dX9_whyNot_40 : decode cX9_whyNot 40 = .ok (.ifCond .ne 7, 3) := by decide +kernel
theorem dX9_whyNot_43 : decode cX9_whyNot 43 = .ok (.iconst 5, 1) := by decide +kernel
theorem dX9_whyNot_44 : decode cX9_whyNot 44 = .ok (.goto 17, 3) := by decide +kernel
theorem dX9_whyNot_47 : decode cX9_whyNot 47 = .ok (.aload_n 0, 1) := by decide +kernel
theorem dX9_whyNot_48 : decode cX9_whyNot 48 = .ok (.iload_n 2, 1) := by decide +kernel
theorem dX9_whyNot_49 : decode cX9_whyNot 49 = .ok (.invokevirtual 143, 3) := by decide +kernel
theorem dX9_whyNot_52 : decode cX9_whyNot 52 = .ok (.ifCond .eq 8, 3) := by decide +kernel
theorem dX9_whyNot_55 : decode cX9_whyNot 55 = .ok (.bipush 6, 2) := by decide +kernel
theorem dX9_whyNot_57 : decode cX9_whyNot 57 = .ok (.goto 4, 3) := by decide +kernel
theorem dX9_whyNot_60 : decode cX9_whyNot 60 = .ok (.iconst 0, 1) := by decide +kernel
theorem dX9_whyNot_61 : decode cX9_whyNot 61 = .ok (.ireturn, 1) := by decide +kernel
theorem dX9_whyNot_62 : decode cX9_whyNot 62 = .ok (.iload_n 2, 1) := by decide +kernel
theorem dX9_whyNot_63 : decode cX9_whyNot 63 = .ok (.invokestatic 146, 3) := by decide +kernel
theorem dX9_whyNot_66 : decode cX9_whyNot 66 = .ok (.istore 4, 2) := by decide +kernel
theorem dX9_whyNot_68 : decode cX9_whyNot 68 = .ok (.aload_n 0, 1) := by decide +kernel
theorem dX9_whyNot_69 : decode cX9_whyNot 69 = .ok (.iload_n 1, 1) := by decide +kernel
theorem dX9_whyNot_70 : decode cX9_whyNot 70 = .ok (.iload 4, 2) := by decide +kernel
theorem dX9_whyNot_72 : decode cX9_whyNot 72 = .ok (.invokevirtual 149, 3) := by decide +kernel
theorem dX9_whyNot_75 : decode cX9_whyNot 75 = .ok (.ifCond .ne 5, 3) := by decide +kernel
theorem dX9_whyNot_78 : decode cX9_whyNot 78 = .ok (.iconst 3, 1) := by decide +kernel
theorem dX9_whyNot_79 : decode cX9_whyNot 79 = .ok (.ireturn, 1) := by decide +kernel
theorem dX9_whyNot_80 : decode cX9_whyNot 80 = .ok (.iload_n 1, 1) := by decide +kernel
theorem dX9_whyNot_81 : decode cX9_whyNot 81 = .ok (.iconst 3, 1) := by decide +kernel
theorem dX9_whyNot_82 : decode cX9_whyNot 82 = .ok (.if_icmp .ne 18, 3) := by decide +kernel
theorem dX9_whyNot_85 : decode cX9_whyNot 85 = .ok (.aload_n 0, 1) := by decide +kernel
theorem dX9_whyNot_86 : decode cX9_whyNot 86 = .ok (.getfield 7, 3) := by decide +kernel
theorem dX9_whyNot_89 : decode cX9_whyNot 89 = .ok (.iload 4, 2) := by decide +kernel
theorem dX9_whyNot_91 : decode cX9_whyNot 91 = .ok (.iaload, 1) := by decide +kernel
theorem dX9_whyNot_92 : decode cX9_whyNot 92 = .ok (.iconst 5, 1) := by decide +kernel
theorem dX9_whyNot_93 : decode cX9_whyNot 93 = .ok (.if_icmp .ne 7, 3) := by decide +kernel
theorem dX9_whyNot_96 : decode cX9_whyNot 96 = .ok (.iconst 4, 1) := by decide +kernel
theorem dX9_whyNot_97 : decode cX9_whyNot 97 = .ok (.goto 19, 3) := by decide +kernel
theorem dX9_whyNot_100 : decode cX9_whyNot 100 = .ok (.iload_n 1, 1) := by decide +kernel
theorem dX9_whyNot_101 : decode cX9_whyNot 101 = .ok (.ifCond .ne 14, 3) := by decide +kernel
theorem dX9_whyNot_104 : decode cX9_whyNot 104 = .ok (.aload_n 0, 1) := by decide +kernel
theorem dX9_whyNot_105 : decode cX9_whyNot 105 = .ok (.getfield 63, 3) := by decide +kernel
theorem dX9_whyNot_108 : decode cX9_whyNot 108 = .ok (.ifCond .ne 7, 3) := by decide +kernel
theorem dX9_whyNot_111 : decode cX9_whyNot 111 = .ok (.iconst 5, 1) := by decide +kernel
theorem dX9_whyNot_112 : decode cX9_whyNot 112 = .ok (.goto 4, 3) := by decide +kernel
theorem dX9_whyNot_115 : decode cX9_whyNot 115 = .ok (.iconst 0, 1) := by decide +kernel
theorem dX9_whyNot_116 : decode cX9_whyNot 116 = .ok (.ireturn, 1) := by decide +kernel
abbrev cxX9_whyNot (G : Rg) (X : Ct) : Prop := Cx G X cX9_whyNot 5 RX9 (some .int) 4 90 (Cond.code yX9_whyNot cX9_whyNot 5 (some .int))
def fX9_whyNot_b100   (v1 : Int32) (M : Mm) : Option (Int32 × Mm) :=
if v1 = (nI 0) then
(if (M.1 0 1) = (nI 0) then
(some ((nI 5), M))
else
(some ((nI 0), M)))
else
(some ((nI 0), M))
set_option maxHeartbeats 4000000 in
set_option maxRecDepth 100000 in
theorem vX9_whyNot_b100 {G : Rg} {X : Ct} {r : Int32} {Mf : Mm}   (C : cxX9_whyNot G X) (hG : gS G = shM)   (v1 : Int32) (M : Mm) (hf : fX9_whyNot_b100 v1 M = some (r, Mf)) : V G X 5 (some (.int r)) Mf 100 [(0, .ref (gA G 0)), (1, .int v1)] [] M := by
  rw [fX9_whyNot_b100] at hf
  refine V.iload_n (pc := 100) C 1 rfl dX9_whyNot_100 ?_
  rcases it_some hf with ⟨h1, hf⟩ | ⟨h1, hf⟩
  · refine V.if_neF (pc := 101) C 115 h1 (by decide) dX9_whyNot_101 ?_
    refine V.aload_n (pc := 104) C 0 rfl dX9_whyNot_104 ?_
    refine V.getI (pc := 105) C clX9 inX9 (sm_0 hG) 1 (by decide) wF_X9_63 rfl dX9_whyNot_105 ?_
    rcases it_some hf with ⟨h2, hf⟩ | ⟨h2, hf⟩
    · refine V.if_neF (pc := 108) C 115 h2 (by decide) dX9_whyNot_108 ?_
      refine V.iconst (pc := 111) C (nI 5) (by decide) dX9_whyNot_111 ?_
      refine V.goto (pc := 112) C 116 (by decide) dX9_whyNot_112 ?_
      exact V.retI (pc := 116) C hf dX9_whyNot_116
    · refine V.if_neT (pc := 108) C 115 h2 (by decide) dX9_whyNot_108 ?_
      refine V.iconst (pc := 115) C (nI 0) (by decide) dX9_whyNot_115 ?_
      exact V.retI (pc := 116) C hf dX9_whyNot_116
  · refine V.if_neT (pc := 101) C 115 h1 (by decide) dX9_whyNot_101 ?_
    refine V.iconst (pc := 115) C (nI 0) (by decide) dX9_whyNot_115 ?_
    exact V.retI (pc := 116) C hf dX9_whyNot_116
def fX9_whyNot (x1 : Int32) (x2 : Int32) (x3 : Int32) (M : Mm) : Option (Int32 × Mm) :=
if (x2 &&& ((M.1 0 0) ^^^ (mI 1))) = (nI 0) then
(if x3 = (nI 0) then
(if x1 = (nI 4) then
(bd (fX9_areAllOpen x2 M) fun r10 M10 =>
if r10 = (nI 0) then
(some ((nI 3), M10))
else
(if (M10.1 0 1) = (nI 0) then
(some ((nI 5), M10))
else
(bd (fX9_worthOf x2 M10) fun r13 M13 =>
if r13 = (nI 0) then
(some ((nI 0), M13))
else
(some ((nI 6), M13)))))
else
(bd (fX9_only x2 M) fun r4 M4 =>
bd (fX9_canDeed x1 r4 M4) fun r5 M5 =>
if r5 = (nI 0) then
(some ((nI 3), M5))
else
(if x1 = (nI 3) then
(gd (inb r4 12) (
if (M5.1 1 r4.toNatClampNeg) = (nI 5) then
(some ((nI 4), M5))
else
(fX9_whyNot_b100 x1 M5)))
else
(fX9_whyNot_b100 x1 M5))))
else
(some ((nI 2), M)))
else
(some ((nI 1), M))
set_option maxHeartbeats 4000000 in
set_option maxRecDepth 100000 in
theorem mX9_whyNot (l : Launch) {G : Rg} (hG : gS G = shM) {x1 : Int32} {x2 : Int32} {x3 : Int32}  {M Mf : Mm} {r : Int32} (hf : fX9_whyNot x1 x2 x3 M = some (r, Mf)) : Mt l G yX9_whyNot cX9_whyNot 5 (some .int) 4 90 [.ref (gA G 0), .int x1, .int x2, .int x3] M (some (.int r)) Mf := by
  refine Mt.of (by decide) (Nat.le_of_ble_eq_true rfl) ?_
  intro X C hX
  subst hX
  have C : cxX9_whyNot G X := C
  show V G X 5 (some (.int r)) Mf 0 [(0, .ref (gA G 0)), (1, .int x1), (2, .int x2), (3, .int x3)] [] M
  rw [fX9_whyNot] at hf
  refine V.iload_n (pc := 0) C 2 rfl dX9_whyNot_0 ?_
  refine V.aload_n (pc := 1) C 0 rfl dX9_whyNot_1 ?_
  refine V.getI (pc := 2) C clX9 inX9 (sm_0 hG) 0 (by decide) wF_X9_73 rfl dX9_whyNot_2 ?_
  refine V.iconst (pc := 5) C (mI 1) (by decide) dX9_whyNot_5 ?_
  refine V.ixor (pc := 6) C dX9_whyNot_6 ?_
  refine V.iand (pc := 7) C dX9_whyNot_7 ?_
  rcases it_some hf with ⟨h1, hf⟩ | ⟨h1, hf⟩
  · refine V.if_eqT (pc := 8) C 13 h1 (by decide) dX9_whyNot_8 ?_
    refine V.iload_n (pc := 13) C 3 rfl dX9_whyNot_13 ?_
    rcases it_some hf with ⟨h2, hf⟩ | ⟨h2, hf⟩
    · refine V.if_eqT (pc := 14) C 19 h2 (by decide) dX9_whyNot_14 ?_
      refine V.iload_n (pc := 19) C 1 rfl dX9_whyNot_19 ?_
      refine V.iconst (pc := 20) C (nI 4) (by decide) dX9_whyNot_20 ?_
      rcases it_some hf with ⟨h3, hf⟩ | ⟨h3, hf⟩
      · refine V.ic_neF (pc := 21) C 62 h3 (by decide) dX9_whyNot_21 ?_
        refine V.aload_n (pc := 24) C 0 rfl dX9_whyNot_24 ?_
        refine V.iload_n (pc := 25) C 2 rfl dX9_whyNot_25 ?_
        obtain ⟨r10, M10, h10, hf⟩ := bd_some hf
        refine V.callVi (pc := 26) (As := [.int x2]) (rest := []) C (mX9_areAllOpen X.2.1 hG  h10) mf_X9_areAllOpen clX9 (sm_0 hG) wM_X9_140 rfl rfl ⟨by decide, by decide⟩ (Nat.le_of_ble_eq_true rfl) dX9_whyNot_26 ?_
        rcases it_some hf with ⟨h11, hf⟩ | ⟨h11, hf⟩
        · refine V.if_neF (pc := 29) C 36 h11 (by decide) dX9_whyNot_29 ?_
          refine V.iconst (pc := 32) C (nI 3) (by decide) dX9_whyNot_32 ?_
          refine V.goto (pc := 33) C 61 (by decide) dX9_whyNot_33 ?_
          exact V.retI (pc := 61) C hf dX9_whyNot_61
        · refine V.if_neT (pc := 29) C 36 h11 (by decide) dX9_whyNot_29 ?_
          refine V.aload_n (pc := 36) C 0 rfl dX9_whyNot_36 ?_
          refine V.getI (pc := 37) C clX9 inX9 (sm_0 hG) 1 (by decide) wF_X9_63 rfl dX9_whyNot_37 ?_
          rcases it_some hf with ⟨h12, hf⟩ | ⟨h12, hf⟩
          · refine V.if_neF (pc := 40) C 47 h12 (by decide) dX9_whyNot_40 ?_
            refine V.iconst (pc := 43) C (nI 5) (by decide) dX9_whyNot_43 ?_
            refine V.goto (pc := 44) C 61 (by decide) dX9_whyNot_44 ?_
            exact V.retI (pc := 61) C hf dX9_whyNot_61
          · refine V.if_neT (pc := 40) C 47 h12 (by decide) dX9_whyNot_40 ?_
            refine V.aload_n (pc := 47) C 0 rfl dX9_whyNot_47 ?_
            refine V.iload_n (pc := 48) C 2 rfl dX9_whyNot_48 ?_
            obtain ⟨r13, M13, h13, hf⟩ := bd_some hf
            refine V.callVi (pc := 49) (As := [.int x2]) (rest := []) C (mX9_worthOf X.2.1 hG  h13) mf_X9_worthOf clX9 (sm_0 hG) wM_X9_143 rfl rfl ⟨by decide, by decide⟩ (Nat.le_of_ble_eq_true rfl) dX9_whyNot_49 ?_
            rcases it_some hf with ⟨h14, hf⟩ | ⟨h14, hf⟩
            · refine V.if_eqT (pc := 52) C 60 h14 (by decide) dX9_whyNot_52 ?_
              refine V.iconst (pc := 60) C (nI 0) (by decide) dX9_whyNot_60 ?_
              exact V.retI (pc := 61) C hf dX9_whyNot_61
            · refine V.if_eqF (pc := 52) C 60 h14 (by decide) dX9_whyNot_52 ?_
              refine V.bipush (pc := 55) C (nI 6) (by decide) dX9_whyNot_55 ?_
              refine V.goto (pc := 57) C 61 (by decide) dX9_whyNot_57 ?_
              exact V.retI (pc := 61) C hf dX9_whyNot_61
      · refine V.ic_neT (pc := 21) C 62 h3 (by decide) dX9_whyNot_21 ?_
        refine V.iload_n (pc := 62) C 2 rfl dX9_whyNot_62 ?_
        obtain ⟨r4, M4, h4, hf⟩ := bd_some hf
        refine V.callSi (pc := 63) (As := [.int x2]) (rest := []) C (mX9_only X.2.1 hG  h4) mf_X9_only wM_X9_146 rfl rfl ⟨by decide, by decide⟩ (Nat.le_of_ble_eq_true rfl) dX9_whyNot_63 ?_
        refine V.istore (pc := 66) (lv' := [(4, .int r4), (0, .ref (gA G 0)), (1, .int x1), (2, .int x2), (3, .int x3)]) C (by decide) rfl dX9_whyNot_66 ?_
        refine V.aload_n (pc := 68) C 1 rfl dX9_whyNot_68 ?_
        refine V.iload_n (pc := 69) C 2 rfl dX9_whyNot_69 ?_
        refine V.iload (pc := 70) C 0 rfl dX9_whyNot_70 ?_
        obtain ⟨r5, M5, h5, hf⟩ := bd_some hf
        refine V.callVi (pc := 72) (As := [.int x1, .int r4]) (rest := []) C (mX9_canDeed X.2.1 hG  h5) mf_X9_canDeed clX9 (sm_0 hG) wM_X9_149 rfl rfl ⟨by decide, by decide⟩ (Nat.le_of_ble_eq_true rfl) dX9_whyNot_72 ?_
        rcases it_some hf with ⟨h6, hf⟩ | ⟨h6, hf⟩
        · refine V.if_neF (pc := 75) C 80 h6 (by decide) dX9_whyNot_75 ?_
          refine V.iconst (pc := 78) C (nI 3) (by decide) dX9_whyNot_78 ?_
          exact V.retI (pc := 79) C hf dX9_whyNot_79
        · refine V.if_neT (pc := 75) C 80 h6 (by decide) dX9_whyNot_75 ?_
          refine V.iload_n (pc := 80) C 2 rfl dX9_whyNot_80 ?_
          refine V.iconst (pc := 81) C (nI 3) (by decide) dX9_whyNot_81 ?_
          rcases it_some hf with ⟨h7, hf⟩ | ⟨h7, hf⟩
          · refine V.ic_neF (pc := 82) C 100 h7 (by decide) dX9_whyNot_82 ?_
            refine V.aload_n (pc := 85) C 1 rfl dX9_whyNot_85 ?_
            refine V.getR (pc := 86) C clX9 inX9 (sm_0 hG) 2 (by decide) wF_X9_7 rfl dX9_whyNot_86 ?_
            refine V.iload (pc := 89) C 0 rfl dX9_whyNot_89 ?_
            obtain ⟨g8, hf⟩ := gd_some hf
            refine V.iald (pc := 91) C (sm_1 hG) (inb_in g8) dX9_whyNot_91 ?_
            refine V.iconst (pc := 92) C (nI 5) (by decide) dX9_whyNot_92 ?_
            rcases it_some hf with ⟨h9, hf⟩ | ⟨h9, hf⟩
            · refine V.ic_neF (pc := 93) C 100 h9 (by decide) dX9_whyNot_93 ?_
              refine V.iconst (pc := 96) C (nI 4) (by decide) dX9_whyNot_96 ?_
              refine V.goto (pc := 97) C 116 (by decide) dX9_whyNot_97 ?_
              exact V.retI (pc := 116) C hf dX9_whyNot_116
            · refine V.ic_neT (pc := 93) C 100 h9 (by decide) dX9_whyNot_93 ?_
              refine V.sub C [1, 2] (lv' := [(0, .ref (gA G 0)), (1, .int x1)]) rfl ?_
              exact vX9_whyNot_b100 C hG    _ _ hf
          · refine V.ic_neT (pc := 82) C 100 h7 (by decide) dX9_whyNot_82 ?_
            refine V.sub C [1, 2] (lv' := [(0, .ref (gA G 0)), (1, .int x1)]) rfl ?_
            exact vX9_whyNot_b100 C hG    _ _ hf
    · refine V.if_eqF (pc := 14) C 19 h2 (by decide) dX9_whyNot_14 ?_
      refine V.iconst (pc := 17) C (nI 2) (by decide) dX9_whyNot_17 ?_
      exact V.retI (pc := 18) C hf dX9_whyNot_18
  · refine V.if_eqF (pc := 8) C 13 h1 (by decide) dX9_whyNot_8 ?_
    refine V.iconst (pc := 11) C (nI 1) (by decide) dX9_whyNot_11 ?_
    exact V.retI (pc := 12) C hf dX9_whyNot_12
theorem dX9_breakWord_0 : decode cX9_breakWord 0 = .ok (.aload_n 0, 1) := by decide +kernel
theorem dX9_breakWord_1 : decode cX9_breakWord 1 = .ok (.getfield 13, 3) := by decide +kernel
theorem dX9_breakWord_4 : decode cX9_breakWord 4 = .ok (.iload_n 1, 1) := by decide +kernel
theorem dX9_breakWord_5 : decode cX9_breakWord 5 = .ok (.iconst 4, 1) := by decide +kernel
theorem dX9_breakWord_6 : decode cX9_breakWord 6 = .ok (.iastore, 1) := by decide +kernel
theorem dX9_breakWord_7 : decode cX9_breakWord 7 = .ok (.aload_n 0, 1) := by decide +kernel
theorem dX9_breakWord_8 : decode cX9_breakWord 8 = .ok (.aload_n 0, 1) := by decide +kernel
theorem dX9_breakWord_9 : decode cX9_breakWord 9 = .ok (.getfield 63, 3) := by decide +kernel
theorem dX9_breakWord_12 : decode cX9_breakWord 12 = .ok (.ifCond .ne 7, 3) := by decide +kernel
theorem dX9_breakWord_15 : decode cX9_breakWord 15 = .ok (.iconst 0, 1) := by decide +kernel
theorem dX9_breakWord_16 : decode cX9_breakWord 16 = .ok (.goto 9, 3) := by decide +kernel
theorem dX9_breakWord_19 : decode cX9_breakWord 19 = .ok (.aload_n 0, 1) := by decide +kernel
theorem dX9_breakWord_20 : decode cX9_breakWord 20 = .ok (.getfield 63, 3) := by decide +kernel
theorem dX9_breakWord_23 : decode cX9_breakWord 23 = .ok (.iconst 1, 1) := by decide +kernel
theorem dX9_breakWord_24 : decode cX9_breakWord 24 = .ok (.isub, 1) := by decide +kernel
theorem dX9_breakWord_25 : decode cX9_breakWord 25 = .ok (.putfield 63, 3) := by decide +kernel
theorem dX9_breakWord_28 : decode cX9_breakWord 28 = .ok (.aload_n 0, 1) := by decide +kernel
theorem dX9_breakWord_29 : decode cX9_breakWord 29 = .ok (.dup, 1) := by decide +kernel
theorem dX9_breakWord_30 : decode cX9_breakWord 30 = .ok (.getfield 153, 3) := by decide +kernel
theorem dX9_breakWord_33 : decode cX9_breakWord 33 = .ok (.iconst 1, 1) := by decide +kernel
theorem dX9_breakWord_34 : decode cX9_breakWord 34 = .ok (.iadd, 1) := by decide +kernel
theorem dX9_breakWord_35 : decode cX9_breakWord 35 = .ok (.putfield 153, 3) := by decide +kernel
theorem dX9_breakWord_38 : decode cX9_breakWord 38 = .ok (.return_, 1) := by decide +kernel
abbrev cxX9_breakWord (G : Rg) (X : Ct) : Prop := Cx G X cX9_breakWord 2 RX9 (none) 0 0 (Cond.code yX9_breakWord cX9_breakWord 2 (none))
def fX9_breakWord_b25   (s1 : Int32) (M : Mm) : Option (Unit × Mm) :=
some ((), (sI (sI M 0 1 s1) 0 16 (((sI M 0 1 s1).1 0 16) + (nI 1))))
set_option maxHeartbeats 4000000 in
set_option maxRecDepth 100000 in
theorem vX9_breakWord_b25 {G : Rg} {X : Ct} {r : Unit} {Mf : Mm}   (C : cxX9_breakWord G X) (hG : gS G = shM)   (s1 : Int32) (M : Mm) (hf : fX9_breakWord_b25 s1 M = some (r, Mf)) : V G X 2 none Mf 25 [(0, .ref (gA G 0))] [.int s1, .ref (gA G 0)] M := by
  rw [fX9_breakWord_b25] at hf
  refine V.putI (pc := 25) C clX9 inX9 (sm_0 hG) 1 (by decide) wF_X9_63 tyX9 tyX9_ok nmX9 rfl (tyX9_ok 1 (by decide)) rfl dX9_breakWord_25 ?_
  refine V.aload_n (pc := 28) C 0 rfl dX9_breakWord_28 ?_
  refine V.dup (pc := 29) C rfl dX9_breakWord_29 ?_
  refine V.getI (pc := 30) C clX9 inX9 (sm_0 hG) 16 (by decide) wF_X9_153 rfl dX9_breakWord_30 ?_
  refine V.iconst (pc := 33) C (nI 1) (by decide) dX9_breakWord_33 ?_
  refine V.iadd (pc := 34) C dX9_breakWord_34 ?_
  refine V.putI (pc := 35) C clX9 inX9 (sm_0 hG) 16 (by decide) wF_X9_153 tyX9 tyX9_ok nmX9 rfl (tyX9_ok 16 (by decide)) rfl dX9_breakWord_35 ?_
  exact V.retV (pc := 38) C hf dX9_breakWord_38
def fX9_breakWord (x1 : Int32) (M : Mm) : Option (Unit × Mm) :=
gd (inb x1 12) (
if ((sI M 2 x1.toNatClampNeg (nI 4)).1 0 1) = (nI 0) then
(fX9_breakWord_b25 (nI 0) (sI M 2 x1.toNatClampNeg (nI 4)))
else
(fX9_breakWord_b25 (((sI M 2 x1.toNatClampNeg (nI 4)).1 0 1) - (nI 1)) (sI M 2 x1.toNatClampNeg (nI 4))))
set_option maxHeartbeats 4000000 in
set_option maxRecDepth 100000 in
theorem mX9_breakWord (l : Launch) {G : Rg} (hG : gS G = shM) {x1 : Int32}  {M Mf : Mm} {r : Unit} (hf : fX9_breakWord x1 M = some (r, Mf)) : Mt l G yX9_breakWord cX9_breakWord 2 (none) 0 0 [.ref (gA G 0), .int x1] M none Mf := by
  refine Mt.of (by decide) (Nat.le_of_ble_eq_true rfl) ?_
  intro X C hX
  subst hX
  have C : cxX9_breakWord G X := C
  show V G X 2 none Mf 0 [(0, .ref (gA G 0)), (1, .int x1)] [] M
  rw [fX9_breakWord] at hf
  refine V.aload_n (pc := 0) C 0 rfl dX9_breakWord_0 ?_
  refine V.getR (pc := 1) C clX9 inX9 (sm_0 hG) 3 (by decide) wF_X9_13 rfl dX9_breakWord_1 ?_
  refine V.iload_n (pc := 4) C 1 rfl dX9_breakWord_4 ?_
  refine V.iconst (pc := 5) C (nI 4) (by decide) dX9_breakWord_5 ?_
  obtain ⟨g1, hf⟩ := gd_some hf
  refine V.iast (pc := 6) C (sm_2 hG) (inb_in g1) dX9_breakWord_6 ?_
  refine V.aload_n (pc := 7) C 0 rfl dX9_breakWord_7 ?_
  refine V.aload_n (pc := 8) C 0 rfl dX9_breakWord_8 ?_
  refine V.getI (pc := 9) C clX9 inX9 (sm_0 hG) 1 (by decide) wF_X9_63 rfl dX9_breakWord_9 ?_
  rcases it_some hf with ⟨h2, hf⟩ | ⟨h2, hf⟩
  · refine V.if_neF (pc := 12) C 19 h2 (by decide) dX9_breakWord_12 ?_
    refine V.iconst (pc := 15) C (nI 0) (by decide) dX9_breakWord_15 ?_
    refine V.goto (pc := 16) C 25 (by decide) dX9_breakWord_16 ?_
    refine V.sub C [0] (lv' := [(0, .ref (gA G 0))]) rfl ?_
    exact vX9_breakWord_b25 C hG    _ _ hf
  · refine V.if_neT (pc := 12) C 19 h2 (by decide) dX9_breakWord_12 ?_
    refine V.aload_n (pc := 19) C 0 rfl dX9_breakWord_19 ?_
    refine V.getI (pc := 20) C clX9 inX9 (sm_0 hG) 1 (by decide) wF_X9_63 rfl dX9_breakWord_20 ?_
    refine V.iconst (pc := 23) C (nI 1) (by decide) dX9_breakWord_23 ?_
    refine V.isub (pc := 24) C dX9_breakWord_24 ?_
    refine V.sub C [0] (lv' := [(0, .ref (gA G 0))]) rfl ?_
    exact vX9_breakWord_b25 C hG    _ _ hf
