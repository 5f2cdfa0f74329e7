theorem dX6_choosePair_0 : decode cX6_choosePair 0 = .ok (.aload_n 0, 1) := by decide +kernel
theorem dX6_choosePair_1 : decode cX6_choosePair 1 = .ok (.bipush (-6), 2) := by decide +kernel
theorem dX6_choosePair_3 : decode cX6_choosePair 3 = .ok (.putfield 57, 3) := by decide +kernel
theorem dX6_choosePair_6 : decode cX6_choosePair 6 = .ok (.aload_n 0, 1) := by decide +kernel
theorem dX6_choosePair_7 : decode cX6_choosePair 7 = .ok (.bipush (-6), 2) := by decide +kernel
theorem dX6_choosePair_9 : decode cX6_choosePair 9 = .ok (.putfield 60, 3) := by decide +kernel
theorem dX6_choosePair_12 : decode cX6_choosePair 12 = .ok (.iconst 0, 1) := by decide +kernel
theorem dX6_choosePair_13 : decode cX6_choosePair 13 = .ok (.istore_n 2, 1) := by decide +kernel
theorem dX6_choosePair_14 : decode cX6_choosePair 14 = .ok (.iload_n 2, 1) := by decide +kernel
theorem dX6_choosePair_15 : decode cX6_choosePair 15 = .ok (.bipush 6, 2) := by decide +kernel
theorem dX6_choosePair_17 : decode cX6_choosePair 17 = .ok (.if_icmp .ge 64, 3) := by decide +kernel
theorem dX6_choosePair_20 : decode cX6_choosePair 20 = .ok (.aload_n 0, 1) := by decide +kernel
theorem dX6_choosePair_21 : decode cX6_choosePair 21 = .ok (.getfield 34, 3) := by decide +kernel
theorem dX6_choosePair_24 : decode cX6_choosePair 24 = .ok (.ifCond .le 57, 3) := by decide +kernel
theorem dX6_choosePair_27 : decode cX6_choosePair 27 = .ok (.bipush 6, 2) := by decide +kernel
theorem dX6_choosePair_29 : decode cX6_choosePair 29 = .ok (.istore_n 3, 1) := by decide +kernel
theorem dX6_choosePair_30 : decode cX6_choosePair 30 = .ok (.iload_n 3, 1) := by decide +kernel
theorem dX6_choosePair_31 : decode cX6_choosePair 31 = .ok (.bipush 12, 2) := by decide +kernel
theorem dX6_choosePair_33 : decode cX6_choosePair 33 = .ok (.if_icmp .ge 42, 3) := by decide +kernel
theorem dX6_choosePair_36 : decode cX6_choosePair 36 = .ok (.aload_n 1, 1) := by decide +kernel
theorem dX6_choosePair_37 : decode cX6_choosePair 37 = .ok (.iload_n 2, 1) := by decide +kernel
theorem dX6_choosePair_38 : decode cX6_choosePair 38 = .ok (.invokevirtual 41, 3) := by decide +kernel
theorem dX6_choosePair_41 : decode cX6_choosePair 41 = .ok (.ifCond .eq 28, 3) := by decide +kernel
theorem dX6_choosePair_44 : decode cX6_choosePair 44 = .ok (.aload_n 1, 1) := by decide +kernel
theorem dX6_choosePair_45 : decode cX6_choosePair 45 = .ok (.iload_n 3, 1) := by decide +kernel
theorem dX6_choosePair_46 : decode cX6_choosePair 46 = .ok (.invokevirtual 41, 3) := by decide +kernel
theorem dX6_choosePair_49 : decode cX6_choosePair 49 = .ok (.ifCond .eq 20, 3) := by decide +kernel
theorem dX6_choosePair_52 : decode cX6_choosePair 52 = .ok (.aload_n 0, 1) := by decide +kernel
theorem dX6_choosePair_53 : decode cX6_choosePair 53 = .ok (.iload_n 2, 1) := by decide +kernel
theorem dX6_choosePair_54 : decode cX6_choosePair 54 = .ok (.bipush 12, 2) := by decide +kernel
theorem dX6_choosePair_56 : decode cX6_choosePair 56 = .ok (.imul, 1) := by decide +kernel
theorem dX6_choosePair_57 : decode cX6_choosePair 57 = .ok (.iload_n 3, 1) := by decide +kernel
theorem dX6_choosePair_58 : decode cX6_choosePair 58 = .ok (.iadd, 1) := by decide +kernel
theorem dX6_choosePair_59 : decode cX6_choosePair 59 = .ok (.aload_n 0, 1) := by decide +kernel
theorem dX6_choosePair_60 : decode cX6_choosePair 60 = .ok (.aload_n 1, 1) := by decide +kernel
theorem dX6_choosePair_61 : decode cX6_choosePair 61 = .ok (.iload_n 2, 1) := by decide +kernel
theorem dX6_choosePair_62 : decode cX6_choosePair 62 = .ok (.iload_n 3, 1) := by decide +kernel
theorem dX6_choosePair_63 : decode cX6_choosePair 63 = .ok (.invokevirtual 63, 3) := by decide +kernel
theorem dX6_choosePair_66 : decode cX6_choosePair 66 = .ok (.invokevirtual 67, 3) := by decide +kernel
theorem dX6_choosePair_69 : decode cX6_choosePair 69 = .ok (.iinc 3 1, 3) := by decide +kernel
theorem dX6_choosePair_72 : decode cX6_choosePair 72 = .ok (.goto (-42), 3) := by decide +kernel
theorem dX6_choosePair_75 : decode cX6_choosePair 75 = .ok (.iinc 2 1, 3) := by decide +kernel
theorem dX6_choosePair_78 : decode cX6_choosePair 78 = .ok (.goto (-64), 3) := by decide +kernel
theorem dX6_choosePair_81 : decode cX6_choosePair 81 = .ok (.return_, 1) := by decide +kernel
abbrev cxX6_choosePair (G : Rg) (X : Ct) : Prop := Cx G X cX6_choosePair 4 RX6 (none) 3 69 (Cond.code yX6_choosePair cX6_choosePair 4 (none))
def fX6_choosePair_b30 (nx14 : Int32 → Mm → Option (Unit × Mm)) (c1 : Nat) : Nat → Int32 → Int32 → Mm → Option (Unit × Mm)
  | 0, _, _, _ => none
  | n + 1, v2, v3, M =>
    if (nI 12) ≤ v3 then
    (nx14 (v2 + (nI 1)) M)
    else
    (bd (fX0_isThere c1 v2 M) fun r2 M2 =>
    if r2 = (nI 0) then
    (fX6_choosePair_b30 nx14 c1 n v2 (v3 + (nI 1)) M2)
    else
    (bd (fX0_isThere c1 v3 M2) fun r4 M4 =>
    if r4 = (nI 0) then
    (fX6_choosePair_b30 nx14 c1 n v2 (v3 + (nI 1)) M4)
    else
    (bd (fX6_mostLeft c1 v2 v3 M4) fun r6 M6 =>
    bd (fX6_offerPair ((v2 * (nI 12)) + v3) r6 M6) fun _ M7 =>
    fX6_choosePair_b30 nx14 c1 n v2 (v3 + (nI 1)) M7)))
set_option maxHeartbeats 4000000 in
set_option maxRecDepth 100000 in
theorem vX6_choosePair_b30 {G : Rg} {X : Ct} {r : Unit} {Mf : Mm} {c1 : Nat} {nx14 : Int32 → Mm → Option (Unit × Mm)} (C : cxX6_choosePair G X) (hG : gS G = shX) (hB1 : isB G c1) (hx14 : ∀ (v2 : Int32) (M : Mm), nx14 v2 M = some (r, Mf) → V G X 4 none Mf 14 [(0, .ref (gA G 20)), (1, .ref (gA G c1)), (2, .int v2)] [] M) : ∀ (n : Nat) (v2 : Int32) (v3 : Int32) (M : Mm), fX6_choosePair_b30 nx14 c1 n v2 v3 M = some (r, Mf) → V G X 4 none Mf 30 [(0, .ref (gA G 20)), (1, .ref (gA G c1)), (2, .int v2), (3, .int v3)] [] M := by
  intro n
  induction n with
  | zero => intro v2 v3 M hf; rw [fX6_choosePair_b30] at hf; cases hf
  | succ n ih =>
    intro v2 v3 M hf
    rw [fX6_choosePair_b30] at hf
    refine V.iload_n (pc := 30) C 3 rfl dX6_choosePair_30 ?_
    refine V.bipush (pc := 31) C (nI 12) (by decide) dX6_choosePair_31 ?_
    rcases it_some hf with ⟨h1, hf⟩ | ⟨h1, hf⟩
    · refine V.ic_geT (pc := 33) C 75 h1 (by decide) dX6_choosePair_33 ?_
      refine V.iinc (pc := 75) (lv' := [(2, .int (v2 + (nI 1))), (0, .ref (gA G 20)), (1, .ref (gA G c1)), (3, .int v3)]) C (v2 + (nI 1)) 2 rfl rfl (by decide) rfl dX6_choosePair_75 ?_
      refine V.goto (pc := 78) C 14 (by decide) dX6_choosePair_78 ?_
      refine V.sub C [1, 2, 0] (lv' := [(0, .ref (gA G 20)), (1, .ref (gA G c1)), (2, .int (v2 + (nI 1)))]) rfl ?_
      exact hx14 _ _ hf
    · refine V.ic_geF (pc := 33) C 75 h1 (by decide) dX6_choosePair_33 ?_
      refine V.aload_n (pc := 36) C 1 rfl dX6_choosePair_36 ?_
      refine V.iload_n (pc := 37) C 2 rfl dX6_choosePair_37 ?_
      obtain ⟨r2, M2, h2, hf⟩ := bd_some hf
      refine V.callVi (pc := 38) (As := [.int v2]) (rest := []) C (mX0_isThere X.2.1 hG hB1 h2) mf_X0_isThere clX0 hB1.1 wM_X6_41 rfl rfl ⟨by decide, by decide⟩ (Nat.le_of_ble_eq_true rfl) dX6_choosePair_38 ?_
      rcases it_some hf with ⟨h3, hf⟩ | ⟨h3, hf⟩
      · refine V.if_eqT (pc := 41) C 69 h3 (by decide) dX6_choosePair_41 ?_
        refine V.iinc (pc := 69) (lv' := [(3, .int (v3 + (nI 1))), (0, .ref (gA G 20)), (1, .ref (gA G c1)), (2, .int v2)]) C (v3 + (nI 1)) 3 rfl rfl (by decide) rfl dX6_choosePair_69 ?_
        refine V.goto (pc := 72) C 30 (by decide) dX6_choosePair_72 ?_
        refine V.sub C [1, 2, 3, 0] (lv' := [(0, .ref (gA G 20)), (1, .ref (gA G c1)), (2, .int v2), (3, .int (v3 + (nI 1)))]) rfl ?_
        exact ih _ _ _ hf
      · refine V.if_eqF (pc := 41) C 69 h3 (by decide) dX6_choosePair_41 ?_
        refine V.aload_n (pc := 44) C 1 rfl dX6_choosePair_44 ?_
        refine V.iload_n (pc := 45) C 3 rfl dX6_choosePair_45 ?_
        obtain ⟨r4, M4, h4, hf⟩ := bd_some hf
        refine V.callVi (pc := 46) (As := [.int v3]) (rest := []) C (mX0_isThere X.2.1 hG hB1 h4) mf_X0_isThere clX0 hB1.1 wM_X6_41 rfl rfl ⟨by decide, by decide⟩ (Nat.le_of_ble_eq_true rfl) dX6_choosePair_46 ?_
        rcases it_some hf with ⟨h5, hf⟩ | ⟨h5, hf⟩
        · refine V.if_eqT (pc := 49) C 69 h5 (by decide) dX6_choosePair_49 ?_
          refine V.iinc (pc := 69) (lv' := [(3, .int (v3 + (nI 1))), (0, .ref (gA G 20)), (1, .ref (gA G c1)), (2, .int v2)]) C (v3 + (nI 1)) 3 rfl rfl (by decide) rfl dX6_choosePair_69 ?_
          refine V.goto (pc := 72) C 30 (by decide) dX6_choosePair_72 ?_
          refine V.sub C [1, 2, 3, 0] (lv' := [(0, .ref (gA G 20)), (1, .ref (gA G c1)), (2, .int v2), (3, .int (v3 + (nI 1)))]) rfl ?_
          exact ih _ _ _ hf
        · refine V.if_eqF (pc := 49) C 69 h5 (by decide) dX6_choosePair_49 ?_
          refine V.aload_n (pc := 52) C 0 rfl dX6_choosePair_52 ?_
          refine V.iload_n (pc := 53) C 2 rfl dX6_choosePair_53 ?_
          refine V.bipush (pc := 54) C (nI 12) (by decide) dX6_choosePair_54 ?_
          refine V.imul (pc := 56) C dX6_choosePair_56 ?_
          refine V.iload_n (pc := 57) C 3 rfl dX6_choosePair_57 ?_
          refine V.iadd (pc := 58) C dX6_choosePair_58 ?_
          refine V.aload_n (pc := 59) C 0 rfl dX6_choosePair_59 ?_
          refine V.aload_n (pc := 60) C 1 rfl dX6_choosePair_60 ?_
          refine V.iload_n (pc := 61) C 2 rfl dX6_choosePair_61 ?_
          refine V.iload_n (pc := 62) C 3 rfl dX6_choosePair_62 ?_
          obtain ⟨r6, M6, h6, hf⟩ := bd_some hf
          refine V.callVi (pc := 63) (As := [.ref (gA G c1), .int v2, .int v3]) (rest := [.int ((v2 * (nI 12)) + v3), .ref (gA G 20)]) C (mX6_mostLeft X.2.1 hG hB1 h6) mf_X6_mostLeft clX6 (sx_20 hG) wM_X6_63 rfl rfl ⟨by decide, by decide⟩ (Nat.le_of_ble_eq_true rfl) dX6_choosePair_63 ?_
          obtain ⟨_, M7, h7, hf⟩ := bd_some hf
          refine V.callVv (pc := 66) (As := [.int ((v2 * (nI 12)) + v3), .int r6]) (rest := []) C (mX6_offerPair X.2.1 hG  h7) mf_X6_offerPair clX6 (sx_20 hG) wM_X6_67 rfl rfl ⟨by decide, by decide⟩ (Nat.le_of_ble_eq_true rfl) dX6_choosePair_66 ?_
          refine V.iinc (pc := 69) (lv' := [(3, .int (v3 + (nI 1))), (0, .ref (gA G 20)), (1, .ref (gA G c1)), (2, .int v2)]) C (v3 + (nI 1)) 3 rfl rfl (by decide) rfl dX6_choosePair_69 ?_
          refine V.goto (pc := 72) C 30 (by decide) dX6_choosePair_72 ?_
          refine V.sub C [1, 2, 3, 0] (lv' := [(0, .ref (gA G 20)), (1, .ref (gA G c1)), (2, .int v2), (3, .int (v3 + (nI 1)))]) rfl ?_
          exact ih _ _ _ hf
def fX6_choosePair_b14  (c1 : Nat) : Nat → Int32 → Mm → Option (Unit × Mm)
  | 0, _, _ => none
  | n + 1, v2, M =>
    if (nI 6) ≤ v2 then
    (some ((), M))
    else
    (if (M.1 20 0) ≤ (nI 0) then
    (some ((), M))
    else
    (fX6_choosePair_b30 (fX6_choosePair_b14 c1 n) c1 fu v2 (nI 6) M))
set_option maxHeartbeats 4000000 in
set_option maxRecDepth 100000 in
theorem vX6_choosePair_b14 {G : Rg} {X : Ct} {r : Unit} {Mf : Mm} {c1 : Nat}  (C : cxX6_choosePair G X) (hG : gS G = shX) (hB1 : isB G c1)  : ∀ (n : Nat) (v2 : Int32) (M : Mm), fX6_choosePair_b14 c1 n v2 M = some (r, Mf) → V G X 4 none Mf 14 [(0, .ref (gA G 20)), (1, .ref (gA G c1)), (2, .int v2)] [] M := by
  intro n
  induction n with
  | zero => intro v2 M hf; rw [fX6_choosePair_b14] at hf; cases hf
  | succ n ih =>
    intro v2 M hf
    rw [fX6_choosePair_b14] at hf
    refine V.iload_n (pc := 14) C 2 rfl dX6_choosePair_14 ?_
    refine V.bipush (pc := 15) C (nI 6) (by decide) dX6_choosePair_15 ?_
    rcases it_some hf with ⟨h1, hf⟩ | ⟨h1, hf⟩
    · refine V.ic_geT (pc := 17) C 81 h1 (by decide) dX6_choosePair_17 ?_
      exact V.retV (pc := 81) C hf dX6_choosePair_81
    · refine V.ic_geF (pc := 17) C 81 h1 (by decide) dX6_choosePair_17 ?_
      refine V.aload_n (pc := 20) C 0 rfl dX6_choosePair_20 ?_
      refine V.getI (pc := 21) C clX6 inX6 (sx_20 hG) 0 (by decide) wF_X6_34 rfl dX6_choosePair_21 ?_
      rcases it_some hf with ⟨h2, hf⟩ | ⟨h2, hf⟩
      · refine V.if_leT (pc := 24) C 81 h2 (by decide) dX6_choosePair_24 ?_
        exact V.retV (pc := 81) C hf dX6_choosePair_81
      · refine V.if_leF (pc := 24) C 81 h2 (by decide) dX6_choosePair_24 ?_
        refine V.bipush (pc := 27) C (nI 6) (by decide) dX6_choosePair_27 ?_
        refine V.istore_n (pc := 29) (lv' := [(3, .int (nI 6)), (0, .ref (gA G 20)), (1, .ref (gA G c1)), (2, .int v2)]) C (by decide) rfl dX6_choosePair_29 ?_
        refine V.sub C [1, 2, 3, 0] (lv' := [(0, .ref (gA G 20)), (1, .ref (gA G c1)), (2, .int v2), (3, .int (nI 6))]) rfl ?_
        exact vX6_choosePair_b30 C hG hB1 ih fu _ _ _ hf
def fX6_choosePair (c1 : Nat) (M : Mm) : Option (Unit × Mm) :=
fX6_choosePair_b14 c1 fu (nI 0) (sI (sI M 20 1 (mI 6)) 20 2 (mI 6))
set_option maxHeartbeats 4000000 in
set_option maxRecDepth 100000 in
theorem mX6_choosePair (l : Launch) {G : Rg} (hG : gS G = shX) {c1 : Nat} (hB1 : isB G c1) {M Mf : Mm} {r : Unit} (hf : fX6_choosePair c1 M = some (r, Mf)) : Mt l G yX6_choosePair cX6_choosePair 4 (none) 3 69 [.ref (gA G 20), .ref (gA G c1)] M none Mf := by
  refine Mt.of (by decide) (Nat.le_of_ble_eq_true rfl) ?_
  intro X C hX
  subst hX
  have C : cxX6_choosePair G X := C
  show V G X 4 none Mf 0 [(0, .ref (gA G 20)), (1, .ref (gA G c1))] [] M
  rw [fX6_choosePair] at hf
  refine V.aload_n (pc := 0) C 0 rfl dX6_choosePair_0 ?_
  refine V.bipush (pc := 1) C (mI 6) (by decide) dX6_choosePair_1 ?_
  refine V.putI (pc := 3) C clX6 inX6 (sx_20 hG) 1 (by decide) wF_X6_57 tyX6 tyX6_ok nmX6 rfl (tyX6_ok 1 (by decide)) rfl dX6_choosePair_3 ?_
  refine V.aload_n (pc := 6) C 0 rfl dX6_choosePair_6 ?_
  refine V.bipush (pc := 7) C (mI 6) (by decide) dX6_choosePair_7 ?_
  refine V.putI (pc := 9) C clX6 inX6 (sx_20 hG) 2 (by decide) wF_X6_60 tyX6 tyX6_ok nmX6 rfl (tyX6_ok 2 (by decide)) rfl dX6_choosePair_9 ?_
  refine V.iconst (pc := 12) C (nI 0) (by decide) dX6_choosePair_12 ?_
  refine V.istore_n (pc := 13) (lv' := [(2, .int (nI 0)), (0, .ref (gA G 20)), (1, .ref (gA G c1))]) C (by decide) rfl dX6_choosePair_13 ?_
  refine V.sub C [1, 2, 0] (lv' := [(0, .ref (gA G 20)), (1, .ref (gA G c1)), (2, .int (nI 0))]) rfl ?_
  exact vX6_choosePair_b14 C hG hB1  fu _ _ hf
theorem dX8_weigh_0 : decode cX8_weigh 0 = .ok (.iload_n 1, 1) := by decide +kernel
theorem dX8_weigh_1 : decode cX8_weigh 1 = .ok (.iconst 0, 1) := by decide +kernel
theorem dX8_weigh_2 : decode cX8_weigh 2 = .ok (.iconst 1, 1) := by decide +kernel
theorem dX8_weigh_3 : decode cX8_weigh 3 = .ok (.invokestatic 73, 3) := by decide +kernel
theorem dX8_weigh_6 : decode cX8_weigh 6 = .ok (.ifCond .ne 6, 3) := by decide +kernel
theorem dX8_weigh_9 : decode cX8_weigh 9 = .ok (.bipush (-2), 2) := by decide +kernel
theorem dX8_weigh_11 : decode cX8_weigh 11 = .ok (.ireturn, 1) := by decide +kernel
theorem dX8_weigh_12 : decode cX8_weigh 12 = .ok (.aload_n 0, 1) := by decide +kernel
theorem dX8_weigh_13 : decode cX8_weigh 13 = .ok (.getfield 40, 3) := by decide +kernel
theorem dX8_weigh_16 : decode cX8_weigh 16 = .ok (.aload_n 0, 1) := by decide +kernel
theorem dX8_weigh_17 : decode cX8_weigh 17 = .ok (.getfield 12, 3) := by decide +kernel
theorem dX8_weigh_20 : decode cX8_weigh 20 = .ok (.invokevirtual 191, 3) := by decide +kernel
theorem dX8_weigh_23 : decode cX8_weigh 23 = .ok (.aload_n 0, 1) := by decide +kernel
theorem dX8_weigh_24 : decode cX8_weigh 24 = .ok (.getfield 40, 3) := by decide +kernel
theorem dX8_weigh_27 : decode cX8_weigh 27 = .ok (.aload_n 0, 1) := by decide +kernel
theorem dX8_weigh_28 : decode cX8_weigh 28 = .ok (.getfield 12, 3) := by decide +kernel
theorem dX8_weigh_31 : decode cX8_weigh 31 = .ok (.invokevirtual 201, 3) := by decide +kernel
theorem dX8_weigh_34 : decode cX8_weigh 34 = .ok (.iload_n 1, 1) := by decide +kernel
theorem dX8_weigh_35 : decode cX8_weigh 35 = .ok (.ifCond .ne 13, 3) := by decide +kernel
theorem dX8_weigh_38 : decode cX8_weigh 38 = .ok (.aload_n 0, 1) := by decide +kernel
theorem dX8_weigh_39 : decode cX8_weigh 39 = .ok (.getfield 40, 3) := by decide +kernel
theorem dX8_weigh_42 : decode cX8_weigh 42 = .ok (.getfield 204, 3) := by decide +kernel
theorem dX8_weigh_45 : decode cX8_weigh 45 = .ok (.goto 10, 3) := by decide +kernel
theorem dX8_weigh_48 : decode cX8_weigh 48 = .ok (.aload_n 0, 1) := by decide +kernel
theorem dX8_weigh_49 : decode cX8_weigh 49 = .ok (.getfield 40, 3) := by decide +kernel
theorem dX8_weigh_52 : decode cX8_weigh 52 = .ok (.getfield 207, 3) := by decide +kernel
theorem dX8_weigh_55 : decode cX8_weigh 55 = .ok (.ireturn, 1) := by decide +kernel
abbrev cxX8_weigh (G : Rg) (X : Ct) : Prop := Cx G X cX8_weigh 2 RX8 (some .int) 4 92 (Cond.code yX8_weigh cX8_weigh 2 (some .int))
def fX8_weigh (x1 : Int32) (M : Mm) : Option (Int32 × Mm) :=
bd (fX8_isWithin x1 (nI 0) (nI 1) M) fun r1 M1 =>
if r1 = (nI 0) then
(some ((mI 2), M1))
else
(bd (fX6_find 1 M1) fun _ M3 =>
bd (fX6_choosePair 1 M3) fun _ M4 =>
if x1 = (nI 0) then
(some ((M4.1 20 1), M4))
else
(some ((M4.1 20 2), M4)))
set_option maxHeartbeats 4000000 in
set_option maxRecDepth 100000 in
theorem mX8_weigh (l : Launch) {G : Rg} (hG : gS G = shX) {x1 : Int32}  {M Mf : Mm} {r : Int32} (hf : fX8_weigh x1 M = some (r, Mf)) : Mt l G yX8_weigh cX8_weigh 2 (some .int) 4 92 [.ref (gA G 0), .int x1] M (some (.int r)) Mf := by
  refine Mt.of (by decide) (Nat.le_of_ble_eq_true rfl) ?_
  intro X C hX
  subst hX
  have C : cxX8_weigh G X := C
  show V G X 2 (some (.int r)) Mf 0 [(0, .ref (gA G 0)), (1, .int x1)] [] M
  rw [fX8_weigh] at hf
  refine V.iload_n (pc := 0) C 1 rfl dX8_weigh_0 ?_
  refine V.iconst (pc := 1) C (nI 0) (by decide) dX8_weigh_1 ?_
  refine V.iconst (pc := 2) C (nI 1) (by decide) dX8_weigh_2 ?_
  obtain ⟨r1, M1, h1, hf⟩ := bd_some hf
  refine V.callSi (pc := 3) (As := [.int x1, .int (nI 0), .int (nI 1)]) (rest := []) C (mX8_isWithin X.2.1 hG  h1) mf_X8_isWithin wM_X8_73 rfl rfl ⟨by decide, by decide⟩ (Nat.le_of_ble_eq_true rfl) dX8_weigh_3 ?_
  rcases it_some hf with ⟨h2, hf⟩ | ⟨h2, hf⟩
  · refine V.if_neF (pc := 6) C 12 h2 (by decide) dX8_weigh_6 ?_
    refine V.bipush (pc := 9) C (mI 2) (by decide) dX8_weigh_9 ?_
    exact V.retI (pc := 11) C hf dX8_weigh_11
  · refine V.if_neT (pc := 6) C 12 h2 (by decide) dX8_weigh_6 ?_
    refine V.aload_n (pc := 12) C 0 rfl dX8_weigh_12 ?_
    refine V.getR (pc := 13) C clX8 inX8 (sx_0 hG) 4 (by decide) wF_X8_40 rfl dX8_weigh_13 ?_
    refine V.aload_n (pc := 16) C 0 rfl dX8_weigh_16 ?_
    refine V.getR (pc := 17) C clX8 inX8 (sx_0 hG) 0 (by decide) wF_X8_12 rfl dX8_weigh_17 ?_
    obtain ⟨_, M3, h3, hf⟩ := bd_some hf
    refine V.callVv (pc := 20) (As := [.ref (gA G 1)]) (rest := []) C (mX6_find X.2.1 hG (bx_1 hG) h3) mf_X6_find clX6 (sx_20 hG) wM_X8_191 rfl rfl ⟨by decide, by decide⟩ (Nat.le_of_ble_eq_true rfl) dX8_weigh_20 ?_
    refine V.aload_n (pc := 23) C 0 rfl dX8_weigh_23 ?_
    refine V.getR (pc := 24) C clX8 inX8 (sx_0 hG) 4 (by decide) wF_X8_40 rfl dX8_weigh_24 ?_
    refine V.aload_n (pc := 27) C 0 rfl dX8_weigh_27 ?_
    refine V.getR (pc := 28) C clX8 inX8 (sx_0 hG) 0 (by decide) wF_X8_12 rfl dX8_weigh_28 ?_
    obtain ⟨_, M4, h4, hf⟩ := bd_some hf
    refine V.callVv (pc := 31) (As := [.ref (gA G 1)]) (rest := []) C (mX6_choosePair X.2.1 hG (bx_1 hG) h4) mf_X6_choosePair clX6 (sx_20 hG) wM_X8_201 rfl rfl ⟨by decide, by decide⟩ (Nat.le_of_ble_eq_true rfl) dX8_weigh_31 ?_
    refine V.iload_n (pc := 34) C 1 rfl dX8_weigh_34 ?_
    rcases it_some hf with ⟨h5, hf⟩ | ⟨h5, hf⟩
    · refine V.if_neF (pc := 35) C 48 h5 (by decide) dX8_weigh_35 ?_
      refine V.aload_n (pc := 38) C 0 rfl dX8_weigh_38 ?_
      refine V.getR (pc := 39) C clX8 inX8 (sx_0 hG) 4 (by decide) wF_X8_40 rfl dX8_weigh_39 ?_
      refine V.getI (pc := 42) C clX6 inX6 (sx_20 hG) 1 (by decide) wF_X8_204 rfl dX8_weigh_42 ?_
      refine V.goto (pc := 45) C 55 (by decide) dX8_weigh_45 ?_
      exact V.retI (pc := 55) C hf dX8_weigh_55
    · refine V.if_neT (pc := 35) C 48 h5 (by decide) dX8_weigh_35 ?_
      refine V.aload_n (pc := 48) C 0 rfl dX8_weigh_48 ?_
      refine V.getR (pc := 49) C clX8 inX8 (sx_0 hG) 4 (by decide) wF_X8_40 rfl dX8_weigh_49 ?_
      refine V.getI (pc := 52) C clX6 inX6 (sx_20 hG) 2 (by decide) wF_X8_207 rfl dX8_weigh_52 ?_
      exact V.retI (pc := 55) C hf dX8_weigh_55
theorem dX1_spread_0 : decode cX1_spread 0 = .ok (.aload_n 0, 1) := by decide +kernel
theorem dX1_spread_1 : decode cX1_spread 1 = .ok (.iload_n 1, 1) := by decide +kernel
theorem dX1_spread_2 : decode cX1_spread 2 = .ok (.bipush 12, 2) := by decide +kernel
theorem dX1_spread_4 : decode cX1_spread 4 = .ok (.invokestatic 15, 3) := by decide +kernel
theorem dX1_spread_7 : decode cX1_spread 7 = .ok (.putfield 21, 3) := by decide +kernel
theorem dX1_spread_10 : decode cX1_spread 10 = .ok (.aload_n 0, 1) := by decide +kernel
theorem dX1_spread_11 : decode cX1_spread 11 = .ok (.lconst 1, 1) := by decide +kernel
theorem dX1_spread_12 : decode cX1_spread 12 = .ok (.putfield 25, 3) := by decide +kernel
theorem dX1_spread_15 : decode cX1_spread 15 = .ok (.aload_n 0, 1) := by decide +kernel
theorem dX1_spread_16 : decode cX1_spread 16 = .ok (.getfield 9, 3) := by decide +kernel
theorem dX1_spread_19 : decode cX1_spread 19 = .ok (.lconst 0, 1) := by decide +kernel
theorem dX1_spread_20 : decode cX1_spread 20 = .ok (.invokestatic 29, 3) := by decide +kernel
theorem dX1_spread_23 : decode cX1_spread 23 = .ok (.aload_n 0, 1) := by decide +kernel
theorem dX1_spread_24 : decode cX1_spread 24 = .ok (.getfield 9, 3) := by decide +kernel
theorem dX1_spread_27 : decode cX1_spread 27 = .ok (.iconst 0, 1) := by decide +kernel
theorem dX1_spread_28 : decode cX1_spread 28 = .ok (.lconst 1, 1) := by decide +kernel
theorem dX1_spread_29 : decode cX1_spread 29 = .ok (.lastore, 1) := by decide +kernel
theorem dX1_spread_30 : decode cX1_spread 30 = .ok (.iconst 1, 1) := by decide +kernel
theorem dX1_spread_31 : decode cX1_spread 31 = .ok (.istore_n 3, 1) := by decide +kernel
theorem dX1_spread_32 : decode cX1_spread 32 = .ok (.iload_n 3, 1) := by decide +kernel
theorem dX1_spread_33 : decode cX1_spread 33 = .ok (.aload_n 0, 1) := by decide +kernel
theorem dX1_spread_34 : decode cX1_spread 34 = .ok (.getfield 21, 3) := by decide +kernel
theorem dX1_spread_37 : decode cX1_spread 37 = .ok (.if_icmp .gt 82, 3) := by decide +kernel
theorem dX1_spread_40 : decode cX1_spread 40 = .ok (.iload_n 3, 1) := by decide +kernel
theorem dX1_spread_41 : decode cX1_spread 41 = .ok (.istore 4, 2) := by decide +kernel
theorem dX1_spread_43 : decode cX1_spread 43 = .ok (.iload 4, 2) := by decide +kernel
theorem dX1_spread_45 : decode cX1_spread 45 = .ok (.ifCond .le 42, 3) := by decide +kernel
theorem dX1_spread_48 : decode cX1_spread 48 = .ok (.aload_n 0, 1) := by decide +kernel
theorem dX1_spread_49 : decode cX1_spread 49 = .ok (.getfield 9, 3) := by decide +kernel
theorem dX1_spread_52 : decode cX1_spread 52 = .ok (.iload 4, 2) := by decide +kernel
theorem dX1_spread_54 : decode cX1_spread 54 = .ok (.aload_n 0, 1) := by decide +kernel
theorem dX1_spread_55 : decode cX1_spread 55 = .ok (.getfield 9, 3) := by decide +kernel
theorem dX1_spread_58 : decode cX1_spread 58 = .ok (.iload 4, 2) := by decide +kernel
theorem dX1_spread_60 : decode cX1_spread 60 = .ok (.laload, 1) := by decide +kernel
theorem dX1_spread_61 : decode cX1_spread 61 = .ok (.bipush 10, 2) := by decide +kernel
theorem dX1_spread_63 : decode cX1_spread 63 = .ok (.iload_n 2, 1) := by decide +kernel
theorem dX1_spread_64 : decode cX1_spread 64 = .ok (.isub, 1) := by decide +kernel
theorem dX1_spread_65 : decode cX1_spread 65 = .ok (.i2l, 1) := by decide +kernel
theorem dX1_spread_66 : decode cX1_spread 66 = .ok (.lmul, 1) := by decide +kernel
theorem dX1_spread_67 : decode cX1_spread 67 = .ok (.aload_n 0, 1) := by decide +kernel
theorem dX1_spread_68 : decode cX1_spread 68 = .ok (.getfield 9, 3) := by decide +kernel
theorem dX1_spread_71 : decode cX1_spread 71 = .ok (.iload 4, 2) := by decide +kernel
theorem dX1_spread_73 : decode cX1_spread 73 = .ok (.iconst 1, 1) := by decide +kernel
theorem dX1_spread_74 : decode cX1_spread 74 = .ok (.isub, 1) := by decide +kernel
theorem dX1_spread_75 : decode cX1_spread 75 = .ok (.laload, 1) := by decide +kernel
theorem dX1_spread_76 : decode cX1_spread 76 = .ok (.iload_n 2, 1) := by decide +kernel
theorem dX1_spread_77 : decode cX1_spread 77 = .ok (.i2l, 1) := by decide +kernel
theorem dX1_spread_78 : decode cX1_spread 78 = .ok (.lmul, 1) := by decide +kernel
theorem dX1_spread_79 : decode cX1_spread 79 = .ok (.ladd, 1) := by decide +kernel
theorem dX1_spread_80 : decode cX1_spread 80 = .ok (.lastore, 1) := by decide +kernel
theorem dX1_spread_81 : decode cX1_spread 81 = .ok (.iinc 4 (-1), 3) := by decide +kernel
theorem dX1_spread_84 : decode cX1_spread 84 = .ok (.goto (-41), 3) := by decide +kernel
theorem dX1_spread_87 : decode cX1_spread 87 = .ok (.aload_n 0, 1) := by decide +kernel
theorem dX1_spread_88 : decode cX1_spread 88 = .ok (.getfield 9, 3) := by decide +kernel
theorem dX1_spread_91 : decode cX1_spread 91 = .ok (.iconst 0, 1) := by decide +kernel
theorem dX1_spread_92 : decode cX1_spread 92 = .ok (.dup2, 1) := by decide +kernel
theorem dX1_spread_93 : decode cX1_spread 93 = .ok (.laload, 1) := by decide +kernel
theorem dX1_spread_94 : decode cX1_spread 94 = .ok (.bipush 10, 2) := by decide +kernel
theorem dX1_spread_96 : decode cX1_spread 96 = .ok (.iload_n 2, 1) := by decide +kernel
theorem dX1_spread_97 : decode cX1_spread 97 = .ok (.isub, 1) := by decide +kernel
theorem dX1_spread_98 : decode cX1_spread 98 = .ok (.i2l, 1) := by decide +kernel
theorem dX1_spread_99 : decode cX1_spread 99 = .ok (.lmul, 1) := by decide +kernel
theorem dX1_spread_100 : decode cX1_spread 100 = .ok (.lastore, 1) := by decide +kernel
theorem dX1_spread_101 : decode cX1_spread 101 = .ok (.aload_n 0, 1) := by decide +kernel
theorem dX1_spread_102 : decode cX1_spread 102 = .ok (.dup, 1) := by decide +kernel
theorem dX1_spread_103 : decode cX1_spread 103 = .ok (.getfield 25, 3) := by decide +kernel
theorem dX1_spread_106 : decode cX1_spread 106 = .ok (.ldc2_w 35, 3) := by decide +kernel
theorem dX1_spread_109 : decode cX1_spread 109 = .ok (.lmul, 1) := by decide +kernel
theorem dX1_spread_110 : decode cX1_spread 110 = .ok (.putfield 25, 3) := by decide +kernel
theorem dX1_spread_113 : decode cX1_spread 113 = .ok (.iinc 3 1, 3) := by decide +kernel
theorem dX1_spread_116 : decode cX1_spread 116 = .ok (.goto (-84), 3) := by decide +kernel
theorem dX1_spread_119 : decode cX1_spread 119 = .ok (.return_, 1) := by decide +kernel
abbrev cxX1_spread (G : Rg) (X : Ct) : Prop := Cx G X cX1_spread 5 RX1 (none) 1 40 (Cond.code yX1_spread cX1_spread 5 (none))
def fX1_spread_b87 (nx32 : Int32 → Int32 → Mm → Option (Unit × Mm))  (v2 : Int32) (v3 : Int32) (M : Mm) : Option (Unit × Mm) :=
nx32 v2 (v3 + (nI 1)) (sL (sL M 25 (nI 0).toNatClampNeg ((M.2 25 (nI 0).toNatClampNeg) * ((nI 10) - v2).toInt64)) 24 2 (((sL M 25 (nI 0).toNatClampNeg ((M.2 25 (nI 0).toNatClampNeg) * ((nI 10) - v2).toInt64)).2 24 2) * (lN 10)))
set_option maxHeartbeats 4000000 in
set_option maxRecDepth 100000 in
theorem vX1_spread_b87 {G : Rg} {X : Ct} {r : Unit} {Mf : Mm}  {nx32 : Int32 → Int32 → Mm → Option (Unit × Mm)} (C : cxX1_spread G X) (hG : gS G = shX)  (hx32 : ∀ (v2 : Int32) (v3 : Int32) (M : Mm), nx32 v2 v3 M = some (r, Mf) → V G X 5 none Mf 32 [(0, .ref (gA G 24)), (2, .int v2), (3, .int v3)] [] M) (v2 : Int32) (v3 : Int32) (M : Mm) (hf : fX1_spread_b87 nx32 v2 v3 M = some (r, Mf)) : V G X 5 none Mf 87 [(0, .ref (gA G 24)), (2, .int v2), (3, .int v3)] [] M := by
  rw [fX1_spread_b87] at hf
  refine V.aload_n (pc := 87) C 0 rfl dX1_spread_87 ?_
  refine V.getR (pc := 88) C clX1 inX1 (sx_24 hG) 0 (by decide) wF_X1_9 rfl dX1_spread_88 ?_
  refine V.iconst (pc := 91) C (nI 0) (by decide) dX1_spread_91 ?_
  refine V.dup2 (pc := 92) C rfl rfl dX1_spread_92 ?_
  refine V.lald (pc := 93) C (sx_25 hG) (inb_in (by decide)) dX1_spread_93 ?_
  refine V.bipush (pc := 94) C (nI 10) (by decide) dX1_spread_94 ?_
  refine V.iload_n (pc := 96) C 1 rfl dX1_spread_96 ?_
  refine V.isub (pc := 97) C dX1_spread_97 ?_
  refine V.i2l (pc := 98) C dX1_spread_98 ?_
  refine V.lmul (pc := 99) C dX1_spread_99 ?_
  refine V.last (pc := 100) C (sx_25 hG) (inb_in (by decide)) dX1_spread_100 ?_
  refine V.aload_n (pc := 101) C 0 rfl dX1_spread_101 ?_
  refine V.dup (pc := 102) C rfl dX1_spread_102 ?_
  refine V.getJ (pc := 103) C clX1 inX1 (sx_24 hG) 2 (by decide) wF_X1_25 rfl dX1_spread_103 ?_
  refine V.ldc2 (pc := 106) C wL_X1_35 dX1_spread_106 ?_
  refine V.lmul (pc := 109) C dX1_spread_109 ?_
  refine V.putJ (pc := 110) C clX1 inX1 (sx_24 hG) 2 (by decide) wF_X1_25 tyX1 tyX1_ok nmX1 rfl (tyX1_ok 2 (by decide)) rfl dX1_spread_110 ?_
  refine V.iinc (pc := 113) (lv' := [(3, .int (v3 + (nI 1))), (0, .ref (gA G 24)), (2, .int v2)]) C (v3 + (nI 1)) 2 rfl rfl (by decide) rfl dX1_spread_113 ?_
  refine V.goto (pc := 116) C 32 (by decide) dX1_spread_116 ?_
  refine V.sub C [1, 2, 0] (lv' := [(0, .ref (gA G 24)), (2, .int v2), (3, .int (v3 + (nI 1)))]) rfl ?_
  exact hx32 _ _ _ hf
def fX1_spread_b43 (nx32 : Int32 → Int32 → Mm → Option (Unit × Mm))  : Nat → Int32 → Int32 → Int32 → Mm → Option (Unit × Mm)
  | 0, _, _, _, _ => none
  | n + 1, v2, v3, v4, M =>
    if v4 ≤ (nI 0) then
    (fX1_spread_b87 nx32 v2 v3 M)
    else
    (gd (inb v4 13) (
    gd (inb (v4 - (nI 1)) 13) (
    gd (inb v4 13) (
    fX1_spread_b43 nx32 n v2 v3 (v4 + (mI 1)) (sL M 25 v4.toNatClampNeg (((M.2 25 v4.toNatClampNeg) * ((nI 10) - v2).toInt64) + ((M.2 25 (v4 - (nI 1)).toNatClampNeg) * v2.toInt64)))))))
set_option maxHeartbeats 4000000 in
set_option maxRecDepth 100000 in
theorem vX1_spread_b43 {G : Rg} {X : Ct} {r : Unit} {Mf : Mm}  {nx32 : Int32 → Int32 → Mm → Option (Unit × Mm)} (C : cxX1_spread G X) (hG : gS G = shX)  (hx32 : ∀ (v2 : Int32) (v3 : Int32) (M : Mm), nx32 v2 v3 M = some (r, Mf) → V G X 5 none Mf 32 [(0, .ref (gA G 24)), (2, .int v2), (3, .int v3)] [] M) : ∀ (n : Nat) (v2 : Int32) (v3 : Int32) (v4 : Int32) (M : Mm), fX1_spread_b43 nx32 n v2 v3 v4 M = some (r, Mf) → V G X 5 none Mf 43 [(0, .ref (gA G 24)), (2, .int v2), (3, .int v3), (4, .int v4)] [] M := by
  intro n
  induction n with
  | zero => intro v2 v3 v4 M hf; rw [fX1_spread_b43] at hf; cases hf
  | succ n ih =>
    intro v2 v3 v4 M hf
    rw [fX1_spread_b43] at hf
    refine V.iload (pc := 43) C 3 rfl dX1_spread_43 ?_
    rcases it_some hf with ⟨h1, hf⟩ | ⟨h1, hf⟩
    · refine V.if_leT (pc := 45) C 87 h1 (by decide) dX1_spread_45 ?_
      refine V.sub C [0, 1, 2] (lv' := [(0, .ref (gA G 24)), (2, .int v2), (3, .int v3)]) rfl ?_
      exact vX1_spread_b87 C hG  hx32  _ _ _ hf
    · refine V.if_leF (pc := 45) C 87 h1 (by decide) dX1_spread_45 ?_
      refine V.aload_n (pc := 48) C 0 rfl dX1_spread_48 ?_
      refine V.getR (pc := 49) C clX1 inX1 (sx_24 hG) 0 (by decide) wF_X1_9 rfl dX1_spread_49 ?_
      refine V.iload (pc := 52) C 3 rfl dX1_spread_52 ?_
      refine V.aload_n (pc := 54) C 0 rfl dX1_spread_54 ?_
      refine V.getR (pc := 55) C clX1 inX1 (sx_24 hG) 0 (by decide) wF_X1_9 rfl dX1_spread_55 ?_
      refine V.iload (pc := 58) C 3 rfl dX1_spread_58 ?_
      obtain ⟨g2, hf⟩ := gd_some hf
      refine V.lald (pc := 60) C (sx_25 hG) (inb_in g2) dX1_spread_60 ?_
      refine V.bipush (pc := 61) C (nI 10) (by decide) dX1_spread_61 ?_
      refine V.iload_n (pc := 63) C 1 rfl dX1_spread_63 ?_
      refine V.isub (pc := 64) C dX1_spread_64 ?_
      refine V.i2l (pc := 65) C dX1_spread_65 ?_
      refine V.lmul (pc := 66) C dX1_spread_66 ?_
      refine V.aload_n (pc := 67) C 0 rfl dX1_spread_67 ?_
      refine V.getR (pc := 68) C clX1 inX1 (sx_24 hG) 0 (by decide) wF_X1_9 rfl dX1_spread_68 ?_
      refine V.iload (pc := 71) C 3 rfl dX1_spread_71 ?_
      refine V.iconst (pc := 73) C (nI 1) (by decide) dX1_spread_73 ?_
      refine V.isub (pc := 74) C dX1_spread_74 ?_
      obtain ⟨g3, hf⟩ := gd_some hf
      refine V.lald (pc := 75) C (sx_25 hG) (inb_in g3) dX1_spread_75 ?_
      refine V.iload_n (pc := 76) C 1 rfl dX1_spread_76 ?_
      refine V.i2l (pc := 77) C dX1_spread_77 ?_
      refine V.lmul (pc := 78) C dX1_spread_78 ?_
      refine V.ladd (pc := 79) C dX1_spread_79 ?_
      obtain ⟨g4, hf⟩ := gd_some hf
      refine V.last (pc := 80) C (sx_25 hG) (inb_in g4) dX1_spread_80 ?_
      refine V.iinc (pc := 81) (lv' := [(4, .int (v4 + (mI 1))), (0, .ref (gA G 24)), (2, .int v2), (3, .int v3)]) C (v4 + (mI 1)) 3 rfl (congrArg (fun z => v4 + z) (by decide)) (by decide) rfl dX1_spread_81 ?_
      refine V.goto (pc := 84) C 43 (by decide) dX1_spread_84 ?_
      refine V.sub C [1, 2, 3, 0] (lv' := [(0, .ref (gA G 24)), (2, .int v2), (3, .int v3), (4, .int (v4 + (mI 1)))]) rfl ?_
      exact ih _ _ _ _ hf
def fX1_spread_b32   : Nat → Int32 → Int32 → Mm → Option (Unit × Mm)
  | 0, _, _, _ => none
  | n + 1, v2, v3, M =>
    if (M.1 24 1) < v3 then
    (some ((), M))
    else
    (fX1_spread_b43 (fX1_spread_b32  n) fu v2 v3 v3 M)
set_option maxHeartbeats 4000000 in
set_option maxRecDepth 100000 in
theorem vX1_spread_b32 {G : Rg} {X : Ct} {r : Unit} {Mf : Mm}   (C : cxX1_spread G X) (hG : gS G = shX)   : ∀ (n : Nat) (v2 : Int32) (v3 : Int32) (M : Mm), fX1_spread_b32 n v2 v3 M = some (r, Mf) → V G X 5 none Mf 32 [(0, .ref (gA G 24)), (2, .int v2), (3, .int v3)] [] M := by
  intro n
  induction n with
  | zero => intro v2 v3 M hf; rw [fX1_spread_b32] at hf; cases hf
  | succ n ih =>
    intro v2 v3 M hf
    rw [fX1_spread_b32] at hf
    refine V.iload_n (pc := 32) C 2 rfl dX1_spread_32 ?_
    refine V.aload_n (pc := 33) C 0 rfl dX1_spread_33 ?_
    refine V.getI (pc := 34) C clX1 inX1 (sx_24 hG) 1 (by decide) wF_X1_21 rfl dX1_spread_34 ?_
    rcases it_some hf with ⟨h1, hf⟩ | ⟨h1, hf⟩
    · refine V.ic_gtT (pc := 37) C 119 h1 (by decide) dX1_spread_37 ?_
      exact V.retV (pc := 119) C hf dX1_spread_119
    · refine V.ic_gtF (pc := 37) C 119 h1 (by decide) dX1_spread_37 ?_
      refine V.iload_n (pc := 40) C 2 rfl dX1_spread_40 ?_
      refine V.istore (pc := 41) (lv' := [(4, .int v3), (0, .ref (gA G 24)), (2, .int v2), (3, .int v3)]) C (by decide) rfl dX1_spread_41 ?_
      refine V.sub C [1, 2, 3, 0] (lv' := [(0, .ref (gA G 24)), (2, .int v2), (3, .int v3), (4, .int v3)]) rfl ?_
      exact vX1_spread_b43 C hG  ih fu _ _ _ _ hf
def fX1_spread (x1 : Int32) (x2 : Int32) (M : Mm) : Option (Unit × Mm) :=
bd (fJ7_fill_d0a16 25 13 (lN 0) (sL (sI M 24 1 (jmin x1 (nI 12))) 24 2 (lN 1))) fun _ M1 =>
fX1_spread_b32 fu x2 (nI 1) (sL M1 25 (nI 0).toNatClampNeg (lN 1))
set_option maxHeartbeats 4000000 in
set_option maxRecDepth 100000 in
theorem mX1_spread (l : Launch) {G : Rg} (hG : gS G = shX) {x1 : Int32} {x2 : Int32}  {M Mf : Mm} {r : Unit} (hf : fX1_spread x1 x2 M = some (r, Mf)) : Mt l G yX1_spread cX1_spread 5 (none) 1 40 [.ref (gA G 24), .int x1, .int x2] M none Mf := by
  refine Mt.of (by decide) (Nat.le_of_ble_eq_true rfl) ?_
  intro X C hX
  subst hX
  have C : cxX1_spread G X := C
  show V G X 5 none Mf 0 [(0, .ref (gA G 24)), (1, .int x1), (2, .int x2)] [] M
  rw [fX1_spread] at hf
  refine V.aload_n (pc := 0) C 0 rfl dX1_spread_0 ?_
  refine V.iload_n (pc := 1) C 1 rfl dX1_spread_1 ?_
  refine V.bipush (pc := 2) C (nI 12) (by decide) dX1_spread_2 ?_
  refine V.mmin (pc := 4) C mm_min wM_X1_15 (by decide) (Nat.le_of_ble_eq_true rfl) dX1_spread_4 ?_
  refine V.putI (pc := 7) C clX1 inX1 (sx_24 hG) 1 (by decide) wF_X1_21 tyX1 tyX1_ok nmX1 rfl (tyX1_ok 1 (by decide)) rfl dX1_spread_7 ?_
  refine V.aload_n (pc := 10) C 0 rfl dX1_spread_10 ?_
  refine V.lconst (pc := 11) C (lN 1) (by decide) dX1_spread_11 ?_
  refine V.putJ (pc := 12) C clX1 inX1 (sx_24 hG) 2 (by decide) wF_X1_25 tyX1 tyX1_ok nmX1 rfl (tyX1_ok 2 (by decide)) rfl dX1_spread_12 ?_
  refine V.aload_n (pc := 15) C 0 rfl dX1_spread_15 ?_
  refine V.getR (pc := 16) C clX1 inX1 (sx_24 hG) 0 (by decide) wF_X1_9 rfl dX1_spread_16 ?_
  refine V.lconst (pc := 19) C (lN 0) (by decide) dX1_spread_19 ?_
  obtain ⟨_, M1, h1, hf⟩ := bd_some hf
  refine V.callSv (pc := 20) (As := [.ref (gA G 25), .long (lN 0)]) (rest := []) C (mJ7_fill_d0a16 X.2.1 (sx_25 hG) h1) mf_J7_fill_d0a16 wM_X1_29 rfl rfl ⟨by decide, by decide⟩ (Nat.le_of_ble_eq_true rfl) dX1_spread_20 ?_
  refine V.aload_n (pc := 23) C 0 rfl dX1_spread_23 ?_
  refine V.getR (pc := 24) C clX1 inX1 (sx_24 hG) 0 (by decide) wF_X1_9 rfl dX1_spread_24 ?_
  refine V.iconst (pc := 27) C (nI 0) (by decide) dX1_spread_27 ?_
  refine V.lconst (pc := 28) C (lN 1) (by decide) dX1_spread_28 ?_
  refine V.last (pc := 29) C (sx_25 hG) (inb_in (by decide)) dX1_spread_29 ?_
  refine V.iconst (pc := 30) C (nI 1) (by decide) dX1_spread_30 ?_
  refine V.istore_n (pc := 31) (lv' := [(3, .int (nI 1)), (0, .ref (gA G 24)), (1, .int x1), (2, .int x2)]) C (by decide) rfl dX1_spread_31 ?_
  refine V.sub C [1, 3, 0] (lv' := [(0, .ref (gA G 24)), (2, .int x2), (3, .int (nI 1))]) rfl ?_
  exact vX1_spread_b32 C hG   fu _ _ _ hf
theorem dX1_trustSum_0 : decode cX1_trustSum 0 = .ok (.lconst 0, 1) := by decide +kernel
theorem dX1_trustSum_1 : decode cX1_trustSum 1 = .ok (.lstore_n 2, 1) := by decide +kernel
theorem dX1_trustSum_2 : decode cX1_trustSum 2 = .ok (.iconst 0, 1) := by decide +kernel
theorem dX1_trustSum_3 : decode cX1_trustSum 3 = .ok (.istore 4, 2) := by decide +kernel
theorem dX1_trustSum_5 : decode cX1_trustSum 5 = .ok (.iload 4, 2) := by decide +kernel
theorem dX1_trustSum_7 : decode cX1_trustSum 7 = .ok (.aload_n 0, 1) := by decide +kernel
theorem dX1_trustSum_8 : decode cX1_trustSum 8 = .ok (.getfield 21, 3) := by decide +kernel
theorem dX1_trustSum_11 : decode cX1_trustSum 11 = .ok (.if_icmp .gt 29, 3) := by decide +kernel
theorem dX1_trustSum_14 : decode cX1_trustSum 14 = .ok (.lload_n 2, 1) := by decide +kernel
theorem dX1_trustSum_15 : decode cX1_trustSum 15 = .ok (.aload_n 0, 1) := by decide +kernel
theorem dX1_trustSum_16 : decode cX1_trustSum 16 = .ok (.getfield 9, 3) := by decide +kernel
theorem dX1_trustSum_19 : decode cX1_trustSum 19 = .ok (.iload 4, 2) := by decide +kernel
theorem dX1_trustSum_21 : decode cX1_trustSum 21 = .ok (.laload, 1) := by decide +kernel
theorem dX1_trustSum_22 : decode cX1_trustSum 22 = .ok (.iconst 0, 1) := by decide +kernel
theorem dX1_trustSum_23 : decode cX1_trustSum 23 = .ok (.iload_n 1, 1) := by decide +kernel
theorem dX1_trustSum_24 : decode cX1_trustSum 24 = .ok (.iload 4, 2) := by decide +kernel
theorem dX1_trustSum_26 : decode cX1_trustSum 26 = .ok (.isub, 1) := by decide +kernel
theorem dX1_trustSum_27 : decode cX1_trustSum 27 = .ok (.invokestatic 37, 3) := by decide +kernel
theorem dX1_trustSum_30 : decode cX1_trustSum 30 = .ok (.i2l, 1) := by decide +kernel
theorem dX1_trustSum_31 : decode cX1_trustSum 31 = .ok (.lmul, 1) := by decide +kernel
theorem dX1_trustSum_32 : decode cX1_trustSum 32 = .ok (.ladd, 1) := by decide +kernel
theorem dX1_trustSum_33 : decode cX1_trustSum 33 = .ok (.lstore_n 2, 1) := by decide +kernel
theorem dX1_trustSum_34 : decode cX1_trustSum 34 = .ok (.iinc 4 1, 3) := by decide +kernel
theorem dX1_trustSum_37 : decode cX1_trustSum 37 = .ok (.goto (-32), 3) := by decide +kernel
theorem dX1_trustSum_40 : decode cX1_trustSum 40 = .ok (.lload_n 2, 1) := by decide +kernel
theorem dX1_trustSum_41 : decode cX1_trustSum 41 = .ok (.lreturn, 1) := by decide +kernel
abbrev cxX1_trustSum (G : Rg) (X : Ct) : Prop := Cx G X cX1_trustSum 5 RX1 (some .long) 1 40 (Cond.code yX1_trustSum cX1_trustSum 5 (some .long))
def fX1_trustSum_b5   : Nat → Int32 → Int64 → Int32 → Mm → Option (Int64 × Mm)
  | 0, _, _, _, _ => none
  | n + 1, v1, v2, v4, M =>
    if (M.1 24 1) < v4 then
    (some (v2, M))
    else
    (gd (inb v4 13) (
    fX1_trustSum_b5  n v1 (v2 + ((M.2 25 v4.toNatClampNeg) * (jmax (nI 0) (v1 - v4)).toInt64)) (v4 + (nI 1)) M))
set_option maxHeartbeats 4000000 in
set_option maxRecDepth 100000 in
theorem vX1_trustSum_b5 {G : Rg} {X : Ct} {r : Int64} {Mf : Mm}   (C : cxX1_trustSum G X) (hG : gS G = shX)   : ∀ (n : Nat) (v1 : Int32) (v2 : Int64) (v4 : Int32) (M : Mm), fX1_trustSum_b5 n v1 v2 v4 M = some (r, Mf) → V G X 5 (some (.long r)) Mf 5 [(0, .ref (gA G 24)), (1, .int v1), (2, .long v2), (4, .int v4)] [] M := by
  intro n
  induction n with
  | zero => intro v1 v2 v4 M hf; rw [fX1_trustSum_b5] at hf; cases hf
  | succ n ih =>
    intro v1 v2 v4 M hf
    rw [fX1_trustSum_b5] at hf
    refine V.iload (pc := 5) C 3 rfl dX1_trustSum_5 ?_
    refine V.aload_n (pc := 7) C 0 rfl dX1_trustSum_7 ?_
    refine V.getI (pc := 8) C clX1 inX1 (sx_24 hG) 1 (by decide) wF_X1_21 rfl dX1_trustSum_8 ?_
    rcases it_some hf with ⟨h1, hf⟩ | ⟨h1, hf⟩
    · refine V.ic_gtT (pc := 11) C 40 h1 (by decide) dX1_trustSum_11 ?_
      refine V.lload_n (pc := 40) C 2 rfl dX1_trustSum_40 ?_
      exact V.retL (pc := 41) C hf dX1_trustSum_41
    · refine V.ic_gtF (pc := 11) C 40 h1 (by decide) dX1_trustSum_11 ?_
      refine V.lload_n (pc := 14) C 2 rfl dX1_trustSum_14 ?_
      refine V.aload_n (pc := 15) C 0 rfl dX1_trustSum_15 ?_
      refine V.getR (pc := 16) C clX1 inX1 (sx_24 hG) 0 (by decide) wF_X1_9 rfl dX1_trustSum_16 ?_
      refine V.iload (pc := 19) C 3 rfl dX1_trustSum_19 ?_
      obtain ⟨g2, hf⟩ := gd_some hf
      refine V.lald (pc := 21) C (sx_25 hG) (inb_in g2) dX1_trustSum_21 ?_
      refine V.iconst (pc := 22) C (nI 0) (by decide) dX1_trustSum_22 ?_
      refine V.iload_n (pc := 23) C 1 rfl dX1_trustSum_23 ?_
      refine V.iload (pc := 24) C 3 rfl dX1_trustSum_24 ?_
      refine V.isub (pc := 26) C dX1_trustSum_26 ?_
      refine V.mmax (pc := 27) C mm_max wM_X1_37 (by decide) (Nat.le_of_ble_eq_true rfl) dX1_trustSum_27 ?_
      refine V.i2l (pc := 30) C dX1_trustSum_30 ?_
      refine V.lmul (pc := 31) C dX1_trustSum_31 ?_
      refine V.ladd (pc := 32) C dX1_trustSum_32 ?_
      refine V.lstore_n (pc := 33) (lv' := [(2, .long (v2 + ((M.2 25 v4.toNatClampNeg) * (jmax (nI 0) (v1 - v4)).toInt64))), (0, .ref (gA G 24)), (1, .int v1), (4, .int v4)]) C (by decide) rfl dX1_trustSum_33 ?_
      refine V.iinc (pc := 34) (lv' := [(4, .int (v4 + (nI 1))), (2, .long (v2 + ((M.2 25 v4.toNatClampNeg) * (jmax (nI 0) (v1 - v4)).toInt64))), (0, .ref (gA G 24)), (1, .int v1)]) C (v4 + (nI 1)) 3 rfl rfl (by decide) rfl dX1_trustSum_34 ?_
      refine V.goto (pc := 37) C 5 (by decide) dX1_trustSum_37 ?_
      refine V.sub C [2, 3, 1, 0] (lv' := [(0, .ref (gA G 24)), (1, .int v1), (2, .long (v2 + ((M.2 25 v4.toNatClampNeg) * (jmax (nI 0) (v1 - v4)).toInt64))), (4, .int (v4 + (nI 1)))]) rfl ?_
      exact ih _ _ _ _ hf
def fX1_trustSum (x1 : Int32) (M : Mm) : Option (Int64 × Mm) :=
fX1_trustSum_b5 fu x1 (lN 0) (nI 0) M
set_option maxHeartbeats 4000000 in
set_option maxRecDepth 100000 in
theorem mX1_trustSum (l : Launch) {G : Rg} (hG : gS G = shX) {x1 : Int32}  {M Mf : Mm} {r : Int64} (hf : fX1_trustSum x1 M = some (r, Mf)) : Mt l G yX1_trustSum cX1_trustSum 5 (some .long) 1 40 [.ref (gA G 24), .int x1] M (some (.long r)) Mf := by
  refine Mt.of (by decide) (Nat.le_of_ble_eq_true rfl) ?_
  intro X C hX
  subst hX
  have C : cxX1_trustSum G X := C
  show V G X 5 (some (.long r)) Mf 0 [(0, .ref (gA G 24)), (1, .int x1)] [] M
  rw [fX1_trustSum] at hf
  refine V.lconst (pc := 0) C (lN 0) (by decide) dX1_trustSum_0 ?_
  refine V.lstore_n (pc := 1) (lv' := [(2, .long (lN 0)), (0, .ref (gA G 24)), (1, .int x1)]) C (by decide) rfl dX1_trustSum_1 ?_
  refine V.iconst (pc := 2) C (nI 0) (by decide) dX1_trustSum_2 ?_
  refine V.istore (pc := 3) (lv' := [(4, .int (nI 0)), (2, .long (lN 0)), (0, .ref (gA G 24)), (1, .int x1)]) C (by decide) rfl dX1_trustSum_3 ?_
  refine V.sub C [2, 3, 1, 0] (lv' := [(0, .ref (gA G 24)), (1, .int x1), (2, .long (lN 0)), (4, .int (nI 0))]) rfl ?_
  exact vX1_trustSum_b5 C hG   fu _ _ _ _ hf
theorem dX1_waysToKeep_0 : decode cX1_waysToKeep 0 = .ok (.lconst 0, 1) := by decide +kernel
theorem dX1_waysToKeep_1 : decode cX1_waysToKeep 1 = .ok (.lstore_n 3, 1) := by decide +kernel
theorem dX1_waysToKeep_2 : decode cX1_waysToKeep 2 = .ok (.iconst 0, 1) := by decide +kernel
theorem dX1_waysToKeep_3 : decode cX1_waysToKeep 3 = .ok (.istore 5, 2) := by decide +kernel
theorem dX1_waysToKeep_5 : decode cX1_waysToKeep 5 = .ok (.iload 5, 2) := by decide +kernel
theorem dX1_waysToKeep_7 : decode cX1_waysToKeep 7 = .ok (.aload_n 0, 1) := by decide +kernel
theorem dX1_waysToKeep_8 : decode cX1_waysToKeep 8 = .ok (.getfield 21, 3) := by decide +kernel
theorem dX1_waysToKeep_11 : decode cX1_waysToKeep 11 = .ok (.if_icmp .gt 31, 3) := by decide +kernel
theorem dX1_waysToKeep_14 : decode cX1_waysToKeep 14 = .ok (.iconst 0, 1) := by decide +kernel
theorem dX1_waysToKeep_15 : decode cX1_waysToKeep 15 = .ok (.iload_n 1, 1) := by decide +kernel
theorem dX1_waysToKeep_16 : decode cX1_waysToKeep 16 = .ok (.iload 5, 2) := by decide +kernel
theorem dX1_waysToKeep_18 : decode cX1_waysToKeep 18 = .ok (.isub, 1) := by decide +kernel
theorem dX1_waysToKeep_19 : decode cX1_waysToKeep 19 = .ok (.invokestatic 37, 3) := by decide +kernel
theorem dX1_waysToKeep_22 : decode cX1_waysToKeep 22 = .ok (.iload_n 2, 1) := by decide +kernel
theorem dX1_waysToKeep_23 : decode cX1_waysToKeep 23 = .ok (.if_icmp .lt 13, 3) := by decide +kernel
theorem dX1_waysToKeep_26 : decode cX1_waysToKeep 26 = .ok (.lload_n 3, 1) := by decide +kernel
theorem dX1_waysToKeep_27 : decode cX1_waysToKeep 27 = .ok (.aload_n 0, 1) := by decide +kernel
theorem dX1_waysToKeep_28 : decode cX1_waysToKeep 28 = .ok (.getfield 9, 3) := by decide +kernel
theorem dX1_waysToKeep_31 : decode cX1_waysToKeep 31 = .ok (.iload 5, 2) := by decide +kernel
theorem dX1_waysToKeep_33 : decode cX1_waysToKeep 33 = .ok (.laload, 1) := by decide +kernel
theorem dX1_waysToKeep_34 : decode cX1_waysToKeep 34 = .ok (.ladd, 1) := by decide +kernel
theorem dX1_waysToKeep_35 : decode cX1_waysToKeep 35 = .ok (.lstore_n 3, 1) := by decide +kernel
theorem dX1_waysToKeep_36 : decode cX1_waysToKeep 36 = .ok (.iinc 5 1, 3) := by decide +kernel
theorem dX1_waysToKeep_39 : decode cX1_waysToKeep 39 = .ok (.goto (-34), 3) := by decide +kernel
theorem dX1_waysToKeep_42 : decode cX1_waysToKeep 42 = .ok (.lload_n 3, 1) := by decide +kernel
theorem dX1_waysToKeep_43 : decode cX1_waysToKeep 43 = .ok (.lreturn, 1) := by decide +kernel
abbrev cxX1_waysToKeep (G : Rg) (X : Ct) : Prop := Cx G X cX1_waysToKeep 6 RX1 (some .long) 1 40 (Cond.code yX1_waysToKeep cX1_waysToKeep 6 (some .long))
def fX1_waysToKeep_b5   : Nat → Int32 → Int32 → Int64 → Int32 → Mm → Option (Int64 × Mm)
  | 0, _, _, _, _, _ => none
  | n + 1, v1, v2, v3, v5, M =>
    if (M.1 24 1) < v5 then
    (some (v3, M))
    else
    (if (jmax (nI 0) (v1 - v5)) < v2 then
    (fX1_waysToKeep_b5  n v1 v2 v3 (v5 + (nI 1)) M)
    else
    (gd (inb v5 13) (
    fX1_waysToKeep_b5  n v1 v2 (v3 + (M.2 25 v5.toNatClampNeg)) (v5 + (nI 1)) M)))
set_option maxHeartbeats 4000000 in
set_option maxRecDepth 100000 in
theorem vX1_waysToKeep_b5 {G : Rg} {X : Ct} {r : Int64} {Mf : Mm}   (C : cxX1_waysToKeep G X) (hG : gS G = shX)   : ∀ (n : Nat) (v1 : Int32) (v2 : Int32) (v3 : Int64) (v5 : Int32) (M : Mm), fX1_waysToKeep_b5 n v1 v2 v3 v5 M = some (r, Mf) → V G X 6 (some (.long r)) Mf 5 [(0, .ref (gA G 24)), (1, .int v1), (2, .int v2), (3, .long v3), (5, .int v5)] [] M := by
  intro n
  induction n with
  | zero => intro v1 v2 v3 v5 M hf; rw [fX1_waysToKeep_b5] at hf; cases hf
  | succ n ih =>
    intro v1 v2 v3 v5 M hf
    rw [fX1_waysToKeep_b5] at hf
    refine V.iload (pc := 5) C 4 rfl dX1_waysToKeep_5 ?_
    refine V.aload_n (pc := 7) C 0 rfl dX1_waysToKeep_7 ?_
    refine V.getI (pc := 8) C clX1 inX1 (sx_24 hG) 1 (by decide) wF_X1_21 rfl dX1_waysToKeep_8 ?_
    rcases it_some hf with ⟨h1, hf⟩ | ⟨h1, hf⟩
    · refine V.ic_gtT (pc := 11) C 42 h1 (by decide) dX1_waysToKeep_11 ?_
      refine V.lload_n (pc := 42) C 3 rfl dX1_waysToKeep_42 ?_
      exact V.retL (pc := 43) C hf dX1_waysToKeep_43
    · refine V.ic_gtF (pc := 11) C 42 h1 (by decide) dX1_waysToKeep_11 ?_
      refine V.iconst (pc := 14) C (nI 0) (by decide) dX1_waysToKeep_14 ?_
      refine V.iload_n (pc := 15) C 1 rfl dX1_waysToKeep_15 ?_
      refine V.iload (pc := 16) C 4 rfl dX1_waysToKeep_16 ?_
      refine V.isub (pc := 18) C dX1_waysToKeep_18 ?_
      refine V.mmax (pc := 19) C mm_max wM_X1_37 (by decide) (Nat.le_of_ble_eq_true rfl) dX1_waysToKeep_19 ?_
      refine V.iload_n (pc := 22) C 2 rfl dX1_waysToKeep_22 ?_
      rcases it_some hf with ⟨h2, hf⟩ | ⟨h2, hf⟩
      · refine V.ic_ltT (pc := 23) C 36 h2 (by decide) dX1_waysToKeep_23 ?_
        refine V.iinc (pc := 36) (lv' := [(5, .int (v5 + (nI 1))), (0, .ref (gA G 24)), (1, .int v1), (2, .int v2), (3, .long v3)]) C (v5 + (nI 1)) 4 rfl rfl (by decide) rfl dX1_waysToKeep_36 ?_
        refine V.goto (pc := 39) C 5 (by decide) dX1_waysToKeep_39 ?_
        refine V.sub C [1, 2, 3, 4, 0] (lv' := [(0, .ref (gA G 24)), (1, .int v1), (2, .int v2), (3, .long v3), (5, .int (v5 + (nI 1)))]) rfl ?_
        exact ih _ _ _ _ _ hf
      · refine V.ic_ltF (pc := 23) C 36 h2 (by decide) dX1_waysToKeep_23 ?_
        refine V.lload_n (pc := 26) C 3 rfl dX1_waysToKeep_26 ?_
        refine V.aload_n (pc := 27) C 0 rfl dX1_waysToKeep_27 ?_
        refine V.getR (pc := 28) C clX1 inX1 (sx_24 hG) 0 (by decide) wF_X1_9 rfl dX1_waysToKeep_28 ?_
        refine V.iload (pc := 31) C 4 rfl dX1_waysToKeep_31 ?_
        obtain ⟨g3, hf⟩ := gd_some hf
        refine V.lald (pc := 33) C (sx_25 hG) (inb_in g3) dX1_waysToKeep_33 ?_
        refine V.ladd (pc := 34) C dX1_waysToKeep_34 ?_
        refine V.lstore_n (pc := 35) (lv' := [(3, .long (v3 + (M.2 25 v5.toNatClampNeg))), (0, .ref (gA G 24)), (1, .int v1), (2, .int v2), (5, .int v5)]) C (by decide) rfl dX1_waysToKeep_35 ?_
        refine V.iinc (pc := 36) (lv' := [(5, .int (v5 + (nI 1))), (3, .long (v3 + (M.2 25 v5.toNatClampNeg))), (0, .ref (gA G 24)), (1, .int v1), (2, .int v2)]) C (v5 + (nI 1)) 4 rfl rfl (by decide) rfl dX1_waysToKeep_36 ?_
        refine V.goto (pc := 39) C 5 (by decide) dX1_waysToKeep_39 ?_
        refine V.sub C [2, 3, 4, 1, 0] (lv' := [(0, .ref (gA G 24)), (1, .int v1), (2, .int v2), (3, .long (v3 + (M.2 25 v5.toNatClampNeg))), (5, .int (v5 + (nI 1)))]) rfl ?_
        exact ih _ _ _ _ _ hf
def fX1_waysToKeep (x1 : Int32) (x2 : Int32) (M : Mm) : Option (Int64 × Mm) :=
fX1_waysToKeep_b5 fu x1 x2 (lN 0) (nI 0) M
set_option maxHeartbeats 4000000 in
set_option maxRecDepth 100000 in
theorem mX1_waysToKeep (l : Launch) {G : Rg} (hG : gS G = shX) {x1 : Int32} {x2 : Int32}  {M Mf : Mm} {r : Int64} (hf : fX1_waysToKeep x1 x2 M = some (r, Mf)) : Mt l G yX1_waysToKeep cX1_waysToKeep 6 (some .long) 1 40 [.ref (gA G 24), .int x1, .int x2] M (some (.long r)) Mf := by
  refine Mt.of (by decide) (Nat.le_of_ble_eq_true rfl) ?_
  intro X C hX
  subst hX
  have C : cxX1_waysToKeep G X := C
  show V G X 6 (some (.long r)) Mf 0 [(0, .ref (gA G 24)), (1, .int x1), (2, .int x2)] [] M
  rw [fX1_waysToKeep] at hf
  refine V.lconst (pc := 0) C (lN 0) (by decide) dX1_waysToKeep_0 ?_
  refine V.lstore_n (pc := 1) (lv' := [(3, .long (lN 0)), (0, .ref (gA G 24)), (1, .int x1), (2, .int x2)]) C (by decide) rfl dX1_waysToKeep_1 ?_
  refine V.iconst (pc := 2) C (nI 0) (by decide) dX1_waysToKeep_2 ?_
  refine V.istore (pc := 3) (lv' := [(5, .int (nI 0)), (3, .long (lN 0)), (0, .ref (gA G 24)), (1, .int x1), (2, .int x2)]) C (by decide) rfl dX1_waysToKeep_3 ?_
  refine V.sub C [2, 3, 4, 1, 0] (lv' := [(0, .ref (gA G 24)), (1, .int x1), (2, .int x2), (3, .long (lN 0)), (5, .int (nI 0))]) rfl ?_
  exact vX1_waysToKeep_b5 C hG   fu _ _ _ _ _ hf
theorem dX1_commonDivisor_0 : decode cX1_commonDivisor 0 = .ok (.lload_n 0, 1) := by decide +kernel
theorem dX1_commonDivisor_1 : decode cX1_commonDivisor 1 = .ok (.lstore 4, 2) := by decide +kernel
theorem dX1_commonDivisor_3 : decode cX1_commonDivisor 3 = .ok (.lload_n 2, 1) := by decide +kernel
theorem dX1_commonDivisor_4 : decode cX1_commonDivisor 4 = .ok (.lstore 6, 2) := by decide +kernel
theorem dX1_commonDivisor_6 : decode cX1_commonDivisor 6 = .ok (.iconst 0, 1) := by decide +kernel
theorem dX1_commonDivisor_7 : decode cX1_commonDivisor 7 = .ok (.istore 8, 2) := by decide +kernel
theorem dX1_commonDivisor_9 : decode cX1_commonDivisor 9 = .ok (.iload 8, 2) := by decide +kernel
theorem dX1_commonDivisor_11 : decode cX1_commonDivisor 11 = .ok (.bipush 100, 2) := by decide +kernel
theorem dX1_commonDivisor_13 : decode cX1_commonDivisor 13 = .ok (.if_icmp .ge 31, 3) := by decide +kernel
theorem dX1_commonDivisor_16 : decode cX1_commonDivisor 16 = .ok (.lload 6, 2) := by decide +kernel
theorem dX1_commonDivisor_18 : decode cX1_commonDivisor 18 = .ok (.lconst 0, 1) := by decide +kernel
theorem dX1_commonDivisor_19 : decode cX1_commonDivisor 19 = .ok (.lcmp, 1) := by decide +kernel
theorem dX1_commonDivisor_20 : decode cX1_commonDivisor 20 = .ok (.ifCond .eq 24, 3) := by decide +kernel
theorem dX1_commonDivisor_23 : decode cX1_commonDivisor 23 = .ok (.lload 4, 2) := by decide +kernel
theorem dX1_commonDivisor_25 : decode cX1_commonDivisor 25 = .ok (.lload 6, 2) := by decide +kernel
theorem dX1_commonDivisor_27 : decode cX1_commonDivisor 27 = .ok (.lrem, 1) := by decide +kernel
theorem dX1_commonDivisor_28 : decode cX1_commonDivisor 28 = .ok (.lstore 9, 2) := by decide +kernel
theorem dX1_commonDivisor_30 : decode cX1_commonDivisor 30 = .ok (.lload 6, 2) := by decide +kernel
theorem dX1_commonDivisor_32 : decode cX1_commonDivisor 32 = .ok (.lstore 4, 2) := by decide +kernel
theorem dX1_commonDivisor_34 : decode cX1_commonDivisor 34 = .ok (.lload 9, 2) := by decide +kernel
theorem dX1_commonDivisor_36 : decode cX1_commonDivisor 36 = .ok (.lstore 6, 2) := by decide +kernel
theorem dX1_commonDivisor_38 : decode cX1_commonDivisor 38 = .ok (.iinc 8 1, 3) := by decide +kernel
theorem dX1_commonDivisor_41 : decode cX1_commonDivisor 41 = .ok (.goto (-32), 3) := by decide +kernel
theorem dX1_commonDivisor_44 : decode cX1_commonDivisor 44 = .ok (.lload 4, 2) := by decide +kernel
theorem dX1_commonDivisor_46 : decode cX1_commonDivisor 46 = .ok (.lreturn, 1) := by decide +kernel
abbrev cxX1_commonDivisor (G : Rg) (X : Ct) : Prop := Cx G X cX1_commonDivisor 11 RX1 (some .long) 0 0 (Cond.code yX1_commonDivisor cX1_commonDivisor 11 (some .long))
def fX1_commonDivisor_b9   : Nat → Int64 → Int64 → Int32 → Mm → Option (Int64 × Mm)
  | 0, _, _, _, _ => none
  | n + 1, v4, v6, v8, M =>
    if (nI 100) ≤ v8 then
    (some (v4, M))
    else
    (if (lg_cmp v6 (lN 0)) = (nI 0) then
    (some (v4, M))
    else
    (gd (decide (¬ v6 = lN 0)) (
    fX1_commonDivisor_b9  n v6 (jlrem v4 v6) (v8 + (nI 1)) M)))
set_option maxHeartbeats 4000000 in
set_option maxRecDepth 100000 in
theorem vX1_commonDivisor_b9 {G : Rg} {X : Ct} {r : Int64} {Mf : Mm}   (C : cxX1_commonDivisor G X) (hG : gS G = shX)   : ∀ (n : Nat) (v4 : Int64) (v6 : Int64) (v8 : Int32) (M : Mm), fX1_commonDivisor_b9 n v4 v6 v8 M = some (r, Mf) → V G X 11 (some (.long r)) Mf 9 [(4, .long v4), (6, .long v6), (8, .int v8)] [] M := by
  intro n
  induction n with
  | zero => intro v4 v6 v8 M hf; rw [fX1_commonDivisor_b9] at hf; cases hf
  | succ n ih =>
    intro v4 v6 v8 M hf
    rw [fX1_commonDivisor_b9] at hf
    refine V.iload (pc := 9) C 2 rfl dX1_commonDivisor_9 ?_
    refine V.bipush (pc := 11) C (nI 100) (by decide) dX1_commonDivisor_11 ?_
    rcases it_some hf with ⟨h1, hf⟩ | ⟨h1, hf⟩
    · refine V.ic_geT (pc := 13) C 44 h1 (by decide) dX1_commonDivisor_13 ?_
      refine V.lload (pc := 44) C 0 rfl dX1_commonDivisor_44 ?_
      exact V.retL (pc := 46) C hf dX1_commonDivisor_46
    · refine V.ic_geF (pc := 13) C 44 h1 (by decide) dX1_commonDivisor_13 ?_
      refine V.lload (pc := 16) C 1 rfl dX1_commonDivisor_16 ?_
      refine V.lconst (pc := 18) C (lN 0) (by decide) dX1_commonDivisor_18 ?_
      refine V.lcmp (pc := 19) C dX1_commonDivisor_19 ?_
      rcases it_some hf with ⟨h2, hf⟩ | ⟨h2, hf⟩
      · refine V.if_eqT (pc := 20) C 44 h2 (by decide) dX1_commonDivisor_20 ?_
        refine V.lload (pc := 44) C 0 rfl dX1_commonDivisor_44 ?_
        exact V.retL (pc := 46) C hf dX1_commonDivisor_46
      · refine V.if_eqF (pc := 20) C 44 h2 (by decide) dX1_commonDivisor_20 ?_
        refine V.lload (pc := 23) C 0 rfl dX1_commonDivisor_23 ?_
        refine V.lload (pc := 25) C 1 rfl dX1_commonDivisor_25 ?_
        obtain ⟨g3, hf⟩ := gd_some hf
        refine V.lrem (pc := 27) C (dec_some g3) dX1_commonDivisor_27 ?_
        refine V.lstore (pc := 28) (lv' := [(9, .long (jlrem v4 v6)), (4, .long v4), (6, .long v6), (8, .int v8)]) C (by decide) rfl dX1_commonDivisor_28 ?_
        refine V.lload (pc := 30) C 2 rfl dX1_commonDivisor_30 ?_
        refine V.lstore (pc := 32) (lv' := [(4, .long v6), (9, .long (jlrem v4 v6)), (6, .long v6), (8, .int v8)]) C (by decide) rfl dX1_commonDivisor_32 ?_
        refine V.lload (pc := 34) C 1 rfl dX1_commonDivisor_34 ?_
        refine V.lstore (pc := 36) (lv' := [(6, .long (jlrem v4 v6)), (4, .long v6), (9, .long (jlrem v4 v6)), (8, .int v8)]) C (by decide) rfl dX1_commonDivisor_36 ?_
        refine V.iinc (pc := 38) (lv' := [(8, .int (v8 + (nI 1))), (6, .long (jlrem v4 v6)), (4, .long v6), (9, .long (jlrem v4 v6))]) C (v8 + (nI 1)) 3 rfl rfl (by decide) rfl dX1_commonDivisor_38 ?_
        refine V.goto (pc := 41) C 9 (by decide) dX1_commonDivisor_41 ?_
        refine V.sub C [2, 1, 0] (lv' := [(4, .long v6), (6, .long (jlrem v4 v6)), (8, .int (v8 + (nI 1)))]) rfl ?_
        exact ih _ _ _ _ hf
def fX1_commonDivisor (x0 : Int64) (x2 : Int64) (M : Mm) : Option (Int64 × Mm) :=
fX1_commonDivisor_b9 fu x0 x2 (nI 0) M
set_option maxHeartbeats 4000000 in
set_option maxRecDepth 100000 in
theorem mX1_commonDivisor (l : Launch) {G : Rg} (hG : gS G = shX) {x0 : Int64} {x2 : Int64}  {M Mf : Mm} {r : Int64} (hf : fX1_commonDivisor x0 x2 M = some (r, Mf)) : Mt l G yX1_commonDivisor cX1_commonDivisor 11 (some .long) 0 0 [.long x0, .long x2] M (some (.long r)) Mf := by
  refine Mt.of (by decide) (Nat.le_of_ble_eq_true rfl) ?_
  intro X C hX
  subst hX
  have C : cxX1_commonDivisor G X := C
  show V G X 11 (some (.long r)) Mf 0 [(0, .long x0), (2, .long x2)] [] M
  rw [fX1_commonDivisor] at hf
  refine V.lload_n (pc := 0) C 0 rfl dX1_commonDivisor_0 ?_
  refine V.lstore (pc := 1) (lv' := [(4, .long x0), (0, .long x0), (2, .long x2)]) C (by decide) rfl dX1_commonDivisor_1 ?_
  refine V.lload_n (pc := 3) C 2 rfl dX1_commonDivisor_3 ?_
  refine V.lstore (pc := 4) (lv' := [(6, .long x2), (4, .long x0), (0, .long x0), (2, .long x2)]) C (by decide) rfl dX1_commonDivisor_4 ?_
  refine V.iconst (pc := 6) C (nI 0) (by decide) dX1_commonDivisor_6 ?_
  refine V.istore (pc := 7) (lv' := [(8, .int (nI 0)), (6, .long x2), (4, .long x0), (0, .long x0), (2, .long x2)]) C (by decide) rfl dX1_commonDivisor_7 ?_
  refine V.sub C [2, 1, 0] (lv' := [(4, .long x0), (6, .long x2), (8, .int (nI 0))]) rfl ?_
  exact vX1_commonDivisor_b9 C hG   fu _ _ _ _ hf
theorem dX1_lowestTerms_0 : decode cX1_lowestTerms 0 = .ok (.lload_n 1, 1) := by decide +kernel
theorem dX1_lowestTerms_1 : decode cX1_lowestTerms 1 = .ok (.aload_n 0, 1) := by decide +kernel
theorem dX1_lowestTerms_2 : decode cX1_lowestTerms 2 = .ok (.getfield 25, 3) := by decide +kernel
theorem dX1_lowestTerms_5 : decode cX1_lowestTerms 5 = .ok (.invokestatic 40, 3) := by decide +kernel
theorem dX1_lowestTerms_8 : decode cX1_lowestTerms 8 = .ok (.lstore 4, 2) := by decide +kernel
theorem dX1_lowestTerms_10 : decode cX1_lowestTerms 10 = .ok (.lload 4, 2) := by decide +kernel
theorem dX1_lowestTerms_12 : decode cX1_lowestTerms 12 = .ok (.lconst 0, 1) := by decide +kernel
theorem dX1_lowestTerms_13 : decode cX1_lowestTerms 13 = .ok (.lcmp, 1) := by decide +kernel
theorem dX1_lowestTerms_14 : decode cX1_lowestTerms 14 = .ok (.ifCond .ne 5, 3) := by decide +kernel
theorem dX1_lowestTerms_17 : decode cX1_lowestTerms 17 = .ok (.lconst 0, 1) := by decide +kernel
theorem dX1_lowestTerms_18 : decode cX1_lowestTerms 18 = .ok (.lreturn, 1) := by decide +kernel
theorem dX1_lowestTerms_19 : decode cX1_lowestTerms 19 = .ok (.iload_n 3, 1) := by decide +kernel
theorem dX1_lowestTerms_20 : decode cX1_lowestTerms 20 = .ok (.ifCond .ne 7, 3) := by decide +kernel
theorem dX1_lowestTerms_23 : decode cX1_lowestTerms 23 = .ok (.lload_n 1, 1) := by decide +kernel
theorem dX1_lowestTerms_24 : decode cX1_lowestTerms 24 = .ok (.goto 7, 3) := by decide +kernel
theorem dX1_lowestTerms_27 : decode cX1_lowestTerms 27 = .ok (.aload_n 0, 1) := by decide +kernel
theorem dX1_lowestTerms_28 : decode cX1_lowestTerms 28 = .ok (.getfield 25, 3) := by decide +kernel
theorem dX1_lowestTerms_31 : decode cX1_lowestTerms 31 = .ok (.lload 4, 2) := by decide +kernel
theorem dX1_lowestTerms_33 : decode cX1_lowestTerms 33 = .ok (.ldiv, 1) := by decide +kernel
theorem dX1_lowestTerms_34 : decode cX1_lowestTerms 34 = .ok (.lreturn, 1) := by decide +kernel
abbrev cxX1_lowestTerms (G : Rg) (X : Ct) : Prop := Cx G X cX1_lowestTerms 6 RX1 (some .long) 1 30 (Cond.code yX1_lowestTerms cX1_lowestTerms 6 (some .long))
def fX1_lowestTerms (x1 : Int64) (x3 : Int32) (M : Mm) : Option (Int64 × Mm) :=
bd (fX1_commonDivisor x1 (M.2 24 2) M) fun r1 M1 =>
if (lg_cmp r1 (lN 0)) = (nI 0) then
(some ((lN 0), M1))
else
(if x3 = (nI 0) then
(gd (decide (¬ r1 = lN 0)) (
some ((x1 / r1), M1)))
else
(gd (decide (¬ r1 = lN 0)) (
some (((M1.2 24 2) / r1), M1))))
set_option maxHeartbeats 4000000 in
set_option maxRecDepth 100000 in
theorem mX1_lowestTerms (l : Launch) {G : Rg} (hG : gS G = shX) {x1 : Int64} {x3 : Int32}  {M Mf : Mm} {r : Int64} (hf : fX1_lowestTerms x1 x3 M = some (r, Mf)) : Mt l G yX1_lowestTerms cX1_lowestTerms 6 (some .long) 1 30 [.ref (gA G 24), .long x1, .int x3] M (some (.long r)) Mf := by
  refine Mt.of (by decide) (Nat.le_of_ble_eq_true rfl) ?_
  intro X C hX
  subst hX
  have C : cxX1_lowestTerms G X := C
  show V G X 6 (some (.long r)) Mf 0 [(0, .ref (gA G 24)), (1, .long x1), (3, .int x3)] [] M
  rw [fX1_lowestTerms] at hf
  refine V.lload_n (pc := 0) C 1 rfl dX1_lowestTerms_0 ?_
  refine V.aload_n (pc := 1) C 0 rfl dX1_lowestTerms_1 ?_
  refine V.getJ (pc := 2) C clX1 inX1 (sx_24 hG) 2 (by decide) wF_X1_25 rfl dX1_lowestTerms_2 ?_
  obtain ⟨r1, M1, h1, hf⟩ := bd_some hf
  refine V.callSl (pc := 5) (As := [.long x1, .long (M.2 24 2)]) (rest := []) C (mX1_commonDivisor X.2.1 hG  h1) mf_X1_commonDivisor wM_X1_40 rfl rfl ⟨by decide, by decide⟩ (Nat.le_of_ble_eq_true rfl) dX1_lowestTerms_5 ?_
  refine V.lstore (pc := 8) (lv' := [(4, .long r1), (0, .ref (gA G 24)), (1, .long x1), (3, .int x3)]) C (by decide) rfl dX1_lowestTerms_8 ?_
  refine V.lload (pc := 10) C 0 rfl dX1_lowestTerms_10 ?_
  refine V.lconst (pc := 12) C (lN 0) (by decide) dX1_lowestTerms_12 ?_
  refine V.lcmp (pc := 13) C dX1_lowestTerms_13 ?_
  rcases it_some hf with ⟨h2, hf⟩ | ⟨h2, hf⟩
  · refine V.if_neF (pc := 14) C 19 h2 (by decide) dX1_lowestTerms_14 ?_
    refine V.lconst (pc := 17) C (lN 0) (by decide) dX1_lowestTerms_17 ?_
    exact V.retL (pc := 18) C hf dX1_lowestTerms_18
  · refine V.if_neT (pc := 14) C 19 h2 (by decide) dX1_lowestTerms_14 ?_
    refine V.iload_n (pc := 19) C 3 rfl dX1_lowestTerms_19 ?_
    rcases it_some hf with ⟨h3, hf⟩ | ⟨h3, hf⟩
    · refine V.if_neF (pc := 20) C 27 h3 (by decide) dX1_lowestTerms_20 ?_
      refine V.lload_n (pc := 23) C 2 rfl dX1_lowestTerms_23 ?_
      refine V.goto (pc := 24) C 31 (by decide) dX1_lowestTerms_24 ?_
      refine V.lload (pc := 31) C 0 rfl dX1_lowestTerms_31 ?_
      obtain ⟨g5, hf⟩ := gd_some hf
      refine V.ldiv (pc := 33) C (dec_some g5) dX1_lowestTerms_33 ?_
      exact V.retL (pc := 34) C hf dX1_lowestTerms_34
    · refine V.if_neT (pc := 20) C 27 h3 (by decide) dX1_lowestTerms_20 ?_
      refine V.aload_n (pc := 27) C 1 rfl dX1_lowestTerms_27 ?_
      refine V.getJ (pc := 28) C clX1 inX1 (sx_24 hG) 2 (by decide) wF_X1_25 rfl dX1_lowestTerms_28 ?_
      refine V.lload (pc := 31) C 0 rfl dX1_lowestTerms_31 ?_
      obtain ⟨g4, hf⟩ := gd_some hf
      refine V.ldiv (pc := 33) C (dec_some g4) dX1_lowestTerms_33 ?_
      exact V.retL (pc := 34) C hf dX1_lowestTerms_34
theorem dX8_broken_0 : decode cX8_broken 0 = .ok (.iload_n 1, 1) := by decide +kernel
theorem dX8_broken_1 : decode cX8_broken 1 = .ok (.iconst 0, 1) := by decide +kernel
theorem dX8_broken_2 : decode cX8_broken 2 = .ok (.bipush 10, 2) := by decide +kernel
theorem dX8_broken_4 : decode cX8_broken 4 = .ok (.invokestatic 73, 3) := by decide +kernel
theorem dX8_broken_7 : decode cX8_broken 7 = .ok (.ifCond .eq 22, 3) := by decide +kernel
theorem dX8_broken_10 : decode cX8_broken 10 = .ok (.iload_n 2, 1) := by decide +kernel
theorem dX8_broken_11 : decode cX8_broken 11 = .ok (.iconst (-1), 1) := by decide +kernel
theorem dX8_broken_12 : decode cX8_broken 12 = .ok (.bipush 9, 2) := by decide +kernel
theorem dX8_broken_14 : decode cX8_broken 14 = .ok (.invokestatic 73, 3) := by decide +kernel
theorem dX8_broken_17 : decode cX8_broken 17 = .ok (.ifCond .eq 12, 3) := by decide +kernel
theorem dX8_broken_20 : decode cX8_broken 20 = .ok (.iload_n 3, 1) := by decide +kernel
theorem dX8_broken_21 : decode cX8_broken 21 = .ok (.iconst 0, 1) := by decide +kernel
theorem dX8_broken_22 : decode cX8_broken 22 = .ok (.iconst 1, 1) := by decide +kernel
theorem dX8_broken_23 : decode cX8_broken 23 = .ok (.invokestatic 73, 3) := by decide +kernel
theorem dX8_broken_26 : decode cX8_broken 26 = .ok (.ifCond .ne 7, 3) := by decide +kernel
theorem dX8_broken_29 : decode cX8_broken 29 = .ok (.ldc2_w 210, 3) := by decide +kernel
theorem dX8_broken_32 : decode cX8_broken 32 = .ok (.lreturn, 1) := by decide +kernel
theorem dX8_broken_33 : decode cX8_broken 33 = .ok (.aload_n 0, 1) := by decide +kernel
theorem dX8_broken_34 : decode cX8_broken 34 = .ok (.getfield 47, 3) := by decide +kernel
theorem dX8_broken_37 : decode cX8_broken 37 = .ok (.aload_n 0, 1) := by decide +kernel
theorem dX8_broken_38 : decode cX8_broken 38 = .ok (.getfield 12, 3) := by decide +kernel
theorem dX8_broken_41 : decode cX8_broken 41 = .ok (.bipush 6, 2) := by decide +kernel
theorem dX8_broken_43 : decode cX8_broken 43 = .ok (.invokevirtual 134, 3) := by decide +kernel
theorem dX8_broken_46 : decode cX8_broken 46 = .ok (.invokestatic 85, 3) := by decide +kernel
theorem dX8_broken_49 : decode cX8_broken 49 = .ok (.iload_n 1, 1) := by decide +kernel
theorem dX8_broken_50 : decode cX8_broken 50 = .ok (.invokevirtual 212, 3) := by decide +kernel
theorem dX8_broken_53 : decode cX8_broken 53 = .ok (.iload_n 2, 1) := by decide +kernel
theorem dX8_broken_54 : decode cX8_broken 54 = .ok (.ifCond .ge 20, 3) := by decide +kernel
theorem dX8_broken_57 : decode cX8_broken 57 = .ok (.aload_n 0, 1) := by decide +kernel
theorem dX8_broken_58 : decode cX8_broken 58 = .ok (.getfield 47, 3) := by decide +kernel
theorem dX8_broken_61 : decode cX8_broken 61 = .ok (.aload_n 0, 1) := by decide +kernel
theorem dX8_broken_62 : decode cX8_broken 62 = .ok (.getfield 12, 3) := by decide +kernel
theorem dX8_broken_65 : decode cX8_broken 65 = .ok (.getfield 99, 3) := by decide +kernel
theorem dX8_broken_68 : decode cX8_broken 68 = .ok (.invokevirtual 215, 3) := by decide +kernel
theorem dX8_broken_71 : decode cX8_broken 71 = .ok (.goto 18, 3) := by decide +kernel
theorem dX8_broken_74 : decode cX8_broken 74 = .ok (.aload_n 0, 1) := by decide +kernel
theorem dX8_broken_75 : decode cX8_broken 75 = .ok (.getfield 47, 3) := by decide +kernel
theorem dX8_broken_78 : decode cX8_broken 78 = .ok (.aload_n 0, 1) := by decide +kernel
theorem dX8_broken_79 : decode cX8_broken 79 = .ok (.getfield 12, 3) := by decide +kernel
theorem dX8_broken_82 : decode cX8_broken 82 = .ok (.getfield 99, 3) := by decide +kernel
theorem dX8_broken_85 : decode cX8_broken 85 = .ok (.iload_n 2, 1) := by decide +kernel
theorem dX8_broken_86 : decode cX8_broken 86 = .ok (.invokevirtual 219, 3) := by decide +kernel
theorem dX8_broken_89 : decode cX8_broken 89 = .ok (.lstore 4, 2) := by decide +kernel
theorem dX8_broken_91 : decode cX8_broken 91 = .ok (.aload_n 0, 1) := by decide +kernel
theorem dX8_broken_92 : decode cX8_broken 92 = .ok (.getfield 47, 3) := by decide +kernel
theorem dX8_broken_95 : decode cX8_broken 95 = .ok (.lload 4, 2) := by decide +kernel
theorem dX8_broken_97 : decode cX8_broken 97 = .ok (.iload_n 3, 1) := by decide +kernel
theorem dX8_broken_98 : decode cX8_broken 98 = .ok (.invokevirtual 223, 3) := by decide +kernel
theorem dX8_broken_101 : decode cX8_broken 101 = .ok (.lreturn, 1) := by decide +kernel
abbrev cxX8_broken (G : Rg) (X : Ct) : Prop := Cx G X cX8_broken 6 RX8 (some .long) 2 65 (Cond.code yX8_broken cX8_broken 6 (some .long))
def fX8_broken_b89   (v3 : Int32) (s0 : Int64) (M : Mm) : Option (Int64 × Mm) :=
bd (fX1_lowestTerms s0 v3 M) fun r1 M1 =>
some (r1, M1)
set_option maxHeartbeats 4000000 in
set_option maxRecDepth 100000 in
theorem vX8_broken_b89 {G : Rg} {X : Ct} {r : Int64} {Mf : Mm}   (C : cxX8_broken G X) (hG : gS G = shX)   (v3 : Int32) (s0 : Int64) (M : Mm) (hf : fX8_broken_b89 v3 s0 M = some (r, Mf)) : V G X 6 (some (.long r)) Mf 89 [(0, .ref (gA G 0)), (3, .int v3)] [.long s0] M := by
  rw [fX8_broken_b89] at hf
  refine V.lstore (pc := 89) (lv' := [(4, .long s0), (0, .ref (gA G 0)), (3, .int v3)]) C (by decide) rfl dX8_broken_89 ?_
  refine V.aload_n (pc := 91) C 1 rfl dX8_broken_91 ?_
  refine V.getR (pc := 92) C clX8 inX8 (sx_0 hG) 5 (by decide) wF_X8_47 rfl dX8_broken_92 ?_
  refine V.lload (pc := 95) C 0 rfl dX8_broken_95 ?_
  refine V.iload_n (pc := 97) C 2 rfl dX8_broken_97 ?_
  obtain ⟨r1, M1, h1, hf⟩ := bd_some hf
  refine V.callVl (pc := 98) (As := [.long s0, .int v3]) (rest := []) C (mX1_lowestTerms X.2.1 hG  h1) mf_X1_lowestTerms clX1 (sx_24 hG) wM_X8_223 rfl rfl ⟨by decide, by decide⟩ (Nat.le_of_ble_eq_true rfl) dX8_broken_98 ?_
  exact V.retL (pc := 101) C hf dX8_broken_101
def fX8_broken (x1 : Int32) (x2 : Int32) (x3 : Int32) (M : Mm) : Option (Int64 × Mm) :=
bd (fX8_isWithin x1 (nI 0) (nI 10) M) fun r1 M1 =>
if r1 = (nI 0) then
(some ((-1000000000000000002 : Int64), M1))
else
(bd (fX8_isWithin x2 (mI 1) (nI 9) M1) fun r3 M3 =>
if r3 = (nI 0) then
(some ((-1000000000000000002 : Int64), M3))
else
(bd (fX8_isWithin x3 (nI 0) (nI 1) M3) fun r5 M5 =>
if r5 = (nI 0) then
(some ((-1000000000000000002 : Int64), M5))
else
(bd (fX0_crowdIn 1 (nI 6) M5) fun r7 M7 =>
bd (fJ6_bitCount_0f7a4 r7 M7) fun r8 M8 =>
bd (fX1_spread r8 x1 M8) fun _ M9 =>
if (nI 0) ≤ x2 then
(bd (fX1_waysToKeep (M9.1 1 1) x2 M9) fun r11 M11 =>
fX8_broken_b89 x3 r11 M11)
else
(bd (fX1_trustSum (M9.1 1 1) M9) fun r12 M12 =>
fX8_broken_b89 x3 r12 M12))))
set_option maxHeartbeats 4000000 in
set_option maxRecDepth 100000 in
theorem mX8_broken (l : Launch) {G : Rg} (hG : gS G = shX) {x1 : Int32} {x2 : Int32} {x3 : Int32}  {M Mf : Mm} {r : Int64} (hf : fX8_broken x1 x2 x3 M = some (r, Mf)) : Mt l G yX8_broken cX8_broken 6 (some .long) 2 65 [.ref (gA G 0), .int x1, .int x2, .int x3] M (some (.long r)) Mf := by
  refine Mt.of (by decide) (Nat.le_of_ble_eq_true rfl) ?_
  intro X C hX
  subst hX
  have C : cxX8_broken G X := C
  show V G X 6 (some (.long r)) Mf 0 [(0, .ref (gA G 0)), (1, .int x1), (2, .int x2), (3, .int x3)] [] M
  rw [fX8_broken] at hf
  refine V.iload_n (pc := 0) C 1 rfl dX8_broken_0 ?_
  refine V.iconst (pc := 1) C (nI 0) (by decide) dX8_broken_1 ?_
  refine V.bipush (pc := 2) C (nI 10) (by decide) dX8_broken_2 ?_
  obtain ⟨r1, M1, h1, hf⟩ := bd_some hf
  refine V.callSi (pc := 4) (As := [.int x1, .int (nI 0), .int (nI 10)]) (rest := []) C (mX8_isWithin X.2.1 hG  h1) mf_X8_isWithin wM_X8_73 rfl rfl ⟨by decide, by decide⟩ (Nat.le_of_ble_eq_true rfl) dX8_broken_4 ?_
  rcases it_some hf with ⟨h2, hf⟩ | ⟨h2, hf⟩
  · refine V.if_eqT (pc := 7) C 29 h2 (by decide) dX8_broken_7 ?_
    refine V.ldc2 (pc := 29) C wL_X8_210 dX8_broken_29 ?_
    exact V.retL (pc := 32) C hf dX8_broken_32
  · refine V.if_eqF (pc := 7) C 29 h2 (by decide) dX8_broken_7 ?_
    refine V.iload_n (pc := 10) C 2 rfl dX8_broken_10 ?_
    refine V.iconst (pc := 11) C (mI 1) (by decide) dX8_broken_11 ?_
    refine V.bipush (pc := 12) C (nI 9) (by decide) dX8_broken_12 ?_
    obtain ⟨r3, M3, h3, hf⟩ := bd_some hf
    refine V.callSi (pc := 14) (As := [.int x2, .int (mI 1), .int (nI 9)]) (rest := []) C (mX8_isWithin X.2.1 hG  h3) mf_X8_isWithin wM_X8_73 rfl rfl ⟨by decide, by decide⟩ (Nat.le_of_ble_eq_true rfl) dX8_broken_14 ?_
    rcases it_some hf with ⟨h4, hf⟩ | ⟨h4, hf⟩
    · refine V.if_eqT (pc := 17) C 29 h4 (by decide) dX8_broken_17 ?_
      refine V.ldc2 (pc := 29) C wL_X8_210 dX8_broken_29 ?_
      exact V.retL (pc := 32) C hf dX8_broken_32
    · refine V.if_eqF (pc := 17) C 29 h4 (by decide) dX8_broken_17 ?_
      refine V.iload_n (pc := 20) C 3 rfl dX8_broken_20 ?_
      refine V.iconst (pc := 21) C (nI 0) (by decide) dX8_broken_21 ?_
      refine V.iconst (pc := 22) C (nI 1) (by decide) dX8_broken_22 ?_
      obtain ⟨r5, M5, h5, hf⟩ := bd_some hf
      refine V.callSi (pc := 23) (As := [.int x3, .int (nI 0), .int (nI 1)]) (rest := []) C (mX8_isWithin X.2.1 hG  h5) mf_X8_isWithin wM_X8_73 rfl rfl ⟨by decide, by decide⟩ (Nat.le_of_ble_eq_true rfl) dX8_broken_23 ?_
      rcases it_some hf with ⟨h6, hf⟩ | ⟨h6, hf⟩
      · refine V.if_neF (pc := 26) C 33 h6 (by decide) dX8_broken_26 ?_
        refine V.ldc2 (pc := 29) C wL_X8_210 dX8_broken_29 ?_
        exact V.retL (pc := 32) C hf dX8_broken_32
      · refine V.if_neT (pc := 26) C 33 h6 (by decide) dX8_broken_26 ?_
        refine V.aload_n (pc := 33) C 0 rfl dX8_broken_33 ?_
        refine V.getR (pc := 34) C clX8 inX8 (sx_0 hG) 5 (by decide) wF_X8_47 rfl dX8_broken_34 ?_
        refine V.aload_n (pc := 37) C 0 rfl dX8_broken_37 ?_
        refine V.getR (pc := 38) C clX8 inX8 (sx_0 hG) 0 (by decide) wF_X8_12 rfl dX8_broken_38 ?_
        refine V.bipush (pc := 41) C (nI 6) (by decide) dX8_broken_41 ?_
        obtain ⟨r7, M7, h7, hf⟩ := bd_some hf
        refine V.callVi (pc := 43) (As := [.int (nI 6)]) (rest := [.ref (gA G 24)]) C (mX0_crowdIn X.2.1 hG (bx_1 hG) h7) mf_X0_crowdIn clX0 (sx_1 hG) wM_X8_134 rfl rfl ⟨by decide, by decide⟩ (Nat.le_of_ble_eq_true rfl) dX8_broken_43 ?_
        obtain ⟨r8, M8, h8, hf⟩ := bd_some hf
        refine V.callSi (pc := 46) (As := [.int r7]) (rest := [.ref (gA G 24)]) C (mJ6_bitCount_0f7a4 X.2.1  h8) mf_J6_bitCount_0f7a4 wM_X8_85 rfl rfl ⟨by decide, by decide⟩ (Nat.le_of_ble_eq_true rfl) dX8_broken_46 ?_
        refine V.iload_n (pc := 49) C 1 rfl dX8_broken_49 ?_
        obtain ⟨_, M9, h9, hf⟩ := bd_some hf
        refine V.callVv (pc := 50) (As := [.int r8, .int x1]) (rest := []) C (mX1_spread X.2.1 hG  h9) mf_X1_spread clX1 (sx_24 hG) wM_X8_212 rfl rfl ⟨by decide, by decide⟩ (Nat.le_of_ble_eq_true rfl) dX8_broken_50 ?_
        refine V.iload_n (pc := 53) C 2 rfl dX8_broken_53 ?_
        rcases it_some hf with ⟨h10, hf⟩ | ⟨h10, hf⟩
        · refine V.if_geT (pc := 54) C 74 h10 (by decide) dX8_broken_54 ?_
          refine V.aload_n (pc := 74) C 0 rfl dX8_broken_74 ?_
          refine V.getR (pc := 75) C clX8 inX8 (sx_0 hG) 5 (by decide) wF_X8_47 rfl dX8_broken_75 ?_
          refine V.aload_n (pc := 78) C 0 rfl dX8_broken_78 ?_
          refine V.getR (pc := 79) C clX8 inX8 (sx_0 hG) 0 (by decide) wF_X8_12 rfl dX8_broken_79 ?_
          refine V.getI (pc := 82) C clX0 inX0 (sx_1 hG) 1 (by decide) wF_X8_99 rfl dX8_broken_82 ?_
          refine V.iload_n (pc := 85) C 2 rfl dX8_broken_85 ?_
          obtain ⟨r11, M11, h11, hf⟩ := bd_some hf
          refine V.callVl (pc := 86) (As := [.int (M9.1 1 1), .int x2]) (rest := []) C (mX1_waysToKeep X.2.1 hG  h11) mf_X1_waysToKeep clX1 (sx_24 hG) wM_X8_219 rfl rfl ⟨by decide, by decide⟩ (Nat.le_of_ble_eq_true rfl) dX8_broken_86 ?_
          refine V.sub C [0, 3] (lv' := [(0, .ref (gA G 0)), (3, .int x3)]) rfl ?_
          exact vX8_broken_b89 C hG    _ _ _ hf
        · refine V.if_geF (pc := 54) C 74 h10 (by decide) dX8_broken_54 ?_
          refine V.aload_n (pc := 57) C 0 rfl dX8_broken_57 ?_
          refine V.getR (pc := 58) C clX8 inX8 (sx_0 hG) 5 (by decide) wF_X8_47 rfl dX8_broken_58 ?_
          refine V.aload_n (pc := 61) C 0 rfl dX8_broken_61 ?_
          refine V.getR (pc := 62) C clX8 inX8 (sx_0 hG) 0 (by decide) wF_X8_12 rfl dX8_broken_62 ?_
          refine V.getI (pc := 65) C clX0 inX0 (sx_1 hG) 1 (by decide) wF_X8_99 rfl dX8_broken_65 ?_
          obtain ⟨r12, M12, h12, hf⟩ := bd_some hf
          refine V.callVl (pc := 68) (As := [.int (M9.1 1 1)]) (rest := []) C (mX1_trustSum X.2.1 hG  h12) mf_X1_trustSum clX1 (sx_24 hG) wM_X8_215 rfl rfl ⟨by decide, by decide⟩ (Nat.le_of_ble_eq_true rfl) dX8_broken_68 ?_
          refine V.goto (pc := 71) C 89 (by decide) dX8_broken_71 ?_
          refine V.sub C [0, 3] (lv' := [(0, .ref (gA G 0)), (3, .int x3)]) rfl ?_
          exact vX8_broken_b89 C hG    _ _ _ hf
theorem dX5_count_0 : decode cX5_count 0 = .ok (.aload_n 0, 1) := by decide +kernel
theorem dX5_count_1 : decode cX5_count 1 = .ok (.iconst 0, 1) := by decide +kernel
theorem dX5_count_2 : decode cX5_count 2 = .ok (.putfield 9, 3) := by decide +kernel
theorem dX5_count_5 : decode cX5_count 5 = .ok (.aload_n 0, 1) := by decide +kernel
theorem dX5_count_6 : decode cX5_count 6 = .ok (.bipush (-6), 2) := by decide +kernel
theorem dX5_count_8 : decode cX5_count 8 = .ok (.putfield 15, 3) := by decide +kernel
theorem dX5_count_11 : decode cX5_count 11 = .ok (.aload_n 0, 1) := by decide +kernel
theorem dX5_count_12 : decode cX5_count 12 = .ok (.bipush (-6), 2) := by decide +kernel
theorem dX5_count_14 : decode cX5_count 14 = .ok (.putfield 18, 3) := by decide +kernel
theorem dX5_count_17 : decode cX5_count 17 = .ok (.iconst 1, 1) := by decide +kernel
theorem dX5_count_18 : decode cX5_count 18 = .ok (.istore 4, 2) := by decide +kernel
theorem dX5_count_20 : decode cX5_count 20 = .ok (.iconst 0, 1) := by decide +kernel
theorem dX5_count_21 : decode cX5_count 21 = .ok (.istore 5, 2) := by decide +kernel
theorem dX5_count_23 : decode cX5_count 23 = .ok (.iload 5, 2) := by decide +kernel
theorem dX5_count_25 : decode cX5_count 25 = .ok (.iload_n 1, 1) := by decide +kernel
theorem dX5_count_26 : decode cX5_count 26 = .ok (.if_icmp .gt 117, 3) := by decide +kernel
theorem dX5_count_29 : decode cX5_count 29 = .ok (.iload 5, 2) := by decide +kernel
theorem dX5_count_31 : decode cX5_count 31 = .ok (.ifCond .eq 12, 3) := by decide +kernel
theorem dX5_count_34 : decode cX5_count 34 = .ok (.iload_n 2, 1) := by decide +kernel
theorem dX5_count_35 : decode cX5_count 35 = .ok (.iload_n 3, 1) := by decide +kernel
theorem dX5_count_36 : decode cX5_count 36 = .ok (.iload 5, 2) := by decide +kernel
theorem dX5_count_38 : decode cX5_count 38 = .ok (.imul, 1) := by decide +kernel
theorem dX5_count_39 : decode cX5_count 39 = .ok (.isub, 1) := by decide +kernel
theorem dX5_count_40 : decode cX5_count 40 = .ok (.ifCond .lt 7, 3) := by decide +kernel
theorem dX5_count_43 : decode cX5_count 43 = .ok (.iconst 1, 1) := by decide +kernel
theorem dX5_count_44 : decode cX5_count 44 = .ok (.goto 4, 3) := by decide +kernel
theorem dX5_count_47 : decode cX5_count 47 = .ok (.iconst 0, 1) := by decide +kernel
theorem dX5_count_48 : decode cX5_count 48 = .ok (.istore 6, 2) := by decide +kernel
theorem dX5_count_50 : decode cX5_count 50 = .ok (.iload 5, 2) := by decide +kernel
theorem dX5_count_52 : decode cX5_count 52 = .ok (.iload_n 1, 1) := by decide +kernel
theorem dX5_count_53 : decode cX5_count 53 = .ok (.if_icmp .eq 14, 3) := by decide +kernel
theorem dX5_count_56 : decode cX5_count 56 = .ok (.iload_n 2, 1) := by decide +kernel
theorem dX5_count_57 : decode cX5_count 57 = .ok (.iload_n 3, 1) := by decide +kernel
theorem dX5_count_58 : decode cX5_count 58 = .ok (.iload 5, 2) := by decide +kernel
theorem dX5_count_60 : decode cX5_count 60 = .ok (.iconst 1, 1) := by decide +kernel
theorem dX5_count_61 : decode cX5_count 61 = .ok (.iadd, 1) := by decide +kernel
theorem dX5_count_62 : decode cX5_count 62 = .ok (.imul, 1) := by decide +kernel
theorem dX5_count_63 : decode cX5_count 63 = .ok (.isub, 1) := by decide +kernel
theorem dX5_count_64 : decode cX5_count 64 = .ok (.ifCond .gt 7, 3) := by decide +kernel
theorem dX5_count_67 : decode cX5_count 67 = .ok (.iconst 1, 1) := by decide +kernel
theorem dX5_count_68 : decode cX5_count 68 = .ok (.goto 4, 3) := by decide +kernel
theorem dX5_count_71 : decode cX5_count 71 = .ok (.iconst 0, 1) := by decide +kernel
theorem dX5_count_72 : decode cX5_count 72 = .ok (.istore 7, 2) := by decide +kernel
theorem dX5_count_74 : decode cX5_count 74 = .ok (.iload 6, 2) := by decide +kernel
theorem dX5_count_76 : decode cX5_count 76 = .ok (.ifCond .eq 47, 3) := by decide +kernel
theorem dX5_count_79 : decode cX5_count 79 = .ok (.iload 7, 2) := by decide +kernel
theorem dX5_count_81 : decode cX5_count 81 = .ok (.ifCond .eq 42, 3) := by decide +kernel
theorem dX5_count_84 : decode cX5_count 84 = .ok (.aload_n 0, 1) := by decide +kernel
theorem dX5_count_85 : decode cX5_count 85 = .ok (.dup, 1) := by decide +kernel
theorem dX5_count_86 : decode cX5_count 86 = .ok (.getfield 9, 3) := by decide +kernel
theorem dX5_count_89 : decode cX5_count 89 = .ok (.iload 4, 2) := by decide +kernel
theorem dX5_count_91 : decode cX5_count 91 = .ok (.iadd, 1) := by decide +kernel
theorem dX5_count_92 : decode cX5_count 92 = .ok (.putfield 9, 3) := by decide +kernel
theorem dX5_count_95 : decode cX5_count 95 = .ok (.aload_n 0, 1) := by decide +kernel
theorem dX5_count_96 : decode cX5_count 96 = .ok (.aload_n 0, 1) := by decide +kernel
theorem dX5_count_97 : decode cX5_count 97 = .ok (.getfield 15, 3) := by decide +kernel
theorem dX5_count_100 : decode cX5_count 100 = .ok (.bipush (-6), 2) := by decide +kernel
theorem dX5_count_102 : decode cX5_count 102 = .ok (.if_icmp .ne 8, 3) := by decide +kernel
theorem dX5_count_105 : decode cX5_count 105 = .ok (.iload 5, 2) := by decide +kernel
theorem dX5_count_107 : decode cX5_count 107 = .ok (.goto 7, 3) := by decide +kernel
theorem dX5_count_110 : decode cX5_count 110 = .ok (.aload_n 0, 1) := by decide +kernel
theorem dX5_count_111 : decode cX5_count 111 = .ok (.getfield 15, 3) := by decide +kernel
theorem dX5_count_114 : decode cX5_count 114 = .ok (.putfield 15, 3) := by decide +kernel
theorem dX5_count_117 : decode cX5_count 117 = .ok (.aload_n 0, 1) := by decide +kernel
theorem dX5_count_118 : decode cX5_count 118 = .ok (.iload 5, 2) := by decide +kernel
theorem dX5_count_120 : decode cX5_count 120 = .ok (.putfield 18, 3) := by decide +kernel
theorem dX5_count_123 : decode cX5_count 123 = .ok (.iload 4, 2) := by decide +kernel
theorem dX5_count_125 : decode cX5_count 125 = .ok (.iload_n 1, 1) := by decide +kernel
theorem dX5_count_126 : decode cX5_count 126 = .ok (.iload 5, 2) := by decide +kernel
theorem dX5_count_128 : decode cX5_count 128 = .ok (.isub, 1) := by decide +kernel
theorem dX5_count_129 : decode cX5_count 129 = .ok (.imul, 1) := by decide +kernel
theorem dX5_count_130 : decode cX5_count 130 = .ok (.iload 5, 2) := by decide +kernel
theorem dX5_count_132 : decode cX5_count 132 = .ok (.iconst 1, 1) := by decide +kernel
theorem dX5_count_133 : decode cX5_count 133 = .ok (.iadd, 1) := by decide +kernel
theorem dX5_count_134 : decode cX5_count 134 = .ok (.idiv, 1) := by decide +kernel
theorem dX5_count_135 : decode cX5_count 135 = .ok (.istore 4, 2) := by decide +kernel
theorem dX5_count_137 : decode cX5_count 137 = .ok (.iinc 5 1, 3) := by decide +kernel
theorem dX5_count_140 : decode cX5_count 140 = .ok (.goto (-117), 3) := by decide +kernel
theorem dX5_count_143 : decode cX5_count 143 = .ok (.return_, 1) := by decide +kernel
abbrev cxX5_count (G : Rg) (X : Ct) : Prop := Cx G X cX5_count 8 RX5 (none) 0 0 (Cond.code yX5_count cX5_count 8 (none))
def fX5_count_b123 (nx23 : Int32 → Int32 → Int32 → Int32 → Int32 → Mm → Option (Unit × Mm))  (v1 : Int32) (v2 : Int32) (v3 : Int32) (v4 : Int32) (v5 : Int32) (M : Mm) : Option (Unit × Mm) :=
gd (decide (¬ (v5 + (nI 1)) = nI 0)) (
nx23 v1 v2 v3 ((v4 * (v1 - v5)) / (v5 + (nI 1))) (v5 + (nI 1)) M)
set_option maxHeartbeats 4000000 in
set_option maxRecDepth 100000 in
theorem vX5_count_b123 {G : Rg} {X : Ct} {r : Unit} {Mf : Mm}  {nx23 : Int32 → Int32 → Int32 → Int32 → Int32 → Mm → Option (Unit × Mm)} (C : cxX5_count G X) (hG : gS G = shX)  (hx23 : ∀ (v1 : Int32) (v2 : Int32) (v3 : Int32) (v4 : Int32) (v5 : Int32) (M : Mm), nx23 v1 v2 v3 v4 v5 M = some (r, Mf) → V G X 8 none Mf 23 [(0, .ref (gA G 26)), (1, .int v1), (2, .int v2), (3, .int v3), (4, .int v4), (5, .int v5)] [] M) (v1 : Int32) (v2 : Int32) (v3 : Int32) (v4 : Int32) (v5 : Int32) (M : Mm) (hf : fX5_count_b123 nx23 v1 v2 v3 v4 v5 M = some (r, Mf)) : V G X 8 none Mf 123 [(0, .ref (gA G 26)), (1, .int v1), (2, .int v2), (3, .int v3), (4, .int v4), (5, .int v5)] [] M := by
  rw [fX5_count_b123] at hf
  refine V.iload (pc := 123) C 4 rfl dX5_count_123 ?_
  refine V.iload_n (pc := 125) C 1 rfl dX5_count_125 ?_
  refine V.iload (pc := 126) C 5 rfl dX5_count_126 ?_
  refine V.isub (pc := 128) C dX5_count_128 ?_
  refine V.imul (pc := 129) C dX5_count_129 ?_
  refine V.iload (pc := 130) C 5 rfl dX5_count_130 ?_
  refine V.iconst (pc := 132) C (nI 1) (by decide) dX5_count_132 ?_
  refine V.iadd (pc := 133) C dX5_count_133 ?_
  obtain ⟨g1, hf⟩ := gd_some hf
  refine V.idiv (pc := 134) C (dec_some g1) dX5_count_134 ?_
  refine V.istore (pc := 135) (lv' := [(4, .int ((v4 * (v1 - v5)) / (v5 + (nI 1)))), (0, .ref (gA G 26)), (1, .int v1), (2, .int v2), (3, .int v3), (5, .int v5)]) C (by decide) rfl dX5_count_135 ?_
  refine V.iinc (pc := 137) (lv' := [(5, .int (v5 + (nI 1))), (4, .int ((v4 * (v1 - v5)) / (v5 + (nI 1)))), (0, .ref (gA G 26)), (1, .int v1), (2, .int v2), (3, .int v3)]) C (v5 + (nI 1)) 5 rfl rfl (by decide) rfl dX5_count_137 ?_
  refine V.goto (pc := 140) C 23 (by decide) dX5_count_140 ?_
  refine V.sub C [2, 3, 4, 5, 1, 0] (lv' := [(0, .ref (gA G 26)), (1, .int v1), (2, .int v2), (3, .int v3), (4, .int ((v4 * (v1 - v5)) / (v5 + (nI 1)))), (5, .int (v5 + (nI 1)))]) rfl ?_
  exact hx23 _ _ _ _ _ _ hf
def fX5_count_b114 (nx23 : Int32 → Int32 → Int32 → Int32 → Int32 → Mm → Option (Unit × Mm))  (v1 : Int32) (v2 : Int32) (v3 : Int32) (v4 : Int32) (v5 : Int32) (s1 : Int32) (M : Mm) : Option (Unit × Mm) :=
fX5_count_b123 nx23 v1 v2 v3 v4 v5 (sI (sI M 26 1 s1) 26 2 v5)
set_option maxHeartbeats 4000000 in
set_option maxRecDepth 100000 in
theorem vX5_count_b114 {G : Rg} {X : Ct} {r : Unit} {Mf : Mm}  {nx23 : Int32 → Int32 → Int32 → Int32 → Int32 → Mm → Option (Unit × Mm)} (C : cxX5_count G X) (hG : gS G = shX)  (hx23 : ∀ (v1 : Int32) (v2 : Int32) (v3 : Int32) (v4 : Int32) (v5 : Int32) (M : Mm), nx23 v1 v2 v3 v4 v5 M = some (r, Mf) → V G X 8 none Mf 23 [(0, .ref (gA G 26)), (1, .int v1), (2, .int v2), (3, .int v3), (4, .int v4), (5, .int v5)] [] M) (v1 : Int32) (v2 : Int32) (v3 : Int32) (v4 : Int32) (v5 : Int32) (s1 : Int32) (M : Mm) (hf : fX5_count_b114 nx23 v1 v2 v3 v4 v5 s1 M = some (r, Mf)) : V G X 8 none Mf 114 [(0, .ref (gA G 26)), (1, .int v1), (2, .int v2), (3, .int v3), (4, .int v4), (5, .int v5)] [.int s1, .ref (gA G 26)] M := by
  rw [fX5_count_b114] at hf
  refine V.putI (pc := 114) C clX5 inX5 (sx_26 hG) 1 (by decide) wF_X5_15 tyX5 tyX5_ok nmX5 rfl (tyX5_ok 1 (by decide)) rfl dX5_count_114 ?_
  refine V.aload_n (pc := 117) C 0 rfl dX5_count_117 ?_
  refine V.iload (pc := 118) C 5 rfl dX5_count_118 ?_
  refine V.putI (pc := 120) C clX5 inX5 (sx_26 hG) 2 (by decide) wF_X5_18 tyX5 tyX5_ok nmX5 rfl (tyX5_ok 2 (by decide)) rfl dX5_count_120 ?_
  exact vX5_count_b123 C hG  hx23  _ _ _ _ _ _ hf
def fX5_count_b72 (nx23 : Int32 → Int32 → Int32 → Int32 → Int32 → Mm → Option (Unit × Mm))  (v1 : Int32) (v2 : Int32) (v3 : Int32) (v4 : Int32) (v5 : Int32) (v6 : Int32) (s0 : Int32) (M : Mm) : Option (Unit × Mm) :=
if v6 = (nI 0) then
(fX5_count_b123 nx23 v1 v2 v3 v4 v5 M)
else
(if s0 = (nI 0) then
(fX5_count_b123 nx23 v1 v2 v3 v4 v5 M)
else
(if ((sI M 26 0 ((M.1 26 0) + v4)).1 26 1) = (mI 6) then
(fX5_count_b114 nx23 v1 v2 v3 v4 v5 v5 (sI M 26 0 ((M.1 26 0) + v4)))
else
(fX5_count_b114 nx23 v1 v2 v3 v4 v5 ((sI M 26 0 ((M.1 26 0) + v4)).1 26 1) (sI M 26 0 ((M.1 26 0) + v4)))))
set_option maxHeartbeats 4000000 in
set_option maxRecDepth 100000 in
theorem vX5_count_b72 {G : Rg} {X : Ct} {r : Unit} {Mf : Mm}  {nx23 : Int32 → Int32 → Int32 → Int32 → Int32 → Mm → Option (Unit × Mm)} (C : cxX5_count G X) (hG : gS G = shX)  (hx23 : ∀ (v1 : Int32) (v2 : Int32) (v3 : Int32) (v4 : Int32) (v5 : Int32) (M : Mm), nx23 v1 v2 v3 v4 v5 M = some (r, Mf) → V G X 8 none Mf 23 [(0, .ref (gA G 26)), (1, .int v1), (2, .int v2), (3, .int v3), (4, .int v4), (5, .int v5)] [] M) (v1 : Int32) (v2 : Int32) (v3 : Int32) (v4 : Int32) (v5 : Int32) (v6 : Int32) (s0 : Int32) (M : Mm) (hf : fX5_count_b72 nx23 v1 v2 v3 v4 v5 v6 s0 M = some (r, Mf)) : V G X 8 none Mf 72 [(0, .ref (gA G 26)), (1, .int v1), (2, .int v2), (3, .int v3), (4, .int v4), (5, .int v5), (6, .int v6)] [.int s0] M := by
  rw [fX5_count_b72] at hf
  refine V.istore (pc := 72) (lv' := [(7, .int s0), (0, .ref (gA G 26)), (1, .int v1), (2, .int v2), (3, .int v3), (4, .int v4), (5, .int v5), (6, .int v6)]) C (by decide) rfl dX5_count_72 ?_
  refine V.iload (pc := 74) C 7 rfl dX5_count_74 ?_
  rcases it_some hf with ⟨h1, hf⟩ | ⟨h1, hf⟩
  · refine V.if_eqT (pc := 76) C 123 h1 (by decide) dX5_count_76 ?_
    refine V.sub C [1, 2, 3, 4, 5, 6] (lv' := [(0, .ref (gA G 26)), (1, .int v1), (2, .int v2), (3, .int v3), (4, .int v4), (5, .int v5)]) rfl ?_
    exact vX5_count_b123 C hG  hx23  _ _ _ _ _ _ hf
  · refine V.if_eqF (pc := 76) C 123 h1 (by decide) dX5_count_76 ?_
    refine V.iload (pc := 79) C 0 rfl dX5_count_79 ?_
    rcases it_some hf with ⟨h2, hf⟩ | ⟨h2, hf⟩
    · refine V.if_eqT (pc := 81) C 123 h2 (by decide) dX5_count_81 ?_
      refine V.sub C [1, 2, 3, 4, 5, 6] (lv' := [(0, .ref (gA G 26)), (1, .int v1), (2, .int v2), (3, .int v3), (4, .int v4), (5, .int v5)]) rfl ?_
      exact vX5_count_b123 C hG  hx23  _ _ _ _ _ _ hf
    · refine V.if_eqF (pc := 81) C 123 h2 (by decide) dX5_count_81 ?_
      refine V.aload_n (pc := 84) C 1 rfl dX5_count_84 ?_
      refine V.dup (pc := 85) C rfl dX5_count_85 ?_
      refine V.getI (pc := 86) C clX5 inX5 (sx_26 hG) 0 (by decide) wF_X5_9 rfl dX5_count_86 ?_
      refine V.iload (pc := 89) C 5 rfl dX5_count_89 ?_
      refine V.iadd (pc := 91) C dX5_count_91 ?_
      refine V.putI (pc := 92) C clX5 inX5 (sx_26 hG) 0 (by decide) wF_X5_9 tyX5 tyX5_ok nmX5 rfl (tyX5_ok 0 (by decide)) rfl dX5_count_92 ?_
      refine V.aload_n (pc := 95) C 1 rfl dX5_count_95 ?_
      refine V.aload_n (pc := 96) C 1 rfl dX5_count_96 ?_
      refine V.getI (pc := 97) C clX5 inX5 (sx_26 hG) 1 (by decide) wF_X5_15 rfl dX5_count_97 ?_
      refine V.bipush (pc := 100) C (mI 6) (by decide) dX5_count_100 ?_
      rcases it_some hf with ⟨h3, hf⟩ | ⟨h3, hf⟩
      · refine V.ic_neF (pc := 102) C 110 h3 (by decide) dX5_count_102 ?_
        refine V.iload (pc := 105) C 6 rfl dX5_count_105 ?_
        refine V.goto (pc := 107) C 114 (by decide) dX5_count_107 ?_
        refine V.sub C [1, 2, 3, 4, 5, 6] (lv' := [(0, .ref (gA G 26)), (1, .int v1), (2, .int v2), (3, .int v3), (4, .int v4), (5, .int v5)]) rfl ?_
        exact vX5_count_b114 C hG  hx23  _ _ _ _ _ _ _ hf
      · refine V.ic_neT (pc := 102) C 110 h3 (by decide) dX5_count_102 ?_
        refine V.aload_n (pc := 110) C 1 rfl dX5_count_110 ?_
        refine V.getI (pc := 111) C clX5 inX5 (sx_26 hG) 1 (by decide) wF_X5_15 rfl dX5_count_111 ?_
        refine V.sub C [1, 2, 3, 4, 5, 6] (lv' := [(0, .ref (gA G 26)), (1, .int v1), (2, .int v2), (3, .int v3), (4, .int v4), (5, .int v5)]) rfl ?_
        exact vX5_count_b114 C hG  hx23  _ _ _ _ _ _ _ hf
def fX5_count_b67 (nx23 : Int32 → Int32 → Int32 → Int32 → Int32 → Mm → Option (Unit × Mm))  (v1 : Int32) (v2 : Int32) (v3 : Int32) (v4 : Int32) (v5 : Int32) (v6 : Int32) (M : Mm) : Option (Unit × Mm) :=
fX5_count_b72 nx23 v1 v2 v3 v4 v5 v6 (nI 1) M
set_option maxHeartbeats 4000000 in
set_option maxRecDepth 100000 in
theorem vX5_count_b67 {G : Rg} {X : Ct} {r : Unit} {Mf : Mm}  {nx23 : Int32 → Int32 → Int32 → Int32 → Int32 → Mm → Option (Unit × Mm)} (C : cxX5_count G X) (hG : gS G = shX)  (hx23 : ∀ (v1 : Int32) (v2 : Int32) (v3 : Int32) (v4 : Int32) (v5 : Int32) (M : Mm), nx23 v1 v2 v3 v4 v5 M = some (r, Mf) → V G X 8 none Mf 23 [(0, .ref (gA G 26)), (1, .int v1), (2, .int v2), (3, .int v3), (4, .int v4), (5, .int v5)] [] M) (v1 : Int32) (v2 : Int32) (v3 : Int32) (v4 : Int32) (v5 : Int32) (v6 : Int32) (M : Mm) (hf : fX5_count_b67 nx23 v1 v2 v3 v4 v5 v6 M = some (r, Mf)) : V G X 8 none Mf 67 [(0, .ref (gA G 26)), (1, .int v1), (2, .int v2), (3, .int v3), (4, .int v4), (5, .int v5), (6, .int v6)] [] M := by
  rw [fX5_count_b67] at hf
  refine V.iconst (pc := 67) C (nI 1) (by decide) dX5_count_67 ?_
  refine V.goto (pc := 68) C 72 (by decide) dX5_count_68 ?_
  exact vX5_count_b72 C hG  hx23  _ _ _ _ _ _ _ _ hf
def fX5_count_b48 (nx23 : Int32 → Int32 → Int32 → Int32 → Int32 → Mm → Option (Unit × Mm))  (v1 : Int32) (v2 : Int32) (v3 : Int32) (v4 : Int32) (v5 : Int32) (s0 : Int32) (M : Mm) : Option (Unit × Mm) :=
if v5 = v1 then
(fX5_count_b67 nx23 v1 v2 v3 v4 v5 s0 M)
else
(if (nI 0) < (v2 - (v3 * (v5 + (nI 1)))) then
(fX5_count_b72 nx23 v1 v2 v3 v4 v5 s0 (nI 0) M)
else
(fX5_count_b67 nx23 v1 v2 v3 v4 v5 s0 M))
set_option maxHeartbeats 4000000 in
set_option maxRecDepth 100000 in
theorem vX5_count_b48 {G : Rg} {X : Ct} {r : Unit} {Mf : Mm}  {nx23 : Int32 → Int32 → Int32 → Int32 → Int32 → Mm → Option (Unit × Mm)} (C : cxX5_count G X) (hG : gS G = shX)  (hx23 : ∀ (v1 : Int32) (v2 : Int32) (v3 : Int32) (v4 : Int32) (v5 : Int32) (M : Mm), nx23 v1 v2 v3 v4 v5 M = some (r, Mf) → V G X 8 none Mf 23 [(0, .ref (gA G 26)), (1, .int v1), (2, .int v2), (3, .int v3), (4, .int v4), (5, .int v5)] [] M) (v1 : Int32) (v2 : Int32) (v3 : Int32) (v4 : Int32) (v5 : Int32) (s0 : Int32) (M : Mm) (hf : fX5_count_b48 nx23 v1 v2 v3 v4 v5 s0 M = some (r, Mf)) : V G X 8 none Mf 48 [(0, .ref (gA G 26)), (1, .int v1), (2, .int v2), (3, .int v3), (4, .int v4), (5, .int v5)] [.int s0] M := by
  rw [fX5_count_b48] at hf
  refine V.istore (pc := 48) (lv' := [(6, .int s0), (0, .ref (gA G 26)), (1, .int v1), (2, .int v2), (3, .int v3), (4, .int v4), (5, .int v5)]) C (by decide) rfl dX5_count_48 ?_
  refine V.iload (pc := 50) C 6 rfl dX5_count_50 ?_
  refine V.iload_n (pc := 52) C 2 rfl dX5_count_52 ?_
  rcases it_some hf with ⟨h1, hf⟩ | ⟨h1, hf⟩
  · refine V.ic_eqT (pc := 53) C 67 h1 (by decide) dX5_count_53 ?_
    refine V.sub C [1, 2, 3, 4, 5, 6, 0] (lv' := [(0, .ref (gA G 26)), (1, .int v1), (2, .int v2), (3, .int v3), (4, .int v4), (5, .int v5), (6, .int s0)]) rfl ?_
    exact vX5_count_b67 C hG  hx23  _ _ _ _ _ _ _ hf
  · refine V.ic_eqF (pc := 53) C 67 h1 (by decide) dX5_count_53 ?_
    refine V.iload_n (pc := 56) C 3 rfl dX5_count_56 ?_
    refine V.iload_n (pc := 57) C 4 rfl dX5_count_57 ?_
    refine V.iload (pc := 58) C 6 rfl dX5_count_58 ?_
    refine V.iconst (pc := 60) C (nI 1) (by decide) dX5_count_60 ?_
    refine V.iadd (pc := 61) C dX5_count_61 ?_
    refine V.imul (pc := 62) C dX5_count_62 ?_
    refine V.isub (pc := 63) C dX5_count_63 ?_
    rcases it_some hf with ⟨h2, hf⟩ | ⟨h2, hf⟩
    · refine V.if_gtT (pc := 64) C 71 h2 (by decide) dX5_count_64 ?_
      refine V.iconst (pc := 71) C (nI 0) (by decide) dX5_count_71 ?_
      refine V.sub C [1, 2, 3, 4, 5, 6, 0] (lv' := [(0, .ref (gA G 26)), (1, .int v1), (2, .int v2), (3, .int v3), (4, .int v4), (5, .int v5), (6, .int s0)]) rfl ?_
      exact vX5_count_b72 C hG  hx23  _ _ _ _ _ _ _ _ hf
    · refine V.if_gtF (pc := 64) C 71 h2 (by decide) dX5_count_64 ?_
      refine V.sub C [1, 2, 3, 4, 5, 6, 0] (lv' := [(0, .ref (gA G 26)), (1, .int v1), (2, .int v2), (3, .int v3), (4, .int v4), (5, .int v5), (6, .int s0)]) rfl ?_
      exact vX5_count_b67 C hG  hx23  _ _ _ _ _ _ _ hf
def fX5_count_b43 (nx23 : Int32 → Int32 → Int32 → Int32 → Int32 → Mm → Option (Unit × Mm))  (v1 : Int32) (v2 : Int32) (v3 : Int32) (v4 : Int32) (v5 : Int32) (M : Mm) : Option (Unit × Mm) :=
fX5_count_b48 nx23 v1 v2 v3 v4 v5 (nI 1) M
set_option maxHeartbeats 4000000 in
set_option maxRecDepth 100000 in
theorem vX5_count_b43 {G : Rg} {X : Ct} {r : Unit} {Mf : Mm}  {nx23 : Int32 → Int32 → Int32 → Int32 → Int32 → Mm → Option (Unit × Mm)} (C : cxX5_count G X) (hG : gS G = shX)  (hx23 : ∀ (v1 : Int32) (v2 : Int32) (v3 : Int32) (v4 : Int32) (v5 : Int32) (M : Mm), nx23 v1 v2 v3 v4 v5 M = some (r, Mf) → V G X 8 none Mf 23 [(0, .ref (gA G 26)), (1, .int v1), (2, .int v2), (3, .int v3), (4, .int v4), (5, .int v5)] [] M) (v1 : Int32) (v2 : Int32) (v3 : Int32) (v4 : Int32) (v5 : Int32) (M : Mm) (hf : fX5_count_b43 nx23 v1 v2 v3 v4 v5 M = some (r, Mf)) : V G X 8 none Mf 43 [(0, .ref (gA G 26)), (1, .int v1), (2, .int v2), (3, .int v3), (4, .int v4), (5, .int v5)] [] M := by
  rw [fX5_count_b43] at hf
  refine V.iconst (pc := 43) C (nI 1) (by decide) dX5_count_43 ?_
  refine V.goto (pc := 44) C 48 (by decide) dX5_count_44 ?_
  exact vX5_count_b48 C hG  hx23  _ _ _ _ _ _ _ hf
def fX5_count_b23   : Nat → Int32 → Int32 → Int32 → Int32 → Int32 → Mm → Option (Unit × Mm)
  | 0, _, _, _, _, _, _ => none
  | n + 1, v1, v2, v3, v4, v5, M =>
    if v1 < v5 then
    (some ((), M))
    else
    (if v5 = (nI 0) then
    (fX5_count_b43 (fX5_count_b23  n) v1 v2 v3 v4 v5 M)
    else
    (if (v2 - (v3 * v5)) < (nI 0) then
    (fX5_count_b48 (fX5_count_b23  n) v1 v2 v3 v4 v5 (nI 0) M)
    else
    (fX5_count_b43 (fX5_count_b23  n) v1 v2 v3 v4 v5 M)))
set_option maxHeartbeats 4000000 in
set_option maxRecDepth 100000 in
theorem vX5_count_b23 {G : Rg} {X : Ct} {r : Unit} {Mf : Mm}   (C : cxX5_count G X) (hG : gS G = shX)   : ∀ (n : Nat) (v1 : Int32) (v2 : Int32) (v3 : Int32) (v4 : Int32) (v5 : Int32) (M : Mm), fX5_count_b23 n v1 v2 v3 v4 v5 M = some (r, Mf) → V G X 8 none Mf 23 [(0, .ref (gA G 26)), (1, .int v1), (2, .int v2), (3, .int v3), (4, .int v4), (5, .int v5)] [] M := by
  intro n
  induction n with
  | zero => intro v1 v2 v3 v4 v5 M hf; rw [fX5_count_b23] at hf; cases hf
  | succ n ih =>
    intro v1 v2 v3 v4 v5 M hf
    rw [fX5_count_b23] at hf
    refine V.iload (pc := 23) C 5 rfl dX5_count_23 ?_
    refine V.iload_n (pc := 25) C 1 rfl dX5_count_25 ?_
    rcases it_some hf with ⟨h1, hf⟩ | ⟨h1, hf⟩
    · refine V.ic_gtT (pc := 26) C 143 h1 (by decide) dX5_count_26 ?_
      exact V.retV (pc := 143) C hf dX5_count_143
    · refine V.ic_gtF (pc := 26) C 143 h1 (by decide) dX5_count_26 ?_
      refine V.iload (pc := 29) C 5 rfl dX5_count_29 ?_
      rcases it_some hf with ⟨h2, hf⟩ | ⟨h2, hf⟩
      · refine V.if_eqT (pc := 31) C 43 h2 (by decide) dX5_count_31 ?_
        exact vX5_count_b43 C hG  ih  _ _ _ _ _ _ hf
      · refine V.if_eqF (pc := 31) C 43 h2 (by decide) dX5_count_31 ?_
        refine V.iload_n (pc := 34) C 2 rfl dX5_count_34 ?_
        refine V.iload_n (pc := 35) C 3 rfl dX5_count_35 ?_
        refine V.iload (pc := 36) C 5 rfl dX5_count_36 ?_
        refine V.imul (pc := 38) C dX5_count_38 ?_
        refine V.isub (pc := 39) C dX5_count_39 ?_
        rcases it_some hf with ⟨h3, hf⟩ | ⟨h3, hf⟩
        · refine V.if_ltT (pc := 40) C 47 h3 (by decide) dX5_count_40 ?_
          refine V.iconst (pc := 47) C (nI 0) (by decide) dX5_count_47 ?_
          exact vX5_count_b48 C hG  ih  _ _ _ _ _ _ _ hf
        · refine V.if_ltF (pc := 40) C 47 h3 (by decide) dX5_count_40 ?_
          exact vX5_count_b43 C hG  ih  _ _ _ _ _ _ hf
def fX5_count (x1 : Int32) (x2 : Int32) (x3 : Int32) (M : Mm) : Option (Unit × Mm) :=
fX5_count_b23 fu x1 x2 x3 (nI 1) (nI 0) (sI (sI (sI M 26 0 (nI 0)) 26 1 (mI 6)) 26 2 (mI 6))
set_option maxHeartbeats 4000000 in
set_option maxRecDepth 100000 in
theorem mX5_count (l : Launch) {G : Rg} (hG : gS G = shX) {x1 : Int32} {x2 : Int32} {x3 : Int32}  {M Mf : Mm} {r : Unit} (hf : fX5_count x1 x2 x3 M = some (r, Mf)) : Mt l G yX5_count cX5_count 8 (none) 0 0 [.ref (gA G 26), .int x1, .int x2, .int x3] M none Mf := by
  refine Mt.of (by decide) (Nat.le_of_ble_eq_true rfl) ?_
  intro X C hX
  subst hX
  have C : cxX5_count G X := C
  show V G X 8 none Mf 0 [(0, .ref (gA G 26)), (1, .int x1), (2, .int x2), (3, .int x3)] [] M
  rw [fX5_count] at hf
  refine V.aload_n (pc := 0) C 0 rfl dX5_count_0 ?_
  refine V.iconst (pc := 1) C (nI 0) (by decide) dX5_count_1 ?_
  refine V.putI (pc := 2) C clX5 inX5 (sx_26 hG) 0 (by decide) wF_X5_9 tyX5 tyX5_ok nmX5 rfl (tyX5_ok 0 (by decide)) rfl dX5_count_2 ?_
  refine V.aload_n (pc := 5) C 0 rfl dX5_count_5 ?_
  refine V.bipush (pc := 6) C (mI 6) (by decide) dX5_count_6 ?_
  refine V.putI (pc := 8) C clX5 inX5 (sx_26 hG) 1 (by decide) wF_X5_15 tyX5 tyX5_ok nmX5 rfl (tyX5_ok 1 (by decide)) rfl dX5_count_8 ?_
  refine V.aload_n (pc := 11) C 0 rfl dX5_count_11 ?_
  refine V.bipush (pc := 12) C (mI 6) (by decide) dX5_count_12 ?_
  refine V.putI (pc := 14) C clX5 inX5 (sx_26 hG) 2 (by decide) wF_X5_18 tyX5 tyX5_ok nmX5 rfl (tyX5_ok 2 (by decide)) rfl dX5_count_14 ?_
  refine V.iconst (pc := 17) C (nI 1) (by decide) dX5_count_17 ?_
  refine V.istore (pc := 18) (lv' := [(4, .int (nI 1)), (0, .ref (gA G 26)), (1, .int x1), (2, .int x2), (3, .int x3)]) C (by decide) rfl dX5_count_18 ?_
  refine V.iconst (pc := 20) C (nI 0) (by decide) dX5_count_20 ?_
  refine V.istore (pc := 21) (lv' := [(5, .int (nI 0)), (4, .int (nI 1)), (0, .ref (gA G 26)), (1, .int x1), (2, .int x2), (3, .int x3)]) C (by decide) rfl dX5_count_21 ?_
  refine V.sub C [2, 3, 4, 5, 1, 0] (lv' := [(0, .ref (gA G 26)), (1, .int x1), (2, .int x2), (3, .int x3), (4, .int (nI 1)), (5, .int (nI 0))]) rfl ?_
  exact vX5_count_b23 C hG   fu _ _ _ _ _ _ hf
theorem dX8_rests_0 : decode cX8_rests 0 = .ok (.iload_n 1, 1) := by decide +kernel
theorem dX8_rests_1 : decode cX8_rests 1 = .ok (.iconst 0, 1) := by decide +kernel
theorem dX8_rests_2 : decode cX8_rests 2 = .ok (.iconst 1, 1) := by decide +kernel
theorem dX8_rests_3 : decode cX8_rests 3 = .ok (.invokestatic 73, 3) := by decide +kernel
theorem dX8_rests_6 : decode cX8_rests 6 = .ok (.ifCond .eq 33, 3) := by decide +kernel
theorem dX8_rests_9 : decode cX8_rests 9 = .ok (.iload_n 2, 1) := by decide +kernel
theorem dX8_rests_10 : decode cX8_rests 10 = .ok (.iconst 0, 1) := by decide +kernel
theorem dX8_rests_11 : decode cX8_rests 11 = .ok (.bipush 99, 2) := by decide +kernel
theorem dX8_rests_13 : decode cX8_rests 13 = .ok (.invokestatic 73, 3) := by decide +kernel
theorem dX8_rests_16 : decode cX8_rests 16 = .ok (.ifCond .eq 23, 3) := by decide +kernel
theorem dX8_rests_19 : decode cX8_rests 19 = .ok (.iload_n 3, 1) := by decide +kernel
theorem dX8_rests_20 : decode cX8_rests 20 = .ok (.iconst 0, 1) := by decide +kernel
theorem dX8_rests_21 : decode cX8_rests 21 = .ok (.bipush 99, 2) := by decide +kernel
theorem dX8_rests_23 : decode cX8_rests 23 = .ok (.invokestatic 73, 3) := by decide +kernel
theorem dX8_rests_26 : decode cX8_rests 26 = .ok (.ifCond .eq 13, 3) := by decide +kernel
theorem dX8_rests_29 : decode cX8_rests 29 = .ok (.iload 4, 2) := by decide +kernel
theorem dX8_rests_31 : decode cX8_rests 31 = .ok (.iconst 0, 1) := by decide +kernel
theorem dX8_rests_32 : decode cX8_rests 32 = .ok (.iconst 2, 1) := by decide +kernel
theorem dX8_rests_33 : decode cX8_rests 33 = .ok (.invokestatic 73, 3) := by decide +kernel
theorem dX8_rests_36 : decode cX8_rests 36 = .ok (.ifCond .ne 6, 3) := by decide +kernel
theorem dX8_rests_39 : decode cX8_rests 39 = .ok (.bipush (-2), 2) := by decide +kernel
theorem dX8_rests_41 : decode cX8_rests 41 = .ok (.ireturn, 1) := by decide +kernel
theorem dX8_rests_42 : decode cX8_rests 42 = .ok (.aload_n 0, 1) := by decide +kernel
theorem dX8_rests_43 : decode cX8_rests 43 = .ok (.getfield 54, 3) := by decide +kernel
theorem dX8_rests_46 : decode cX8_rests 46 = .ok (.aload_n 0, 1) := by decide +kernel
theorem dX8_rests_47 : decode cX8_rests 47 = .ok (.getfield 12, 3) := by decide +kernel
theorem dX8_rests_50 : decode cX8_rests 50 = .ok (.bipush 6, 2) := by decide +kernel
theorem dX8_rests_52 : decode cX8_rests 52 = .ok (.iload_n 1, 1) := by decide +kernel
theorem dX8_rests_53 : decode cX8_rests 53 = .ok (.invokevirtual 227, 3) := by decide +kernel
theorem dX8_rests_56 : decode cX8_rests 56 = .ok (.invokestatic 85, 3) := by decide +kernel
theorem dX8_rests_59 : decode cX8_rests 59 = .ok (.iload_n 2, 1) := by decide +kernel
theorem dX8_rests_60 : decode cX8_rests 60 = .ok (.iload_n 3, 1) := by decide +kernel
theorem dX8_rests_61 : decode cX8_rests 61 = .ok (.invokevirtual 230, 3) := by decide +kernel
theorem dX8_rests_64 : decode cX8_rests 64 = .ok (.iload 4, 2) := by decide +kernel
theorem dX8_rests_66 : decode cX8_rests 66 = .ok (.ifCond .ne 11, 3) := by decide +kernel
theorem dX8_rests_69 : decode cX8_rests 69 = .ok (.aload_n 0, 1) := by decide +kernel
theorem dX8_rests_70 : decode cX8_rests 70 = .ok (.getfield 54, 3) := by decide +kernel
theorem dX8_rests_73 : decode cX8_rests 73 = .ok (.getfield 233, 3) := by decide +kernel
theorem dX8_rests_76 : decode cX8_rests 76 = .ok (.ireturn, 1) := by decide +kernel
theorem dX8_rests_77 : decode cX8_rests 77 = .ok (.iload 4, 2) := by decide +kernel
theorem dX8_rests_79 : decode cX8_rests 79 = .ok (.iconst 1, 1) := by decide +kernel
theorem dX8_rests_80 : decode cX8_rests 80 = .ok (.if_icmp .ne 13, 3) := by decide +kernel
theorem dX8_rests_83 : decode cX8_rests 83 = .ok (.aload_n 0, 1) := by decide +kernel
theorem dX8_rests_84 : decode cX8_rests 84 = .ok (.getfield 54, 3) := by decide +kernel
theorem dX8_rests_87 : decode cX8_rests 87 = .ok (.getfield 236, 3) := by decide +kernel
theorem dX8_rests_90 : decode cX8_rests 90 = .ok (.goto 10, 3) := by decide +kernel
theorem dX8_rests_93 : decode cX8_rests 93 = .ok (.aload_n 0, 1) := by decide +kernel
theorem dX8_rests_94 : decode cX8_rests 94 = .ok (.getfield 54, 3) := by decide +kernel
theorem dX8_rests_97 : decode cX8_rests 97 = .ok (.getfield 239, 3) := by decide +kernel
theorem dX8_rests_100 : decode cX8_rests 100 = .ok (.ireturn, 1) := by decide +kernel
abbrev cxX8_rests (G : Rg) (X : Ct) : Prop := Cx G X cX8_rests 5 RX8 (some .int) 2 45 (Cond.code yX8_rests cX8_rests 5 (some .int))
def fX8_rests (x1 : Int32) (x2 : Int32) (x3 : Int32) (x4 : Int32) (M : Mm) : Option (Int32 × Mm) :=
bd (fX8_isWithin x1 (nI 0) (nI 1) M) fun r1 M1 =>
if r1 = (nI 0) then
(some ((mI 2), M1))
else
(bd (fX8_isWithin x2 (nI 0) (nI 99) M1) fun r3 M3 =>
if r3 = (nI 0) then
(some ((mI 2), M3))
else
(bd (fX8_isWithin x3 (nI 0) (nI 99) M3) fun r5 M5 =>
if r5 = (nI 0) then
(some ((mI 2), M5))
else
(bd (fX8_isWithin x4 (nI 0) (nI 2) M5) fun r7 M7 =>
if r7 = (nI 0) then
(some ((mI 2), M7))
else
(bd (fX0_lotIn 1 (nI 6) x1 M7) fun r9 M9 =>
bd (fJ6_bitCount_0f7a4 r9 M9) fun r10 M10 =>
bd (fX5_count r10 x2 x3 M10) fun _ M11 =>
if x4 = (nI 0) then
(some ((M11.1 26 0), M11))
else
(if x4 = (nI 1) then
(some ((M11.1 26 1), M11))
else
(some ((M11.1 26 2), M11)))))))
set_option maxHeartbeats 4000000 in
set_option maxRecDepth 100000 in
theorem mX8_rests (l : Launch) {G : Rg} (hG : gS G = shX) {x1 : Int32} {x2 : Int32} {x3 : Int32} {x4 : Int32}  {M Mf : Mm} {r : Int32} (hf : fX8_rests x1 x2 x3 x4 M = some (r, Mf)) : Mt l G yX8_rests cX8_rests 5 (some .int) 2 45 [.ref (gA G 0), .int x1, .int x2, .int x3, .int x4] M (some (.int r)) Mf := by
  refine Mt.of (by decide) (Nat.le_of_ble_eq_true rfl) ?_
  intro X C hX
  subst hX
  have C : cxX8_rests G X := C
  show V G X 5 (some (.int r)) Mf 0 [(0, .ref (gA G 0)), (1, .int x1), (2, .int x2), (3, .int x3), (4, .int x4)] [] M
  rw [fX8_rests] at hf
  refine V.iload_n (pc := 0) C 1 rfl dX8_rests_0 ?_
  refine V.iconst (pc := 1) C (nI 0) (by decide) dX8_rests_1 ?_
  refine V.iconst (pc := 2) C (nI 1) (by decide) dX8_rests_2 ?_
  obtain ⟨r1, M1, h1, hf⟩ := bd_some hf
  refine V.callSi (pc := 3) (As := [.int x1, .int (nI 0), .int (nI 1)]) (rest := []) C (mX8_isWithin X.2.1 hG  h1) mf_X8_isWithin wM_X8_73 rfl rfl ⟨by decide, by decide⟩ (Nat.le_of_ble_eq_true rfl) dX8_rests_3 ?_
  rcases it_some hf with ⟨h2, hf⟩ | ⟨h2, hf⟩
  · refine V.if_eqT (pc := 6) C 39 h2 (by decide) dX8_rests_6 ?_
    refine V.bipush (pc := 39) C (mI 2) (by decide) dX8_rests_39 ?_
    exact V.retI (pc := 41) C hf dX8_rests_41
  · refine V.if_eqF (pc := 6) C 39 h2 (by decide) dX8_rests_6 ?_
    refine V.iload_n (pc := 9) C 2 rfl dX8_rests_9 ?_
    refine V.iconst (pc := 10) C (nI 0) (by decide) dX8_rests_10 ?_
    refine V.bipush (pc := 11) C (nI 99) (by decide) dX8_rests_11 ?_
    obtain ⟨r3, M3, h3, hf⟩ := bd_some hf
    refine V.callSi (pc := 13) (As := [.int x2, .int (nI 0), .int (nI 99)]) (rest := []) C (mX8_isWithin X.2.1 hG  h3) mf_X8_isWithin wM_X8_73 rfl rfl ⟨by decide, by decide⟩ (Nat.le_of_ble_eq_true rfl) dX8_rests_13 ?_
    rcases it_some hf with ⟨h4, hf⟩ | ⟨h4, hf⟩
    · refine V.if_eqT (pc := 16) C 39 h4 (by decide) dX8_rests_16 ?_
      refine V.bipush (pc := 39) C (mI 2) (by decide) dX8_rests_39 ?_
      exact V.retI (pc := 41) C hf dX8_rests_41
    · refine V.if_eqF (pc := 16) C 39 h4 (by decide) dX8_rests_16 ?_
      refine V.iload_n (pc := 19) C 3 rfl dX8_rests_19 ?_
      refine V.iconst (pc := 20) C (nI 0) (by decide) dX8_rests_20 ?_
      refine V.bipush (pc := 21) C (nI 99) (by decide) dX8_rests_21 ?_
      obtain ⟨r5, M5, h5, hf⟩ := bd_some hf
      refine V.callSi (pc := 23) (As := [.int x3, .int (nI 0), .int (nI 99)]) (rest := []) C (mX8_isWithin X.2.1 hG  h5) mf_X8_isWithin wM_X8_73 rfl rfl ⟨by decide, by decide⟩ (Nat.le_of_ble_eq_true rfl) dX8_rests_23 ?_
      rcases it_some hf with ⟨h6, hf⟩ | ⟨h6, hf⟩
      · refine V.if_eqT (pc := 26) C 39 h6 (by decide) dX8_rests_26 ?_
        refine V.bipush (pc := 39) C (mI 2) (by decide) dX8_rests_39 ?_
        exact V.retI (pc := 41) C hf dX8_rests_41
      · refine V.if_eqF (pc := 26) C 39 h6 (by decide) dX8_rests_26 ?_
        refine V.iload (pc := 29) C 4 rfl dX8_rests_29 ?_
        refine V.iconst (pc := 31) C (nI 0) (by decide) dX8_rests_31 ?_
        refine V.iconst (pc := 32) C (nI 2) (by decide) dX8_rests_32 ?_
        obtain ⟨r7, M7, h7, hf⟩ := bd_some hf
        refine V.callSi (pc := 33) (As := [.int x4, .int (nI 0), .int (nI 2)]) (rest := []) C (mX8_isWithin X.2.1 hG  h7) mf_X8_isWithin wM_X8_73 rfl rfl ⟨by decide, by decide⟩ (Nat.le_of_ble_eq_true rfl) dX8_rests_33 ?_
        rcases it_some hf with ⟨h8, hf⟩ | ⟨h8, hf⟩
        · refine V.if_neF (pc := 36) C 42 h8 (by decide) dX8_rests_36 ?_
          refine V.bipush (pc := 39) C (mI 2) (by decide) dX8_rests_39 ?_
          exact V.retI (pc := 41) C hf dX8_rests_41
        · refine V.if_neT (pc := 36) C 42 h8 (by decide) dX8_rests_36 ?_
          refine V.aload_n (pc := 42) C 0 rfl dX8_rests_42 ?_
          refine V.getR (pc := 43) C clX8 inX8 (sx_0 hG) 6 (by decide) wF_X8_54 rfl dX8_rests_43 ?_
          refine V.aload_n (pc := 46) C 0 rfl dX8_rests_46 ?_
          refine V.getR (pc := 47) C clX8 inX8 (sx_0 hG) 0 (by decide) wF_X8_12 rfl dX8_rests_47 ?_
          refine V.bipush (pc := 50) C (nI 6) (by decide) dX8_rests_50 ?_
          refine V.iload_n (pc := 52) C 1 rfl dX8_rests_52 ?_
          obtain ⟨r9, M9, h9, hf⟩ := bd_some hf
          refine V.callVi (pc := 53) (As := [.int (nI 6), .int x1]) (rest := [.ref (gA G 26)]) C (mX0_lotIn X.2.1 hG (bx_1 hG) h9) mf_X0_lotIn clX0 (sx_1 hG) wM_X8_227 rfl rfl ⟨by decide, by decide⟩ (Nat.le_of_ble_eq_true rfl) dX8_rests_53 ?_
          obtain ⟨r10, M10, h10, hf⟩ := bd_some hf
          refine V.callSi (pc := 56) (As := [.int r9]) (rest := [.ref (gA G 26)]) C (mJ6_bitCount_0f7a4 X.2.1  h10) mf_J6_bitCount_0f7a4 wM_X8_85 rfl rfl ⟨by decide, by decide⟩ (Nat.le_of_ble_eq_true rfl) dX8_rests_56 ?_
          refine V.iload_n (pc := 59) C 2 rfl dX8_rests_59 ?_
          refine V.iload_n (pc := 60) C 3 rfl dX8_rests_60 ?_
          obtain ⟨_, M11, h11, hf⟩ := bd_some hf
          refine V.callVv (pc := 61) (As := [.int r10, .int x2, .int x3]) (rest := []) C (mX5_count X.2.1 hG  h11) mf_X5_count clX5 (sx_26 hG) wM_X8_230 rfl rfl ⟨by decide, by decide⟩ (Nat.le_of_ble_eq_true rfl) dX8_rests_61 ?_
          refine V.iload (pc := 64) C 4 rfl dX8_rests_64 ?_
          rcases it_some hf with ⟨h12, hf⟩ | ⟨h12, hf⟩
          · refine V.if_neF (pc := 66) C 77 h12 (by decide) dX8_rests_66 ?_
            refine V.aload_n (pc := 69) C 0 rfl dX8_rests_69 ?_
            refine V.getR (pc := 70) C clX8 inX8 (sx_0 hG) 6 (by decide) wF_X8_54 rfl dX8_rests_70 ?_
            refine V.getI (pc := 73) C clX5 inX5 (sx_26 hG) 0 (by decide) wF_X8_233 rfl dX8_rests_73 ?_
            exact V.retI (pc := 76) C hf dX8_rests_76
          · refine V.if_neT (pc := 66) C 77 h12 (by decide) dX8_rests_66 ?_
            refine V.iload (pc := 77) C 4 rfl dX8_rests_77 ?_
            refine V.iconst (pc := 79) C (nI 1) (by decide) dX8_rests_79 ?_
            rcases it_some hf with ⟨h13, hf⟩ | ⟨h13, hf⟩
            · refine V.ic_neF (pc := 80) C 93 h13 (by decide) dX8_rests_80 ?_
              refine V.aload_n (pc := 83) C 0 rfl dX8_rests_83 ?_
              refine V.getR (pc := 84) C clX8 inX8 (sx_0 hG) 6 (by decide) wF_X8_54 rfl dX8_rests_84 ?_
              refine V.getI (pc := 87) C clX5 inX5 (sx_26 hG) 1 (by decide) wF_X8_236 rfl dX8_rests_87 ?_
              refine V.goto (pc := 90) C 100 (by decide) dX8_rests_90 ?_
              exact V.retI (pc := 100) C hf dX8_rests_100
            · refine V.ic_neT (pc := 80) C 93 h13 (by decide) dX8_rests_80 ?_
              refine V.aload_n (pc := 93) C 0 rfl dX8_rests_93 ?_
              refine V.getR (pc := 94) C clX8 inX8 (sx_0 hG) 6 (by decide) wF_X8_54 rfl dX8_rests_94 ?_
              refine V.getI (pc := 97) C clX5 inX5 (sx_26 hG) 2 (by decide) wF_X8_239 rfl dX8_rests_97 ?_
              exact V.retI (pc := 100) C hf dX8_rests_100
theorem dX7_tryDeed_0 : decode cX7_tryDeed 0 = .ok (.aload_n 0, 1) := by decide +kernel
theorem dX7_tryDeed_1 : decode cX7_tryDeed 1 = .ok (.getfield 12, 3) := by decide +kernel
theorem dX7_tryDeed_4 : decode cX7_tryDeed 4 = .ok (.iload_n 1, 1) := by decide +kernel
theorem dX7_tryDeed_5 : decode cX7_tryDeed 5 = .ok (.iload_n 2, 1) := by decide +kernel
theorem dX7_tryDeed_6 : decode cX7_tryDeed 6 = .ok (.invokevirtual 41, 3) := by decide +kernel
theorem dX7_tryDeed_9 : decode cX7_tryDeed 9 = .ok (.ifCond .ne 31, 3) := by decide +kernel
theorem dX7_tryDeed_12 : decode cX7_tryDeed 12 = .ok (.aload_n 0, 1) := by decide +kernel
theorem dX7_tryDeed_13 : decode cX7_tryDeed 13 = .ok (.getfield 12, 3) := by decide +kernel
theorem dX7_tryDeed_16 : decode cX7_tryDeed 16 = .ok (.iload_n 1, 1) := by decide +kernel
theorem dX7_tryDeed_17 : decode cX7_tryDeed 17 = .ok (.iload_n 2, 1) := by decide +kernel
theorem dX7_tryDeed_18 : decode cX7_tryDeed 18 = .ok (.invokevirtual 45, 3) := by decide +kernel
theorem dX7_tryDeed_21 : decode cX7_tryDeed 21 = .ok (.aload_n 0, 1) := by decide +kernel
theorem dX7_tryDeed_22 : decode cX7_tryDeed 22 = .ok (.dup, 1) := by decide +kernel
theorem dX7_tryDeed_23 : decode cX7_tryDeed 23 = .ok (.getfield 26, 3) := by decide +kernel
theorem dX7_tryDeed_26 : decode cX7_tryDeed 26 = .ok (.iload_n 2, 1) := by decide +kernel
theorem dX7_tryDeed_27 : decode cX7_tryDeed 27 = .ok (.iconst 2, 1) := by decide +kernel
theorem dX7_tryDeed_28 : decode cX7_tryDeed 28 = .ok (.if_icmp .ne 7, 3) := by decide +kernel
theorem dX7_tryDeed_31 : decode cX7_tryDeed 31 = .ok (.iconst 1, 1) := by decide +kernel
theorem dX7_tryDeed_32 : decode cX7_tryDeed 32 = .ok (.goto 4, 3) := by decide +kernel
theorem dX7_tryDeed_35 : decode cX7_tryDeed 35 = .ok (.iconst 0, 1) := by decide +kernel
theorem dX7_tryDeed_36 : decode cX7_tryDeed 36 = .ok (.iadd, 1) := by decide +kernel
theorem dX7_tryDeed_37 : decode cX7_tryDeed 37 = .ok (.putfield 26, 3) := by decide +kernel
theorem dX7_tryDeed_40 : decode cX7_tryDeed 40 = .ok (.return_, 1) := by decide +kernel
abbrev cxX7_tryDeed (G : Rg) (X : Ct) : Prop := Cx G X cX7_tryDeed 3 RX7 (none) 2 62 (Cond.code yX7_tryDeed cX7_tryDeed 3 (none))
def fX7_tryDeed (x1 : Int32) (x2 : Int32) (M : Mm) : Option (Unit × Mm) :=
bd (fX0_whyNot 28 x1 x2 M) fun r1 M1 =>
if r1 = (nI 0) then
(bd (fX0_carryOut 28 x1 x2 M1) fun _ M3 =>
if x2 = (nI 2) then
(some ((), (sI M3 27 2 ((M3.1 27 2) + (nI 1)))))
else
(some ((), (sI M3 27 2 ((M3.1 27 2) + (nI 0))))))
else
(some ((), M1))
set_option maxHeartbeats 4000000 in
set_option maxRecDepth 100000 in
theorem mX7_tryDeed (l : Launch) {G : Rg} (hG : gS G = shX) {x1 : Int32} {x2 : Int32}  {M Mf : Mm} {r : Unit} (hf : fX7_tryDeed x1 x2 M = some (r, Mf)) : Mt l G yX7_tryDeed cX7_tryDeed 3 (none) 2 62 [.ref (gA G 27), .int x1, .int x2] M none Mf := by
  refine Mt.of (by decide) (Nat.le_of_ble_eq_true rfl) ?_
  intro X C hX
  subst hX
  have C : cxX7_tryDeed G X := C
  show V G X 3 none Mf 0 [(0, .ref (gA G 27)), (1, .int x1), (2, .int x2)] [] M
  rw [fX7_tryDeed] at hf
  refine V.aload_n (pc := 0) C 0 rfl dX7_tryDeed_0 ?_
  refine V.getR (pc := 1) C clX7 inX7 (sx_27 hG) 0 (by decide) wF_X7_12 rfl dX7_tryDeed_1 ?_
  refine V.iload_n (pc := 4) C 1 rfl dX7_tryDeed_4 ?_
  refine V.iload_n (pc := 5) C 2 rfl dX7_tryDeed_5 ?_
  obtain ⟨r1, M1, h1, hf⟩ := bd_some hf
  refine V.callVi (pc := 6) (As := [.int x1, .int x2]) (rest := []) C (mX0_whyNot X.2.1 hG (bx_28 hG) h1) mf_X0_whyNot clX0 (sx_28 hG) wM_X7_41 rfl rfl ⟨by decide, by decide⟩ (Nat.le_of_ble_eq_true rfl) dX7_tryDeed_6 ?_
  rcases it_some hf with ⟨h2, hf⟩ | ⟨h2, hf⟩
  · refine V.if_neF (pc := 9) C 40 h2 (by decide) dX7_tryDeed_9 ?_
    refine V.aload_n (pc := 12) C 0 rfl dX7_tryDeed_12 ?_
    refine V.getR (pc := 13) C clX7 inX7 (sx_27 hG) 0 (by decide) wF_X7_12 rfl dX7_tryDeed_13 ?_
    refine V.iload_n (pc := 16) C 1 rfl dX7_tryDeed_16 ?_
    refine V.iload_n (pc := 17) C 2 rfl dX7_tryDeed_17 ?_
    obtain ⟨_, M3, h3, hf⟩ := bd_some hf
    refine V.callVv (pc := 18) (As := [.int x1, .int x2]) (rest := []) C (mX0_carryOut X.2.1 hG (bx_28 hG) h3) mf_X0_carryOut clX0 (sx_28 hG) wM_X7_45 rfl rfl ⟨by decide, by decide⟩ (Nat.le_of_ble_eq_true rfl) dX7_tryDeed_18 ?_
    refine V.aload_n (pc := 21) C 0 rfl dX7_tryDeed_21 ?_
    refine V.dup (pc := 22) C rfl dX7_tryDeed_22 ?_
    refine V.getI (pc := 23) C clX7 inX7 (sx_27 hG) 2 (by decide) wF_X7_26 rfl dX7_tryDeed_23 ?_
    refine V.iload_n (pc := 26) C 2 rfl dX7_tryDeed_26 ?_
    refine V.iconst (pc := 27) C (nI 2) (by decide) dX7_tryDeed_27 ?_
    rcases it_some hf with ⟨h4, hf⟩ | ⟨h4, hf⟩
    · refine V.ic_neF (pc := 28) C 35 h4 (by decide) dX7_tryDeed_28 ?_
      refine V.iconst (pc := 31) C (nI 1) (by decide) dX7_tryDeed_31 ?_
      refine V.goto (pc := 32) C 36 (by decide) dX7_tryDeed_32 ?_
      refine V.iadd (pc := 36) C dX7_tryDeed_36 ?_
      refine V.putI (pc := 37) C clX7 inX7 (sx_27 hG) 2 (by decide) wF_X7_26 tyX7 tyX7_ok nmX7 rfl (tyX7_ok 2 (by decide)) rfl dX7_tryDeed_37 ?_
      exact V.retV (pc := 40) C hf dX7_tryDeed_40
    · refine V.ic_neT (pc := 28) C 35 h4 (by decide) dX7_tryDeed_28 ?_
      refine V.iconst (pc := 35) C (nI 0) (by decide) dX7_tryDeed_35 ?_
      refine V.iadd (pc := 36) C dX7_tryDeed_36 ?_
      refine V.putI (pc := 37) C clX7 inX7 (sx_27 hG) 2 (by decide) wF_X7_26 tyX7 tyX7_ok nmX7 rfl (tyX7_ok 2 (by decide)) rfl dX7_tryDeed_37 ?_
      exact V.retV (pc := 40) C hf dX7_tryDeed_40
  · refine V.if_neT (pc := 9) C 40 h2 (by decide) dX7_tryDeed_9 ?_
    exact V.retV (pc := 40) C hf dX7_tryDeed_40
theorem dX7_tryExchange_0 : decode cX7_tryExchange 0 = .ok (.aload_n 0, 1) := by decide +kernel
theorem dX7_tryExchange_1 : decode cX7_tryExchange 1 = .ok (.getfield 12, 3) := by decide +kernel
theorem dX7_tryExchange_4 : decode cX7_tryExchange 4 = .ok (.iload_n 1, 1) := by decide +kernel
theorem dX7_tryExchange_5 : decode cX7_tryExchange 5 = .ok (.iconst 0, 1) := by decide +kernel
theorem dX7_tryExchange_6 : decode cX7_tryExchange 6 = .ok (.invokevirtual 48, 3) := by decide +kernel
theorem dX7_tryExchange_9 : decode cX7_tryExchange 9 = .ok (.ifCond .ne 21, 3) := by decide +kernel
theorem dX7_tryExchange_12 : decode cX7_tryExchange 12 = .ok (.aload_n 0, 1) := by decide +kernel
theorem dX7_tryExchange_13 : decode cX7_tryExchange 13 = .ok (.getfield 12, 3) := by decide +kernel
theorem dX7_tryExchange_16 : decode cX7_tryExchange 16 = .ok (.iload_n 1, 1) := by decide +kernel
theorem dX7_tryExchange_17 : decode cX7_tryExchange 17 = .ok (.invokevirtual 52, 3) := by decide +kernel
theorem dX7_tryExchange_20 : decode cX7_tryExchange 20 = .ok (.aload_n 0, 1) := by decide +kernel
theorem dX7_tryExchange_21 : decode cX7_tryExchange 21 = .ok (.dup, 1) := by decide +kernel
theorem dX7_tryExchange_22 : decode cX7_tryExchange 22 = .ok (.getfield 22, 3) := by decide +kernel
theorem dX7_tryExchange_25 : decode cX7_tryExchange 25 = .ok (.iconst 1, 1) := by decide +kernel
theorem dX7_tryExchange_26 : decode cX7_tryExchange 26 = .ok (.iadd, 1) := by decide +kernel
theorem dX7_tryExchange_27 : decode cX7_tryExchange 27 = .ok (.putfield 22, 3) := by decide +kernel
theorem dX7_tryExchange_30 : decode cX7_tryExchange 30 = .ok (.return_, 1) := by decide +kernel
abbrev cxX7_tryExchange (G : Rg) (X : Ct) : Prop := Cx G X cX7_tryExchange 2 RX7 (none) 3 66 (Cond.code yX7_tryExchange cX7_tryExchange 2 (none))
def fX7_tryExchange (x1 : Int32) (M : Mm) : Option (Unit × Mm) :=
bd (fX0_whyNoExchange 28 x1 (nI 0) M) fun r1 M1 =>
if r1 = (nI 0) then
(bd (fX0_setFree 28 x1 M1) fun _ M3 =>
some ((), (sI M3 27 1 ((M3.1 27 1) + (nI 1)))))
else
(some ((), M1))
set_option maxHeartbeats 4000000 in
set_option maxRecDepth 100000 in
theorem mX7_tryExchange (l : Launch) {G : Rg} (hG : gS G = shX) {x1 : Int32}  {M Mf : Mm} {r : Unit} (hf : fX7_tryExchange x1 M = some (r, Mf)) : Mt l G yX7_tryExchange cX7_tryExchange 2 (none) 3 66 [.ref (gA G 27), .int x1] M none Mf := by
  refine Mt.of (by decide) (Nat.le_of_ble_eq_true rfl) ?_
  intro X C hX
  subst hX
  have C : cxX7_tryExchange G X := C
  show V G X 2 none Mf 0 [(0, .ref (gA G 27)), (1, .int x1)] [] M
  rw [fX7_tryExchange] at hf
  refine V.aload_n (pc := 0) C 0 rfl dX7_tryExchange_0 ?_
  refine V.getR (pc := 1) C clX7 inX7 (sx_27 hG) 0 (by decide) wF_X7_12 rfl dX7_tryExchange_1 ?_
  refine V.iload_n (pc := 4) C 1 rfl dX7_tryExchange_4 ?_
  refine V.iconst (pc := 5) C (nI 0) (by decide) dX7_tryExchange_5 ?_
  obtain ⟨r1, M1, h1, hf⟩ := bd_some hf
  refine V.callVi (pc := 6) (As := [.int x1, .int (nI 0)]) (rest := []) C (mX0_whyNoExchange X.2.1 hG (bx_28 hG) h1) mf_X0_whyNoExchange clX0 (sx_28 hG) wM_X7_48 rfl rfl ⟨by decide, by decide⟩ (Nat.le_of_ble_eq_true rfl) dX7_tryExchange_6 ?_
  rcases it_some hf with ⟨h2, hf⟩ | ⟨h2, hf⟩
  · refine V.if_neF (pc := 9) C 30 h2 (by decide) dX7_tryExchange_9 ?_
    refine V.aload_n (pc := 12) C 0 rfl dX7_tryExchange_12 ?_
    refine V.getR (pc := 13) C clX7 inX7 (sx_27 hG) 0 (by decide) wF_X7_12 rfl dX7_tryExchange_13 ?_
    refine V.iload_n (pc := 16) C 1 rfl dX7_tryExchange_16 ?_
    obtain ⟨_, M3, h3, hf⟩ := bd_some hf
    refine V.callVv (pc := 17) (As := [.int x1]) (rest := []) C (mX0_setFree X.2.1 hG (bx_28 hG) h3) mf_X0_setFree clX0 (sx_28 hG) wM_X7_52 rfl rfl ⟨by decide, by decide⟩ (Nat.le_of_ble_eq_true rfl) dX7_tryExchange_17 ?_
    refine V.aload_n (pc := 20) C 0 rfl dX7_tryExchange_20 ?_
    refine V.dup (pc := 21) C rfl dX7_tryExchange_21 ?_
    refine V.getI (pc := 22) C clX7 inX7 (sx_27 hG) 1 (by decide) wF_X7_22 rfl dX7_tryExchange_22 ?_
    refine V.iconst (pc := 25) C (nI 1) (by decide) dX7_tryExchange_25 ?_
    refine V.iadd (pc := 26) C dX7_tryExchange_26 ?_
    refine V.putI (pc := 27) C clX7 inX7 (sx_27 hG) 1 (by decide) wF_X7_22 tyX7 tyX7_ok nmX7 rfl (tyX7_ok 1 (by decide)) rfl dX7_tryExchange_27 ?_
    exact V.retV (pc := 30) C hf dX7_tryExchange_30
  · refine V.if_neT (pc := 9) C 30 h2 (by decide) dX7_tryExchange_9 ?_
    exact V.retV (pc := 30) C hf dX7_tryExchange_30
theorem dX7_draw_0 : decode cX7_draw 0 = .ok (.iload_n 1, 1) := by decide +kernel
theorem dX7_draw_1 : decode cX7_draw 1 = .ok (.bipush 12, 2) := by decide +kernel
theorem dX7_draw_3 : decode cX7_draw 3 = .ok (.irem, 1) := by decide +kernel
theorem dX7_draw_4 : decode cX7_draw 4 = .ok (.istore_n 2, 1) := by decide +kernel
theorem dX7_draw_5 : decode cX7_draw 5 = .ok (.iload_n 1, 1) := by decide +kernel
theorem dX7_draw_6 : decode cX7_draw 6 = .ok (.bipush 12, 2) := by decide +kernel
theorem dX7_draw_8 : decode cX7_draw 8 = .ok (.idiv, 1) := by decide +kernel
theorem dX7_draw_9 : decode cX7_draw 9 = .ok (.bipush 6, 2) := by decide +kernel
theorem dX7_draw_11 : decode cX7_draw 11 = .ok (.irem, 1) := by decide +kernel
theorem dX7_draw_12 : decode cX7_draw 12 = .ok (.istore_n 3, 1) := by decide +kernel
theorem dX7_draw_13 : decode cX7_draw 13 = .ok (.iload_n 3, 1) := by decide +kernel
theorem dX7_draw_14 : decode cX7_draw 14 = .ok (.iconst 3, 1) := by decide +kernel
theorem dX7_draw_15 : decode cX7_draw 15 = .ok (.if_icmp .gt 12, 3) := by decide +kernel
theorem dX7_draw_18 : decode cX7_draw 18 = .ok (.aload_n 0, 1) := by decide +kernel
theorem dX7_draw_19 : decode cX7_draw 19 = .ok (.iload_n 2, 1) := by decide +kernel
theorem dX7_draw_20 : decode cX7_draw 20 = .ok (.iload_n 3, 1) := by decide +kernel
theorem dX7_draw_21 : decode cX7_draw 21 = .ok (.invokevirtual 34, 3) := by decide +kernel
theorem dX7_draw_24 : decode cX7_draw 24 = .ok (.goto 38, 3) := by decide +kernel
theorem dX7_draw_27 : decode cX7_draw 27 = .ok (.iload_n 1, 1) := by decide +kernel
theorem dX7_draw_28 : decode cX7_draw 28 = .ok (.bipush 72, 2) := by decide +kernel
theorem dX7_draw_30 : decode cX7_draw 30 = .ok (.idiv, 1) := by decide +kernel
theorem dX7_draw_31 : decode cX7_draw 31 = .ok (.bipush 6, 2) := by decide +kernel
theorem dX7_draw_33 : decode cX7_draw 33 = .ok (.irem, 1) := by decide +kernel
theorem dX7_draw_34 : decode cX7_draw 34 = .ok (.istore 4, 2) := by decide +kernel
theorem dX7_draw_36 : decode cX7_draw 36 = .ok (.aload_n 0, 1) := by decide +kernel
theorem dX7_draw_37 : decode cX7_draw 37 = .ok (.iconst 1, 1) := by decide +kernel
theorem dX7_draw_38 : decode cX7_draw 38 = .ok (.iload_n 2, 1) := by decide +kernel
theorem dX7_draw_39 : decode cX7_draw 39 = .ok (.ishl, 1) := by decide +kernel
theorem dX7_draw_40 : decode cX7_draw 40 = .ok (.iconst 1, 1) := by decide +kernel
theorem dX7_draw_41 : decode cX7_draw 41 = .ok (.iload_n 2, 1) := by decide +kernel
theorem dX7_draw_42 : decode cX7_draw 42 = .ok (.bipush 6, 2) := by decide +kernel
theorem dX7_draw_44 : decode cX7_draw 44 = .ok (.if_icmp .ge 11, 3) := by decide +kernel
theorem dX7_draw_47 : decode cX7_draw 47 = .ok (.iload 4, 2) := by decide +kernel
theorem dX7_draw_49 : decode cX7_draw 49 = .ok (.bipush 6, 2) := by decide +kernel
theorem dX7_draw_51 : decode cX7_draw 51 = .ok (.iadd, 1) := by decide +kernel
theorem dX7_draw_52 : decode cX7_draw 52 = .ok (.goto 5, 3) := by decide +kernel
theorem dX7_draw_55 : decode cX7_draw 55 = .ok (.iload 4, 2) := by decide +kernel
theorem dX7_draw_57 : decode cX7_draw 57 = .ok (.ishl, 1) := by decide +kernel
theorem dX7_draw_58 : decode cX7_draw 58 = .ok (.ior, 1) := by decide +kernel
theorem dX7_draw_59 : decode cX7_draw 59 = .ok (.invokevirtual 38, 3) := by decide +kernel
theorem dX7_draw_62 : decode cX7_draw 62 = .ok (.return_, 1) := by decide +kernel
abbrev cxX7_draw (G : Rg) (X : Ct) : Prop := Cx G X cX7_draw 5 RX7 (none) 4 87 (Cond.code yX7_draw cX7_draw 5 (none))
def fX7_draw_b57   (s1 : Int32) (s2 : Int32) (s3 : Int32) (M : Mm) : Option (Unit × Mm) :=
bd (fX7_tryExchange (s1 ||| (jshl s2 s3)) M) fun _ M1 =>
some ((), M1)
set_option maxHeartbeats 4000000 in
set_option maxRecDepth 100000 in
theorem vX7_draw_b57 {G : Rg} {X : Ct} {r : Unit} {Mf : Mm}   (C : cxX7_draw G X) (hG : gS G = shX)   (s1 : Int32) (s2 : Int32) (s3 : Int32) (M : Mm) (hf : fX7_draw_b57 s1 s2 s3 M = some (r, Mf)) : V G X 5 none Mf 57 [] [.int s3, .int s2, .int s1, .ref (gA G 27)] M := by
  rw [fX7_draw_b57] at hf
  refine V.ishl (pc := 57) C dX7_draw_57 ?_
  refine V.ior (pc := 58) C dX7_draw_58 ?_
  obtain ⟨_, M1, h1, hf⟩ := bd_some hf
  refine V.callVv (pc := 59) (As := [.int (s1 ||| (jshl s2 s3))]) (rest := []) C (mX7_tryExchange X.2.1 hG  h1) mf_X7_tryExchange clX7 (sx_27 hG) wM_X7_38 rfl rfl ⟨by decide, by decide⟩ (Nat.le_of_ble_eq_true rfl) dX7_draw_59 ?_
  exact V.retV (pc := 62) C hf dX7_draw_62
def fX7_draw (x1 : Int32) (M : Mm) : Option (Unit × Mm) :=
if (nI 3) < (jrem (x1 / (nI 12)) (nI 6)) then
(if (nI 6) ≤ (jrem x1 (nI 12)) then
(fX7_draw_b57 (jshl (nI 1) (jrem x1 (nI 12))) (nI 1) (jrem (x1 / (nI 72)) (nI 6)) M)
else
(fX7_draw_b57 (jshl (nI 1) (jrem x1 (nI 12))) (nI 1) ((jrem (x1 / (nI 72)) (nI 6)) + (nI 6)) M))
else
(bd (fX7_tryDeed (jrem x1 (nI 12)) (jrem (x1 / (nI 12)) (nI 6)) M) fun _ M3 =>
some ((), M3))
set_option maxHeartbeats 4000000 in
set_option maxRecDepth 100000 in
theorem mX7_draw (l : Launch) {G : Rg} (hG : gS G = shX) {x1 : Int32}  {M Mf : Mm} {r : Unit} (hf : fX7_draw x1 M = some (r, Mf)) : Mt l G yX7_draw cX7_draw 5 (none) 4 87 [.ref (gA G 27), .int x1] M none Mf := by
  refine Mt.of (by decide) (Nat.le_of_ble_eq_true rfl) ?_
  intro X C hX
  subst hX
  have C : cxX7_draw G X := C
  show V G X 5 none Mf 0 [(0, .ref (gA G 27)), (1, .int x1)] [] M
  rw [fX7_draw] at hf
  refine V.iload_n (pc := 0) C 1 rfl dX7_draw_0 ?_
  refine V.bipush (pc := 1) C (nI 12) (by decide) dX7_draw_1 ?_
  refine V.irem (pc := 3) C (by decide) dX7_draw_3 ?_
  refine V.istore_n (pc := 4) (lv' := [(2, .int (jrem x1 (nI 12))), (0, .ref (gA G 27)), (1, .int x1)]) C (by decide) rfl dX7_draw_4 ?_
  refine V.iload_n (pc := 5) C 2 rfl dX7_draw_5 ?_
  refine V.bipush (pc := 6) C (nI 12) (by decide) dX7_draw_6 ?_
  refine V.idiv (pc := 8) C (by decide) dX7_draw_8 ?_
  refine V.bipush (pc := 9) C (nI 6) (by decide) dX7_draw_9 ?_
  refine V.irem (pc := 11) C (by decide) dX7_draw_11 ?_
  refine V.istore_n (pc := 12) (lv' := [(3, .int (jrem (x1 / (nI 12)) (nI 6))), (2, .int (jrem x1 (nI 12))), (0, .ref (gA G 27)), (1, .int x1)]) C (by decide) rfl dX7_draw_12 ?_
  refine V.iload_n (pc := 13) C 0 rfl dX7_draw_13 ?_
  refine V.iconst (pc := 14) C (nI 3) (by decide) dX7_draw_14 ?_
  rcases it_some hf with ⟨h1, hf⟩ | ⟨h1, hf⟩
  · refine V.ic_gtT (pc := 15) C 27 h1 (by decide) dX7_draw_15 ?_
    refine V.iload_n (pc := 27) C 3 rfl dX7_draw_27 ?_
    refine V.bipush (pc := 28) C (nI 72) (by decide) dX7_draw_28 ?_
    refine V.idiv (pc := 30) C (by decide) dX7_draw_30 ?_
    refine V.bipush (pc := 31) C (nI 6) (by decide) dX7_draw_31 ?_
    refine V.irem (pc := 33) C (by decide) dX7_draw_33 ?_
    refine V.istore (pc := 34) (lv' := [(4, .int (jrem (x1 / (nI 72)) (nI 6))), (3, .int (jrem (x1 / (nI 12)) (nI 6))), (2, .int (jrem x1 (nI 12))), (0, .ref (gA G 27)), (1, .int x1)]) C (by decide) rfl dX7_draw_34 ?_
    refine V.aload_n (pc := 36) C 3 rfl dX7_draw_36 ?_
    refine V.iconst (pc := 37) C (nI 1) (by decide) dX7_draw_37 ?_
    refine V.iload_n (pc := 38) C 2 rfl dX7_draw_38 ?_
    refine V.ishl (pc := 39) C dX7_draw_39 ?_
    refine V.iconst (pc := 40) C (nI 1) (by decide) dX7_draw_40 ?_
    refine V.iload_n (pc := 41) C 2 rfl dX7_draw_41 ?_
    refine V.bipush (pc := 42) C (nI 6) (by decide) dX7_draw_42 ?_
    rcases it_some hf with ⟨h2, hf⟩ | ⟨h2, hf⟩
    · refine V.ic_geT (pc := 44) C 55 h2 (by decide) dX7_draw_44 ?_
      refine V.iload (pc := 55) C 0 rfl dX7_draw_55 ?_
      refine V.sub C [] (lv' := []) rfl ?_
      exact vX7_draw_b57 C hG    _ _ _ _ hf
    · refine V.ic_geF (pc := 44) C 55 h2 (by decide) dX7_draw_44 ?_
      refine V.iload (pc := 47) C 0 rfl dX7_draw_47 ?_
      refine V.bipush (pc := 49) C (nI 6) (by decide) dX7_draw_49 ?_
      refine V.iadd (pc := 51) C dX7_draw_51 ?_
      refine V.goto (pc := 52) C 57 (by decide) dX7_draw_52 ?_
      refine V.sub C [] (lv' := []) rfl ?_
      exact vX7_draw_b57 C hG    _ _ _ _ hf
  · refine V.ic_gtF (pc := 15) C 27 h1 (by decide) dX7_draw_15 ?_
    refine V.aload_n (pc := 18) C 2 rfl dX7_draw_18 ?_
    refine V.iload_n (pc := 19) C 1 rfl dX7_draw_19 ?_
    refine V.iload_n (pc := 20) C 0 rfl dX7_draw_20 ?_
    obtain ⟨_, M3, h3, hf⟩ := bd_some hf
    refine V.callVv (pc := 21) (As := [.int (jrem x1 (nI 12)), .int (jrem (x1 / (nI 12)) (nI 6))]) (rest := []) C (mX7_tryDeed X.2.1 hG  h3) mf_X7_tryDeed clX7 (sx_27 hG) wM_X7_34 rfl rfl ⟨by decide, by decide⟩ (Nat.le_of_ble_eq_true rfl) dX7_draw_21 ?_
    refine V.goto (pc := 24) C 62 (by decide) dX7_draw_24 ?_
    exact V.retV (pc := 62) C hf dX7_draw_62
theorem dX7_pass_0 : decode cX7_pass 0 = .ok (.aload_n 0, 1) := by decide +kernel
theorem dX7_pass_1 : decode cX7_pass 1 = .ok (.getfield 12, 3) := by decide +kernel
theorem dX7_pass_4 : decode cX7_pass 4 = .ok (.aload_n 1, 1) := by decide +kernel
theorem dX7_pass_5 : decode cX7_pass 5 = .ok (.invokevirtual 18, 3) := by decide +kernel
theorem dX7_pass_8 : decode cX7_pass 8 = .ok (.aload_n 0, 1) := by decide +kernel
theorem dX7_pass_9 : decode cX7_pass 9 = .ok (.iconst 0, 1) := by decide +kernel
theorem dX7_pass_10 : decode cX7_pass 10 = .ok (.putfield 22, 3) := by decide +kernel
theorem dX7_pass_13 : decode cX7_pass 13 = .ok (.aload_n 0, 1) := by decide +kernel
theorem dX7_pass_14 : decode cX7_pass 14 = .ok (.iconst 0, 1) := by decide +kernel
theorem dX7_pass_15 : decode cX7_pass 15 = .ok (.putfield 26, 3) := by decide +kernel
theorem dX7_pass_18 : decode cX7_pass 18 = .ok (.iload_n 2, 1) := by decide +kernel
theorem dX7_pass_19 : decode cX7_pass 19 = .ok (.istore 4, 2) := by decide +kernel
theorem dX7_pass_21 : decode cX7_pass 21 = .ok (.iconst 0, 1) := by decide +kernel
theorem dX7_pass_22 : decode cX7_pass 22 = .ok (.istore 5, 2) := by decide +kernel
theorem dX7_pass_24 : decode cX7_pass 24 = .ok (.iload 5, 2) := by decide +kernel
theorem dX7_pass_26 : decode cX7_pass 26 = .ok (.iload_n 3, 1) := by decide +kernel
theorem dX7_pass_27 : decode cX7_pass 27 = .ok (.if_icmp .ge 28, 3) := by decide +kernel
theorem dX7_pass_30 : decode cX7_pass 30 = .ok (.bipush 75, 2) := by decide +kernel
theorem dX7_pass_32 : decode cX7_pass 32 = .ok (.iload 4, 2) := by decide +kernel
theorem dX7_pass_34 : decode cX7_pass 34 = .ok (.imul, 1) := by decide +kernel
theorem dX7_pass_35 : decode cX7_pass 35 = .ok (.bipush 74, 2) := by decide +kernel
theorem dX7_pass_37 : decode cX7_pass 37 = .ok (.iadd, 1) := by decide +kernel
theorem dX7_pass_38 : decode cX7_pass 38 = .ok (.ldc 29, 2) := by decide +kernel
theorem dX7_pass_40 : decode cX7_pass 40 = .ok (.irem, 1) := by decide +kernel
theorem dX7_pass_41 : decode cX7_pass 41 = .ok (.istore 4, 2) := by decide +kernel
theorem dX7_pass_43 : decode cX7_pass 43 = .ok (.aload_n 0, 1) := by decide +kernel
theorem dX7_pass_44 : decode cX7_pass 44 = .ok (.iload 4, 2) := by decide +kernel
theorem dX7_pass_46 : decode cX7_pass 46 = .ok (.invokevirtual 30, 3) := by decide +kernel
theorem dX7_pass_49 : decode cX7_pass 49 = .ok (.iinc 5 1, 3) := by decide +kernel
theorem dX7_pass_52 : decode cX7_pass 52 = .ok (.goto (-28), 3) := by decide +kernel
theorem dX7_pass_55 : decode cX7_pass 55 = .ok (.return_, 1) := by decide +kernel
abbrev cxX7_pass (G : Rg) (X : Ct) : Prop := Cx G X cX7_pass 6 RX7 (none) 5 111 (Cond.code yX7_pass cX7_pass 6 (none))
def fX7_pass_b24  (c1 : Nat) : Nat → Int32 → Int32 → Int32 → Mm → Option (Unit × Mm)
  | 0, _, _, _, _ => none
  | n + 1, v3, v4, v5, M =>
    if v3 ≤ v5 then
    (some ((), M))
    else
    (bd (fX7_draw (jrem (((nI 75) * v4) + (nI 74)) (nI 65537)) M) fun _ M2 =>
    fX7_pass_b24 c1 n v3 (jrem (((nI 75) * v4) + (nI 74)) (nI 65537)) (v5 + (nI 1)) M2)
set_option maxHeartbeats 4000000 in
set_option maxRecDepth 100000 in
theorem vX7_pass_b24 {G : Rg} {X : Ct} {r : Unit} {Mf : Mm} {c1 : Nat}  (C : cxX7_pass G X) (hG : gS G = shX) (hB1 : isB G c1)  : ∀ (n : Nat) (v3 : Int32) (v4 : Int32) (v5 : Int32) (M : Mm), fX7_pass_b24 c1 n v3 v4 v5 M = some (r, Mf) → V G X 6 none Mf 24 [(0, .ref (gA G 27)), (3, .int v3), (4, .int v4), (5, .int v5)] [] M := by
  intro n
  induction n with
  | zero => intro v3 v4 v5 M hf; rw [fX7_pass_b24] at hf; cases hf
  | succ n ih =>
    intro v3 v4 v5 M hf
    rw [fX7_pass_b24] at hf
    refine V.iload (pc := 24) C 3 rfl dX7_pass_24 ?_
    refine V.iload_n (pc := 26) C 1 rfl dX7_pass_26 ?_
    rcases it_some hf with ⟨h1, hf⟩ | ⟨h1, hf⟩
    · refine V.ic_geT (pc := 27) C 55 h1 (by decide) dX7_pass_27 ?_
      exact V.retV (pc := 55) C hf dX7_pass_55
    · refine V.ic_geF (pc := 27) C 55 h1 (by decide) dX7_pass_27 ?_
      refine V.bipush (pc := 30) C (nI 75) (by decide) dX7_pass_30 ?_
      refine V.iload (pc := 32) C 2 rfl dX7_pass_32 ?_
      refine V.imul (pc := 34) C dX7_pass_34 ?_
      refine V.bipush (pc := 35) C (nI 74) (by decide) dX7_pass_35 ?_
      refine V.iadd (pc := 37) C dX7_pass_37 ?_
      refine V.ldc (pc := 38) C wC_X7_29 dX7_pass_38 ?_
      refine V.irem (pc := 40) C (by decide) dX7_pass_40 ?_
      refine V.istore (pc := 41) (lv' := [(4, .int (jrem (((nI 75) * v4) + (nI 74)) (nI 65537))), (0, .ref (gA G 27)), (3, .int v3), (5, .int v5)]) C (by decide) rfl dX7_pass_41 ?_
      refine V.aload_n (pc := 43) C 1 rfl dX7_pass_43 ?_
      refine V.iload (pc := 44) C 0 rfl dX7_pass_44 ?_
      obtain ⟨_, M2, h2, hf⟩ := bd_some hf
      refine V.callVv (pc := 46) (As := [.int (jrem (((nI 75) * v4) + (nI 74)) (nI 65537))]) (rest := []) C (mX7_draw X.2.1 hG  h2) mf_X7_draw clX7 (sx_27 hG) wM_X7_30 rfl rfl ⟨by decide, by decide⟩ (Nat.le_of_ble_eq_true rfl) dX7_pass_46 ?_
      refine V.iinc (pc := 49) (lv' := [(5, .int (v5 + (nI 1))), (4, .int (jrem (((nI 75) * v4) + (nI 74)) (nI 65537))), (0, .ref (gA G 27)), (3, .int v3)]) C (v5 + (nI 1)) 3 rfl rfl (by decide) rfl dX7_pass_49 ?_
      refine V.goto (pc := 52) C 24 (by decide) dX7_pass_52 ?_
      refine V.sub C [2, 3, 1, 0] (lv' := [(0, .ref (gA G 27)), (3, .int v3), (4, .int (jrem (((nI 75) * v4) + (nI 74)) (nI 65537))), (5, .int (v5 + (nI 1)))]) rfl ?_
      exact ih _ _ _ _ hf
def fX7_pass (c1 : Nat) (x2 : Int32) (x3 : Int32) (M : Mm) : Option (Unit × Mm) :=
bd (fX0_copyFrom 28 c1 M) fun _ M1 =>
fX7_pass_b24 c1 fu x3 x2 (nI 0) (sI (sI M1 27 1 (nI 0)) 27 2 (nI 0))
set_option maxHeartbeats 4000000 in
set_option maxRecDepth 100000 in
theorem mX7_pass (l : Launch) {G : Rg} (hG : gS G = shX) {c1 : Nat} {x2 : Int32} {x3 : Int32} (hB1 : isB G c1) {M Mf : Mm} {r : Unit} (hf : fX7_pass c1 x2 x3 M = some (r, Mf)) : Mt l G yX7_pass cX7_pass 6 (none) 5 111 [.ref (gA G 27), .ref (gA G c1), .int x2, .int x3] M none Mf := by
  refine Mt.of (by decide) (Nat.le_of_ble_eq_true rfl) ?_
  intro X C hX
  subst hX
  have C : cxX7_pass G X := C
  show V G X 6 none Mf 0 [(0, .ref (gA G 27)), (1, .ref (gA G c1)), (2, .int x2), (3, .int x3)] [] M
  rw [fX7_pass] at hf
  refine V.aload_n (pc := 0) C 0 rfl dX7_pass_0 ?_
  refine V.getR (pc := 1) C clX7 inX7 (sx_27 hG) 0 (by decide) wF_X7_12 rfl dX7_pass_1 ?_
  refine V.aload_n (pc := 4) C 1 rfl dX7_pass_4 ?_
  obtain ⟨_, M1, h1, hf⟩ := bd_some hf
  refine V.callVv (pc := 5) (As := [.ref (gA G c1)]) (rest := []) C (mX0_copyFrom X.2.1 hG (bx_28 hG) hB1 h1) mf_X0_copyFrom clX0 (sx_28 hG) wM_X7_18 rfl rfl ⟨by decide, by decide⟩ (Nat.le_of_ble_eq_true rfl) dX7_pass_5 ?_
  refine V.aload_n (pc := 8) C 0 rfl dX7_pass_8 ?_
  refine V.iconst (pc := 9) C (nI 0) (by decide) dX7_pass_9 ?_
  refine V.putI (pc := 10) C clX7 inX7 (sx_27 hG) 1 (by decide) wF_X7_22 tyX7 tyX7_ok nmX7 rfl (tyX7_ok 1 (by decide)) rfl dX7_pass_10 ?_
  refine V.aload_n (pc := 13) C 0 rfl dX7_pass_13 ?_
  refine V.iconst (pc := 14) C (nI 0) (by decide) dX7_pass_14 ?_
  refine V.putI (pc := 15) C clX7 inX7 (sx_27 hG) 2 (by decide) wF_X7_26 tyX7 tyX7_ok nmX7 rfl (tyX7_ok 2 (by decide)) rfl dX7_pass_15 ?_
  refine V.iload_n (pc := 18) C 2 rfl dX7_pass_18 ?_
  refine V.istore (pc := 19) (lv' := [(4, .int x2), (0, .ref (gA G 27)), (1, .ref (gA G c1)), (2, .int x2), (3, .int x3)]) C (by decide) rfl dX7_pass_19 ?_
  refine V.iconst (pc := 21) C (nI 0) (by decide) dX7_pass_21 ?_
  refine V.istore (pc := 22) (lv' := [(5, .int (nI 0)), (4, .int x2), (0, .ref (gA G 27)), (1, .ref (gA G c1)), (2, .int x2), (3, .int x3)]) C (by decide) rfl dX7_pass_22 ?_
  refine V.sub C [2, 5, 1, 0] (lv' := [(0, .ref (gA G 27)), (3, .int x3), (4, .int x2), (5, .int (nI 0))]) rfl ?_
  exact vX7_pass_b24 C hG hB1  fu _ _ _ _ hf
theorem dX8_year_0 : decode cX8_year 0 = .ok (.iload_n 1, 1) := by decide +kernel
theorem dX8_year_1 : decode cX8_year 1 = .ok (.iconst 0, 1) := by decide +kernel
theorem dX8_year_2 : decode cX8_year 2 = .ok (.sipush 9999, 3) := by decide +kernel
theorem dX8_year_5 : decode cX8_year 5 = .ok (.invokestatic 73, 3) := by decide +kernel
theorem dX8_year_8 : decode cX8_year 8 = .ok (.ifCond .eq 22, 3) := by decide +kernel
theorem dX8_year_11 : decode cX8_year 11 = .ok (.iload_n 2, 1) := by decide +kernel
theorem dX8_year_12 : decode cX8_year 12 = .ok (.iconst 1, 1) := by decide +kernel
theorem dX8_year_13 : decode cX8_year 13 = .ok (.bipush 99, 2) := by decide +kernel
theorem dX8_year_15 : decode cX8_year 15 = .ok (.invokestatic 73, 3) := by decide +kernel
theorem dX8_year_18 : decode cX8_year 18 = .ok (.ifCond .eq 12, 3) := by decide +kernel
theorem dX8_year_21 : decode cX8_year 21 = .ok (.iload_n 3, 1) := by decide +kernel
theorem dX8_year_22 : decode cX8_year 22 = .ok (.iconst 0, 1) := by decide +kernel
theorem dX8_year_23 : decode cX8_year 23 = .ok (.iconst 2, 1) := by decide +kernel
theorem dX8_year_24 : decode cX8_year 24 = .ok (.invokestatic 73, 3) := by decide +kernel
theorem dX8_year_27 : decode cX8_year 27 = .ok (.ifCond .ne 6, 3) := by decide +kernel
theorem dX8_year_30 : decode cX8_year 30 = .ok (.bipush (-2), 2) := by decide +kernel
theorem dX8_year_32 : decode cX8_year 32 = .ok (.ireturn, 1) := by decide +kernel
theorem dX8_year_33 : decode cX8_year 33 = .ok (.aload_n 0, 1) := by decide +kernel
theorem dX8_year_34 : decode cX8_year 34 = .ok (.getfield 61, 3) := by decide +kernel
theorem dX8_year_37 : decode cX8_year 37 = .ok (.aload_n 0, 1) := by decide +kernel
theorem dX8_year_38 : decode cX8_year 38 = .ok (.getfield 12, 3) := by decide +kernel
theorem dX8_year_41 : decode cX8_year 41 = .ok (.iload_n 1, 1) := by decide +kernel
theorem dX8_year_42 : decode cX8_year 42 = .ok (.iload_n 2, 1) := by decide +kernel
theorem dX8_year_43 : decode cX8_year 43 = .ok (.invokevirtual 242, 3) := by decide +kernel
theorem dX8_year_46 : decode cX8_year 46 = .ok (.iload_n 3, 1) := by decide +kernel
theorem dX8_year_47 : decode cX8_year 47 = .ok (.ifCond .ne 11, 3) := by decide +kernel
theorem dX8_year_50 : decode cX8_year 50 = .ok (.aload_n 0, 1) := by decide +kernel
theorem dX8_year_51 : decode cX8_year 51 = .ok (.getfield 61, 3) := by decide +kernel
theorem dX8_year_54 : decode cX8_year 54 = .ok (.getfield 246, 3) := by decide +kernel
theorem dX8_year_57 : decode cX8_year 57 = .ok (.ireturn, 1) := by decide +kernel
theorem dX8_year_58 : decode cX8_year 58 = .ok (.iload_n 3, 1) := by decide +kernel
theorem dX8_year_59 : decode cX8_year 59 = .ok (.iconst 1, 1) := by decide +kernel
theorem dX8_year_60 : decode cX8_year 60 = .ok (.if_icmp .ne 13, 3) := by decide +kernel
theorem dX8_year_63 : decode cX8_year 63 = .ok (.aload_n 0, 1) := by decide +kernel
theorem dX8_year_64 : decode cX8_year 64 = .ok (.getfield 61, 3) := by decide +kernel
theorem dX8_year_67 : decode cX8_year 67 = .ok (.getfield 247, 3) := by decide +kernel
theorem dX8_year_70 : decode cX8_year 70 = .ok (.goto 13, 3) := by decide +kernel
theorem dX8_year_73 : decode cX8_year 73 = .ok (.aload_n 0, 1) := by decide +kernel
theorem dX8_year_74 : decode cX8_year 74 = .ok (.getfield 61, 3) := by decide +kernel
theorem dX8_year_77 : decode cX8_year 77 = .ok (.getfield 250, 3) := by decide +kernel
theorem dX8_year_80 : decode cX8_year 80 = .ok (.getfield 99, 3) := by decide +kernel
theorem dX8_year_83 : decode cX8_year 83 = .ok (.ireturn, 1) := by decide +kernel
abbrev cxX8_year (G : Rg) (X : Ct) : Prop := Cx G X cX8_year 4 RX8 (some .int) 6 136 (Cond.code yX8_year cX8_year 4 (some .int))
def fX8_year (x1 : Int32) (x2 : Int32) (x3 : Int32) (M : Mm) : Option (Int32 × Mm) :=
bd (fX8_isWithin x1 (nI 0) (nI 9999) M) fun r1 M1 =>
if r1 = (nI 0) then
(some ((mI 2), M1))
else
(bd (fX8_isWithin x2 (nI 1) (nI 99) M1) fun r3 M3 =>
if r3 = (nI 0) then
(some ((mI 2), M3))
else
(bd (fX8_isWithin x3 (nI 0) (nI 2) M3) fun r5 M5 =>
if r5 = (nI 0) then
(some ((mI 2), M5))
else
(bd (fX7_pass 1 x1 x2 M5) fun _ M7 =>
if x3 = (nI 0) then
(some ((M7.1 27 1), M7))
else
(if x3 = (nI 1) then
(some ((M7.1 27 2), M7))
else
(some ((M7.1 28 1), M7))))))
set_option maxHeartbeats 4000000 in
set_option maxRecDepth 100000 in
theorem mX8_year (l : Launch) {G : Rg} (hG : gS G = shX) {x1 : Int32} {x2 : Int32} {x3 : Int32}  {M Mf : Mm} {r : Int32} (hf : fX8_year x1 x2 x3 M = some (r, Mf)) : Mt l G yX8_year cX8_year 4 (some .int) 6 136 [.ref (gA G 0), .int x1, .int x2, .int x3] M (some (.int r)) Mf := by
  refine Mt.of (by decide) (Nat.le_of_ble_eq_true rfl) ?_
  intro X C hX
  subst hX
  have C : cxX8_year G X := C
  show V G X 4 (some (.int r)) Mf 0 [(0, .ref (gA G 0)), (1, .int x1), (2, .int x2), (3, .int x3)] [] M
  rw [fX8_year] at hf
  refine V.iload_n (pc := 0) C 1 rfl dX8_year_0 ?_
  refine V.iconst (pc := 1) C (nI 0) (by decide) dX8_year_1 ?_
  refine V.sipush (pc := 2) C (nI 9999) (by decide) dX8_year_2 ?_
  obtain ⟨r1, M1, h1, hf⟩ := bd_some hf
  refine V.callSi (pc := 5) (As := [.int x1, .int (nI 0), .int (nI 9999)]) (rest := []) C (mX8_isWithin X.2.1 hG  h1) mf_X8_isWithin wM_X8_73 rfl rfl ⟨by decide, by decide⟩ (Nat.le_of_ble_eq_true rfl) dX8_year_5 ?_
  rcases it_some hf with ⟨h2, hf⟩ | ⟨h2, hf⟩
  · refine V.if_eqT (pc := 8) C 30 h2 (by decide) dX8_year_8 ?_
    refine V.bipush (pc := 30) C (mI 2) (by decide) dX8_year_30 ?_
    exact V.retI (pc := 32) C hf dX8_year_32
  · refine V.if_eqF (pc := 8) C 30 h2 (by decide) dX8_year_8 ?_
    refine V.iload_n (pc := 11) C 2 rfl dX8_year_11 ?_
    refine V.iconst (pc := 12) C (nI 1) (by decide) dX8_year_12 ?_
    refine V.bipush (pc := 13) C (nI 99) (by decide) dX8_year_13 ?_
    obtain ⟨r3, M3, h3, hf⟩ := bd_some hf
    refine V.callSi (pc := 15) (As := [.int x2, .int (nI 1), .int (nI 99)]) (rest := []) C (mX8_isWithin X.2.1 hG  h3) mf_X8_isWithin wM_X8_73 rfl rfl ⟨by decide, by decide⟩ (Nat.le_of_ble_eq_true rfl) dX8_year_15 ?_
    rcases it_some hf with ⟨h4, hf⟩ | ⟨h4, hf⟩
    · refine V.if_eqT (pc := 18) C 30 h4 (by decide) dX8_year_18 ?_
      refine V.bipush (pc := 30) C (mI 2) (by decide) dX8_year_30 ?_
      exact V.retI (pc := 32) C hf dX8_year_32
    · refine V.if_eqF (pc := 18) C 30 h4 (by decide) dX8_year_18 ?_
      refine V.iload_n (pc := 21) C 3 rfl dX8_year_21 ?_
      refine V.iconst (pc := 22) C (nI 0) (by decide) dX8_year_22 ?_
      refine V.iconst (pc := 23) C (nI 2) (by decide) dX8_year_23 ?_
      obtain ⟨r5, M5, h5, hf⟩ := bd_some hf
      refine V.callSi (pc := 24) (As := [.int x3, .int (nI 0), .int (nI 2)]) (rest := []) C (mX8_isWithin X.2.1 hG  h5) mf_X8_isWithin wM_X8_73 rfl rfl ⟨by decide, by decide⟩ (Nat.le_of_ble_eq_true rfl) dX8_year_24 ?_
      rcases it_some hf with ⟨h6, hf⟩ | ⟨h6, hf⟩
      · refine V.if_neF (pc := 27) C 33 h6 (by decide) dX8_year_27 ?_
        refine V.bipush (pc := 30) C (mI 2) (by decide) dX8_year_30 ?_
        exact V.retI (pc := 32) C hf dX8_year_32
      · refine V.if_neT (pc := 27) C 33 h6 (by decide) dX8_year_27 ?_
        refine V.aload_n (pc := 33) C 0 rfl dX8_year_33 ?_
        refine V.getR (pc := 34) C clX8 inX8 (sx_0 hG) 7 (by decide) wF_X8_61 rfl dX8_year_34 ?_
        refine V.aload_n (pc := 37) C 0 rfl dX8_year_37 ?_
        refine V.getR (pc := 38) C clX8 inX8 (sx_0 hG) 0 (by decide) wF_X8_12 rfl dX8_year_38 ?_
        refine V.iload_n (pc := 41) C 1 rfl dX8_year_41 ?_
        refine V.iload_n (pc := 42) C 2 rfl dX8_year_42 ?_
        obtain ⟨_, M7, h7, hf⟩ := bd_some hf
        refine V.callVv (pc := 43) (As := [.ref (gA G 1), .int x1, .int x2]) (rest := []) C (mX7_pass X.2.1 hG (bx_1 hG) h7) mf_X7_pass clX7 (sx_27 hG) wM_X8_242 rfl rfl ⟨by decide, by decide⟩ (Nat.le_of_ble_eq_true rfl) dX8_year_43 ?_
        refine V.iload_n (pc := 46) C 3 rfl dX8_year_46 ?_
        rcases it_some hf with ⟨h8, hf⟩ | ⟨h8, hf⟩
        · refine V.if_neF (pc := 47) C 58 h8 (by decide) dX8_year_47 ?_
          refine V.aload_n (pc := 50) C 0 rfl dX8_year_50 ?_
          refine V.getR (pc := 51) C clX8 inX8 (sx_0 hG) 7 (by decide) wF_X8_61 rfl dX8_year_51 ?_
          refine V.getI (pc := 54) C clX7 inX7 (sx_27 hG) 1 (by decide) wF_X8_246 rfl dX8_year_54 ?_
          exact V.retI (pc := 57) C hf dX8_year_57
        · refine V.if_neT (pc := 47) C 58 h8 (by decide) dX8_year_47 ?_
          refine V.iload_n (pc := 58) C 3 rfl dX8_year_58 ?_
          refine V.iconst (pc := 59) C (nI 1) (by decide) dX8_year_59 ?_
          rcases it_some hf with ⟨h9, hf⟩ | ⟨h9, hf⟩
          · refine V.ic_neF (pc := 60) C 73 h9 (by decide) dX8_year_60 ?_
            refine V.aload_n (pc := 63) C 0 rfl dX8_year_63 ?_
            refine V.getR (pc := 64) C clX8 inX8 (sx_0 hG) 7 (by decide) wF_X8_61 rfl dX8_year_64 ?_
            refine V.getI (pc := 67) C clX7 inX7 (sx_27 hG) 2 (by decide) wF_X8_247 rfl dX8_year_67 ?_
            refine V.goto (pc := 70) C 83 (by decide) dX8_year_70 ?_
            exact V.retI (pc := 83) C hf dX8_year_83
          · refine V.ic_neT (pc := 60) C 73 h9 (by decide) dX8_year_60 ?_
            refine V.aload_n (pc := 73) C 0 rfl dX8_year_73 ?_
            refine V.getR (pc := 74) C clX8 inX8 (sx_0 hG) 7 (by decide) wF_X8_61 rfl dX8_year_74 ?_
            refine V.getR (pc := 77) C clX7 inX7 (sx_27 hG) 0 (by decide) wF_X8_250 rfl dX8_year_77 ?_
            refine V.getI (pc := 80) C clX0 inX0 (sx_28 hG) 1 (by decide) wF_X8_99 rfl dX8_year_80 ?_
            exact V.retI (pc := 83) C hf dX8_year_83
theorem dX8_image_0 : decode cX8_image 0 = .ok (.iload_n 1, 1) := by decide +kernel
theorem dX8_image_1 : decode cX8_image 1 = .ok (.iconst 0, 1) := by decide +kernel
theorem dX8_image_2 : decode cX8_image 2 = .ok (.iconst 1, 1) := by decide +kernel
theorem dX8_image_3 : decode cX8_image 3 = .ok (.invokestatic 73, 3) := by decide +kernel
theorem dX8_image_6 : decode cX8_image 6 = .ok (.ifCond .ne 6, 3) := by decide +kernel
theorem dX8_image_9 : decode cX8_image 9 = .ok (.bipush (-2), 2) := by decide +kernel
theorem dX8_image_11 : decode cX8_image 11 = .ok (.ireturn, 1) := by decide +kernel
theorem dX8_image_12 : decode cX8_image 12 = .ok (.aload_n 0, 1) := by decide +kernel
theorem dX8_image_13 : decode cX8_image 13 = .ok (.getfield 65, 3) := by decide +kernel
theorem dX8_image_16 : decode cX8_image 16 = .ok (.iload_n 1, 1) := by decide +kernel
theorem dX8_image_17 : decode cX8_image 17 = .ok (.aaload, 1) := by decide +kernel
theorem dX8_image_18 : decode cX8_image 18 = .ok (.aload_n 0, 1) := by decide +kernel
theorem dX8_image_19 : decode cX8_image 19 = .ok (.getfield 12, 3) := by decide +kernel
theorem dX8_image_22 : decode cX8_image 22 = .ok (.invokevirtual 145, 3) := by decide +kernel
theorem dX8_image_25 : decode cX8_image 25 = .ok (.aload_n 0, 1) := by decide +kernel
theorem dX8_image_26 : decode cX8_image 26 = .ok (.getfield 69, 3) := by decide +kernel
theorem dX8_image_29 : decode cX8_image 29 = .ok (.iload_n 1, 1) := by decide +kernel
theorem dX8_image_30 : decode cX8_image 30 = .ok (.iconst 1, 1) := by decide +kernel
theorem dX8_image_31 : decode cX8_image 31 = .ok (.bastore, 1) := by decide +kernel
theorem dX8_image_32 : decode cX8_image 32 = .ok (.iconst 1, 1) := by decide +kernel
theorem dX8_image_33 : decode cX8_image 33 = .ok (.ireturn, 1) := by decide +kernel
abbrev cxX8_image (G : Rg) (X : Ct) : Prop := Cx G X cX8_image 2 RX8 (some .int) 2 61 (Cond.code yX8_image cX8_image 2 (some .int))
def fX8_image (x1 : Int32) (M : Mm) : Option (Int32 × Mm) :=
bd (fX8_isWithin x1 (nI 0) (nI 1) M) fun r1 M1 =>
if r1 = (nI 0) then
(some ((mI 2), M1))
else
(gd (inb x1 2) (
bd (fX0_copyFrom (imgC x1) 1 M1) fun _ M4 =>
gd (inb x1 2) (
some ((nI 1), (sI M4 44 x1.toNatClampNeg (nI 1))))))
set_option maxHeartbeats 4000000 in
set_option maxRecDepth 100000 in
theorem mX8_image (l : Launch) {G : Rg} (hG : gS G = shX) {x1 : Int32}  {M Mf : Mm} {r : Int32} (hf : fX8_image x1 M = some (r, Mf)) : Mt l G yX8_image cX8_image 2 (some .int) 2 61 [.ref (gA G 0), .int x1] M (some (.int r)) Mf := by
  refine Mt.of (by decide) (Nat.le_of_ble_eq_true rfl) ?_
  intro X C hX
  subst hX
  have C : cxX8_image G X := C
  show V G X 2 (some (.int r)) Mf 0 [(0, .ref (gA G 0)), (1, .int x1)] [] M
  rw [fX8_image] at hf
  refine V.iload_n (pc := 0) C 1 rfl dX8_image_0 ?_
  refine V.iconst (pc := 1) C (nI 0) (by decide) dX8_image_1 ?_
  refine V.iconst (pc := 2) C (nI 1) (by decide) dX8_image_2 ?_
  obtain ⟨r1, M1, h1, hf⟩ := bd_some hf
  refine V.callSi (pc := 3) (As := [.int x1, .int (nI 0), .int (nI 1)]) (rest := []) C (mX8_isWithin X.2.1 hG  h1) mf_X8_isWithin wM_X8_73 rfl rfl ⟨by decide, by decide⟩ (Nat.le_of_ble_eq_true rfl) dX8_image_3 ?_
  rcases it_some hf with ⟨h2, hf⟩ | ⟨h2, hf⟩
  · refine V.if_neF (pc := 6) C 12 h2 (by decide) dX8_image_6 ?_
    refine V.bipush (pc := 9) C (mI 2) (by decide) dX8_image_9 ?_
    exact V.retI (pc := 11) C hf dX8_image_11
  · refine V.if_neT (pc := 6) C 12 h2 (by decide) dX8_image_6 ?_
    refine V.aload_n (pc := 12) C 0 rfl dX8_image_12 ?_
    refine V.getR (pc := 13) C clX8 inX8 (sx_0 hG) 8 (by decide) wF_X8_65 rfl dX8_image_13 ?_
    refine V.iload_n (pc := 16) C 1 rfl dX8_image_16 ?_
    obtain ⟨g3, hf⟩ := gd_some hf
    refine V.aald (pc := 17) C (sx_33 hG) (inb_in g3) (img_at g3) dX8_image_17 ?_
    refine V.aload_n (pc := 18) C 0 rfl dX8_image_18 ?_
    refine V.getR (pc := 19) C clX8 inX8 (sx_0 hG) 0 (by decide) wF_X8_12 rfl dX8_image_19 ?_
    obtain ⟨_, M4, h4, hf⟩ := bd_some hf
    refine V.callVv (pc := 22) (As := [.ref (gA G 1)]) (rest := []) C (mX0_copyFrom X.2.1 hG (img_B hG x1) (bx_1 hG) h4) mf_X0_copyFrom clX0 (img_B hG x1).1 wM_X8_145 rfl rfl ⟨by decide, by decide⟩ (Nat.le_of_ble_eq_true rfl) dX8_image_22 ?_
    refine V.aload_n (pc := 25) C 0 rfl dX8_image_25 ?_
    refine V.getR (pc := 26) C clX8 inX8 (sx_0 hG) 9 (by decide) wF_X8_69 rfl dX8_image_26 ?_
    refine V.iload_n (pc := 29) C 1 rfl dX8_image_29 ?_
    refine V.iconst (pc := 30) C (nI 1) (by decide) dX8_image_30 ?_
    obtain ⟨g5, hf⟩ := gd_some hf
    refine V.zast (pc := 31) C (sx_44 hG) (Or.inr rfl) (inb_in g5) dX8_image_31 ?_
    refine V.iconst (pc := 32) C (nI 1) (by decide) dX8_image_32 ?_
    exact V.retI (pc := 33) C hf dX8_image_33
theorem dX8_restore_0 : decode cX8_restore 0 = .ok (.iload_n 1, 1) := by decide +kernel
theorem dX8_restore_1 : decode cX8_restore 1 = .ok (.iconst 0, 1) := by decide +kernel
theorem dX8_restore_2 : decode cX8_restore 2 = .ok (.iconst 1, 1) := by decide +kernel
theorem dX8_restore_3 : decode cX8_restore 3 = .ok (.invokestatic 73, 3) := by decide +kernel
theorem dX8_restore_6 : decode cX8_restore 6 = .ok (.ifCond .ne 6, 3) := by decide +kernel
theorem dX8_restore_9 : decode cX8_restore 9 = .ok (.bipush (-2), 2) := by decide +kernel
theorem dX8_restore_11 : decode cX8_restore 11 = .ok (.ireturn, 1) := by decide +kernel
theorem dX8_restore_12 : decode cX8_restore 12 = .ok (.aload_n 0, 1) := by decide +kernel
theorem dX8_restore_13 : decode cX8_restore 13 = .ok (.getfield 69, 3) := by decide +kernel
theorem dX8_restore_16 : decode cX8_restore 16 = .ok (.iload_n 1, 1) := by decide +kernel
theorem dX8_restore_17 : decode cX8_restore 17 = .ok (.baload, 1) := by decide +kernel
theorem dX8_restore_18 : decode cX8_restore 18 = .ok (.ifCond .ne 6, 3) := by decide +kernel
theorem dX8_restore_21 : decode cX8_restore 21 = .ok (.bipush (-3), 2) := by decide +kernel
theorem dX8_restore_23 : decode cX8_restore 23 = .ok (.ireturn, 1) := by decide +kernel
theorem dX8_restore_24 : decode cX8_restore 24 = .ok (.aload_n 0, 1) := by decide +kernel
theorem dX8_restore_25 : decode cX8_restore 25 = .ok (.getfield 12, 3) := by decide +kernel
theorem dX8_restore_28 : decode cX8_restore 28 = .ok (.aload_n 0, 1) := by decide +kernel
theorem dX8_restore_29 : decode cX8_restore 29 = .ok (.getfield 65, 3) := by decide +kernel
theorem dX8_restore_32 : decode cX8_restore 32 = .ok (.iload_n 1, 1) := by decide +kernel
theorem dX8_restore_33 : decode cX8_restore 33 = .ok (.aaload, 1) := by decide +kernel
theorem dX8_restore_34 : decode cX8_restore 34 = .ok (.invokevirtual 145, 3) := by decide +kernel
theorem dX8_restore_37 : decode cX8_restore 37 = .ok (.iconst 1, 1) := by decide +kernel
theorem dX8_restore_38 : decode cX8_restore 38 = .ok (.ireturn, 1) := by decide +kernel
abbrev cxX8_restore (G : Rg) (X : Ct) : Prop := Cx G X cX8_restore 2 RX8 (some .int) 2 61 (Cond.code yX8_restore cX8_restore 2 (some .int))
def fX8_restore (x1 : Int32) (M : Mm) : Option (Int32 × Mm) :=
bd (fX8_isWithin x1 (nI 0) (nI 1) M) fun r1 M1 =>
if r1 = (nI 0) then
(some ((mI 2), M1))
else
(gd (inb x1 2) (
if (M1.1 44 x1.toNatClampNeg) = (nI 0) then
(some ((mI 3), M1))
else
(gd (inb x1 2) (
bd (fX0_copyFrom 1 (imgC x1) M1) fun _ M6 =>
some ((nI 1), M6)))))
set_option maxHeartbeats 4000000 in
set_option maxRecDepth 100000 in
theorem mX8_restore (l : Launch) {G : Rg} (hG : gS G = shX) {x1 : Int32}  {M Mf : Mm} {r : Int32} (hf : fX8_restore x1 M = some (r, Mf)) : Mt l G yX8_restore cX8_restore 2 (some .int) 2 61 [.ref (gA G 0), .int x1] M (some (.int r)) Mf := by
  refine Mt.of (by decide) (Nat.le_of_ble_eq_true rfl) ?_
  intro X C hX
  subst hX
  have C : cxX8_restore G X := C
  show V G X 2 (some (.int r)) Mf 0 [(0, .ref (gA G 0)), (1, .int x1)] [] M
  rw [fX8_restore] at hf
  refine V.iload_n (pc := 0) C 1 rfl dX8_restore_0 ?_
  refine V.iconst (pc := 1) C (nI 0) (by decide) dX8_restore_1 ?_
  refine V.iconst (pc := 2) C (nI 1) (by decide) dX8_restore_2 ?_
  obtain ⟨r1, M1, h1, hf⟩ := bd_some hf
  refine V.callSi (pc := 3) (As := [.int x1, .int (nI 0), .int (nI 1)]) (rest := []) C (mX8_isWithin X.2.1 hG  h1) mf_X8_isWithin wM_X8_73 rfl rfl ⟨by decide, by decide⟩ (Nat.le_of_ble_eq_true rfl) dX8_restore_3 ?_
  rcases it_some hf with ⟨h2, hf⟩ | ⟨h2, hf⟩
  · refine V.if_neF (pc := 6) C 12 h2 (by decide) dX8_restore_6 ?_
    refine V.bipush (pc := 9) C (mI 2) (by decide) dX8_restore_9 ?_
    exact V.retI (pc := 11) C hf dX8_restore_11
  · refine V.if_neT (pc := 6) C 12 h2 (by decide) dX8_restore_6 ?_
    refine V.aload_n (pc := 12) C 0 rfl dX8_restore_12 ?_
    refine V.getR (pc := 13) C clX8 inX8 (sx_0 hG) 9 (by decide) wF_X8_69 rfl dX8_restore_13 ?_
    refine V.iload_n (pc := 16) C 1 rfl dX8_restore_16 ?_
    obtain ⟨g3, hf⟩ := gd_some hf
    refine V.zald (pc := 17) C (sx_44 hG) (inb_in g3) dX8_restore_17 ?_
    rcases it_some hf with ⟨h4, hf⟩ | ⟨h4, hf⟩
    · refine V.if_neF (pc := 18) C 24 h4 (by decide) dX8_restore_18 ?_
      refine V.bipush (pc := 21) C (mI 3) (by decide) dX8_restore_21 ?_
      exact V.retI (pc := 23) C hf dX8_restore_23
    · refine V.if_neT (pc := 18) C 24 h4 (by decide) dX8_restore_18 ?_
      refine V.aload_n (pc := 24) C 0 rfl dX8_restore_24 ?_
      refine V.getR (pc := 25) C clX8 inX8 (sx_0 hG) 0 (by decide) wF_X8_12 rfl dX8_restore_25 ?_
      refine V.aload_n (pc := 28) C 0 rfl dX8_restore_28 ?_
      refine V.getR (pc := 29) C clX8 inX8 (sx_0 hG) 8 (by decide) wF_X8_65 rfl dX8_restore_29 ?_
      refine V.iload_n (pc := 32) C 1 rfl dX8_restore_32 ?_
      obtain ⟨g5, hf⟩ := gd_some hf
      refine V.aald (pc := 33) C (sx_33 hG) (inb_in g5) (img_at g5) dX8_restore_33 ?_
      obtain ⟨_, M6, h6, hf⟩ := bd_some hf
      refine V.callVv (pc := 34) (As := [.ref (gA G (imgC x1))]) (rest := []) C (mX0_copyFrom X.2.1 hG (bx_1 hG) (img_B hG x1) h6) mf_X0_copyFrom clX0 (sx_1 hG) wM_X8_145 rfl rfl ⟨by decide, by decide⟩ (Nat.le_of_ble_eq_true rfl) dX8_restore_34 ?_
      refine V.iconst (pc := 37) C (nI 1) (by decide) dX8_restore_37 ?_
      exact V.retI (pc := 38) C hf dX8_restore_38
theorem dX8_toldCount_0 : decode cX8_toldCount 0 = .ok (.iload_n 1, 1) := by decide +kernel
theorem dX8_toldCount_1 : decode cX8_toldCount 1 = .ok (.ifCond .ne 11, 3) := by decide +kernel
theorem dX8_toldCount_4 : decode cX8_toldCount 4 = .ok (.aload_n 0, 1) := by decide +kernel
theorem dX8_toldCount_5 : decode cX8_toldCount 5 = .ok (.getfield 19, 3) := by decide +kernel
theorem dX8_toldCount_8 : decode cX8_toldCount 8 = .ok (.getfield 102, 3) := by decide +kernel
theorem dX8_toldCount_11 : decode cX8_toldCount 11 = .ok (.ireturn, 1) := by decide +kernel
theorem dX8_toldCount_12 : decode cX8_toldCount 12 = .ok (.iload_n 1, 1) := by decide +kernel
theorem dX8_toldCount_13 : decode cX8_toldCount 13 = .ok (.iconst 1, 1) := by decide +kernel
theorem dX8_toldCount_14 : decode cX8_toldCount 14 = .ok (.if_icmp .ne 11, 3) := by decide +kernel
theorem dX8_toldCount_17 : decode cX8_toldCount 17 = .ok (.aload_n 0, 1) := by decide +kernel
theorem dX8_toldCount_18 : decode cX8_toldCount 18 = .ok (.getfield 12, 3) := by decide +kernel
theorem dX8_toldCount_21 : decode cX8_toldCount 21 = .ok (.getfield 81, 3) := by decide +kernel
theorem dX8_toldCount_24 : decode cX8_toldCount 24 = .ok (.ireturn, 1) := by decide +kernel
theorem dX8_toldCount_25 : decode cX8_toldCount 25 = .ok (.iload_n 1, 1) := by decide +kernel
theorem dX8_toldCount_26 : decode cX8_toldCount 26 = .ok (.iconst 2, 1) := by decide +kernel
theorem dX8_toldCount_27 : decode cX8_toldCount 27 = .ok (.if_icmp .ne 13, 3) := by decide +kernel
theorem dX8_toldCount_30 : decode cX8_toldCount 30 = .ok (.aload_n 0, 1) := by decide +kernel
theorem dX8_toldCount_31 : decode cX8_toldCount 31 = .ok (.getfield 12, 3) := by decide +kernel
theorem dX8_toldCount_34 : decode cX8_toldCount 34 = .ok (.getfield 99, 3) := by decide +kernel
theorem dX8_toldCount_37 : decode cX8_toldCount 37 = .ok (.goto 10, 3) := by decide +kernel
theorem dX8_toldCount_40 : decode cX8_toldCount 40 = .ok (.aload_n 0, 1) := by decide +kernel
theorem dX8_toldCount_41 : decode cX8_toldCount 41 = .ok (.getfield 12, 3) := by decide +kernel
theorem dX8_toldCount_44 : decode cX8_toldCount 44 = .ok (.getfield 184, 3) := by decide +kernel
theorem dX8_toldCount_47 : decode cX8_toldCount 47 = .ok (.ireturn, 1) := by decide +kernel
abbrev cxX8_toldCount (G : Rg) (X : Ct) : Prop := Cx G X cX8_toldCount 2 RX8 (some .int) 0 0 (Cond.code yX8_toldCount cX8_toldCount 2 (some .int))
def fX8_toldCount (x1 : Int32) (M : Mm) : Option (Int32 × Mm) :=
if x1 = (nI 0) then
(some ((M.1 6 1), M))
else
(if x1 = (nI 1) then
(some ((M.1 1 0), M))
else
(if x1 = (nI 2) then
(some ((M.1 1 1), M))
else
(some ((M.1 1 2), M))))
set_option maxHeartbeats 4000000 in
set_option maxRecDepth 100000 in
theorem mX8_toldCount (l : Launch) {G : Rg} (hG : gS G = shX) {x1 : Int32}  {M Mf : Mm} {r : Int32} (hf : fX8_toldCount x1 M = some (r, Mf)) : Mt l G yX8_toldCount cX8_toldCount 2 (some .int) 0 0 [.ref (gA G 0), .int x1] M (some (.int r)) Mf := by
  refine Mt.of (by decide) (Nat.le_of_ble_eq_true rfl) ?_
  intro X C hX
  subst hX
  have C : cxX8_toldCount G X := C
  show V G X 2 (some (.int r)) Mf 0 [(0, .ref (gA G 0)), (1, .int x1)] [] M
  rw [fX8_toldCount] at hf
  refine V.iload_n (pc := 0) C 1 rfl dX8_toldCount_0 ?_
  rcases it_some hf with ⟨h1, hf⟩ | ⟨h1, hf⟩
  · refine V.if_neF (pc := 1) C 12 h1 (by decide) dX8_toldCount_1 ?_
    refine V.aload_n (pc := 4) C 0 rfl dX8_toldCount_4 ?_
    refine V.getR (pc := 5) C clX8 inX8 (sx_0 hG) 1 (by decide) wF_X8_19 rfl dX8_toldCount_5 ?_
    refine V.getI (pc := 8) C clX4 inX4 (sx_6 hG) 1 (by decide) wF_X8_102 rfl dX8_toldCount_8 ?_
    exact V.retI (pc := 11) C hf dX8_toldCount_11
  · refine V.if_neT (pc := 1) C 12 h1 (by decide) dX8_toldCount_1 ?_
    refine V.iload_n (pc := 12) C 1 rfl dX8_toldCount_12 ?_
    refine V.iconst (pc := 13) C (nI 1) (by decide) dX8_toldCount_13 ?_
    rcases it_some hf with ⟨h2, hf⟩ | ⟨h2, hf⟩
    · refine V.ic_neF (pc := 14) C 25 h2 (by decide) dX8_toldCount_14 ?_
      refine V.aload_n (pc := 17) C 0 rfl dX8_toldCount_17 ?_
      refine V.getR (pc := 18) C clX8 inX8 (sx_0 hG) 0 (by decide) wF_X8_12 rfl dX8_toldCount_18 ?_
      refine V.getI (pc := 21) C clX0 inX0 (sx_1 hG) 0 (by decide) wF_X8_81 rfl dX8_toldCount_21 ?_
      exact V.retI (pc := 24) C hf dX8_toldCount_24
    · refine V.ic_neT (pc := 14) C 25 h2 (by decide) dX8_toldCount_14 ?_
      refine V.iload_n (pc := 25) C 1 rfl dX8_toldCount_25 ?_
      refine V.iconst (pc := 26) C (nI 2) (by decide) dX8_toldCount_26 ?_
      rcases it_some hf with ⟨h3, hf⟩ | ⟨h3, hf⟩
      · refine V.ic_neF (pc := 27) C 40 h3 (by decide) dX8_toldCount_27 ?_
        refine V.aload_n (pc := 30) C 0 rfl dX8_toldCount_30 ?_
        refine V.getR (pc := 31) C clX8 inX8 (sx_0 hG) 0 (by decide) wF_X8_12 rfl dX8_toldCount_31 ?_
        refine V.getI (pc := 34) C clX0 inX0 (sx_1 hG) 1 (by decide) wF_X8_99 rfl dX8_toldCount_34 ?_
        refine V.goto (pc := 37) C 47 (by decide) dX8_toldCount_37 ?_
        exact V.retI (pc := 47) C hf dX8_toldCount_47
      · refine V.ic_neT (pc := 27) C 40 h3 (by decide) dX8_toldCount_27 ?_
        refine V.aload_n (pc := 40) C 0 rfl dX8_toldCount_40 ?_
        refine V.getR (pc := 41) C clX8 inX8 (sx_0 hG) 0 (by decide) wF_X8_12 rfl dX8_toldCount_41 ?_
        refine V.getI (pc := 44) C clX0 inX0 (sx_1 hG) 2 (by decide) wF_X8_184 rfl dX8_toldCount_44 ?_
        exact V.retI (pc := 47) C hf dX8_toldCount_47
