theorem dX8_isWithin_0 : decode cX8_isWithin 0 = .ok (.iload_n 0, 1) := by decide +kernel
theorem dX8_isWithin_1 : decode cX8_isWithin 1 = .ok (.iload_n 1, 1) := by decide +kernel
theorem dX8_isWithin_2 : decode cX8_isWithin 2 = .ok (.if_icmp .lt 12, 3) := by decide +kernel
theorem dX8_isWithin_5 : decode cX8_isWithin 5 = .ok (.iload_n 0, 1) := by decide +kernel
theorem dX8_isWithin_6 : decode cX8_isWithin 6 = .ok (.iload_n 2, 1) := by decide +kernel
theorem dX8_isWithin_7 : decode cX8_isWithin 7 = .ok (.if_icmp .gt 7, 3) := by decide +kernel
theorem dX8_isWithin_10 : decode cX8_isWithin 10 = .ok (.iconst 1, 1) := by decide +kernel
theorem dX8_isWithin_11 : decode cX8_isWithin 11 = .ok (.goto 4, 3) := by decide +kernel
theorem dX8_isWithin_14 : decode cX8_isWithin 14 = .ok (.iconst 0, 1) := by decide +kernel
theorem dX8_isWithin_15 : decode cX8_isWithin 15 = .ok (.ireturn, 1) := by decide +kernel
abbrev cxX8_isWithin (G : Rg) (X : Ct) : Prop := Cx G X cX8_isWithin 3 RX8 (some .boolean) 0 0 (Cond.code yX8_isWithin cX8_isWithin 3 (some .boolean))
def fX8_isWithin (x0 : Int32) (x1 : Int32) (x2 : Int32) (M : Mm) : Option (Int32 × Mm) :=
if x0 < x1 then
(some ((nI 0), M))
else
(if x2 < x0 then
(some ((nI 0), M))
else
(some ((nI 1), M)))
set_option maxHeartbeats 4000000 in
set_option maxRecDepth 100000 in
theorem mX8_isWithin (l : Launch) {G : Rg} (hG : gS G = shX) {x0 : Int32} {x1 : Int32} {x2 : Int32}  {M Mf : Mm} {r : Int32} (hf : fX8_isWithin x0 x1 x2 M = some (r, Mf)) : Mt l G yX8_isWithin cX8_isWithin 3 (some .boolean) 0 0 [.int x0, .int x1, .int x2] M (some (.int r)) Mf := by
  refine Mt.of (by decide) (Nat.le_of_ble_eq_true rfl) ?_
  intro X C hX
  subst hX
  have C : cxX8_isWithin G X := C
  show V G X 3 (some (.int r)) Mf 0 [(0, .int x0), (1, .int x1), (2, .int x2)] [] M
  rw [fX8_isWithin] at hf
  refine V.iload_n (pc := 0) C 0 rfl dX8_isWithin_0 ?_
  refine V.iload_n (pc := 1) C 1 rfl dX8_isWithin_1 ?_
  rcases it_some hf with ⟨h1, hf⟩ | ⟨h1, hf⟩
  · refine V.ic_ltT (pc := 2) C 14 h1 (by decide) dX8_isWithin_2 ?_
    refine V.iconst (pc := 14) C (nI 0) (by decide) dX8_isWithin_14 ?_
    exact V.retZ (pc := 15) C (Or.inl rfl) hf dX8_isWithin_15
  · refine V.ic_ltF (pc := 2) C 14 h1 (by decide) dX8_isWithin_2 ?_
    refine V.iload_n (pc := 5) C 0 rfl dX8_isWithin_5 ?_
    refine V.iload_n (pc := 6) C 2 rfl dX8_isWithin_6 ?_
    rcases it_some hf with ⟨h2, hf⟩ | ⟨h2, hf⟩
    · refine V.ic_gtT (pc := 7) C 14 h2 (by decide) dX8_isWithin_7 ?_
      refine V.iconst (pc := 14) C (nI 0) (by decide) dX8_isWithin_14 ?_
      exact V.retZ (pc := 15) C (Or.inl rfl) hf dX8_isWithin_15
    · refine V.ic_gtF (pc := 7) C 14 h2 (by decide) dX8_isWithin_7 ?_
      refine V.iconst (pc := 10) C (nI 1) (by decide) dX8_isWithin_10 ?_
      refine V.goto (pc := 11) C 15 (by decide) dX8_isWithin_11 ?_
      exact V.retZ (pc := 15) C (Or.inr rfl) hf dX8_isWithin_15
theorem dX0_enter_0 : decode cX0_enter 0 = .ok (.aload_n 0, 1) := by decide +kernel
theorem dX0_enter_1 : decode cX0_enter 1 = .ok (.dup, 1) := by decide +kernel
theorem dX0_enter_2 : decode cX0_enter 2 = .ok (.getfield 28, 3) := by decide +kernel
theorem dX0_enter_5 : decode cX0_enter 5 = .ok (.iconst 1, 1) := by decide +kernel
theorem dX0_enter_6 : decode cX0_enter 6 = .ok (.iload_n 1, 1) := by decide +kernel
theorem dX0_enter_7 : decode cX0_enter 7 = .ok (.ishl, 1) := by decide +kernel
theorem dX0_enter_8 : decode cX0_enter 8 = .ok (.ior, 1) := by decide +kernel
theorem dX0_enter_9 : decode cX0_enter 9 = .ok (.putfield 28, 3) := by decide +kernel
theorem dX0_enter_12 : decode cX0_enter 12 = .ok (.aload_n 0, 1) := by decide +kernel
theorem dX0_enter_13 : decode cX0_enter 13 = .ok (.getfield 15, 3) := by decide +kernel
theorem dX0_enter_16 : decode cX0_enter 16 = .ok (.iload_n 1, 1) := by decide +kernel
theorem dX0_enter_17 : decode cX0_enter 17 = .ok (.iload_n 2, 1) := by decide +kernel
theorem dX0_enter_18 : decode cX0_enter 18 = .ok (.iastore, 1) := by decide +kernel
theorem dX0_enter_19 : decode cX0_enter 19 = .ok (.aload_n 0, 1) := by decide +kernel
theorem dX0_enter_20 : decode cX0_enter 20 = .ok (.getfield 19, 3) := by decide +kernel
theorem dX0_enter_23 : decode cX0_enter 23 = .ok (.iload_n 1, 1) := by decide +kernel
theorem dX0_enter_24 : decode cX0_enter 24 = .ok (.iconst 0, 1) := by decide +kernel
theorem dX0_enter_25 : decode cX0_enter 25 = .ok (.iastore, 1) := by decide +kernel
theorem dX0_enter_26 : decode cX0_enter 26 = .ok (.return_, 1) := by decide +kernel
abbrev cxX0_enter (G : Rg) (X : Ct) : Prop := Cx G X cX0_enter 3 RX0 (none) 0 0 (Cond.code yX0_enter cX0_enter 3 (none))
def fX0_enter (c0 : Nat) (x1 : Int32) (x2 : Int32) (M : Mm) : Option (Unit × Mm) :=
gd (inb x1 12) (
gd (inb x1 12) (
some ((), (sI (sI (sI M c0 0 ((M.1 c0 0) ||| (jshl (nI 1) x1))) (c0 + 1) x1.toNatClampNeg x2) (c0 + 2) x1.toNatClampNeg (nI 0)))))
set_option maxHeartbeats 4000000 in
set_option maxRecDepth 100000 in
theorem mX0_enter (l : Launch) {G : Rg} (hG : gS G = shX) {c0 : Nat} {x1 : Int32} {x2 : Int32} (hB0 : isB G c0) {M Mf : Mm} {r : Unit} (hf : fX0_enter c0 x1 x2 M = some (r, Mf)) : Mt l G yX0_enter cX0_enter 3 (none) 0 0 [.ref (gA G c0), .int x1, .int x2] M none Mf := by
  refine Mt.of (by decide) (Nat.le_of_ble_eq_true rfl) ?_
  intro X C hX
  subst hX
  have C : cxX0_enter G X := C
  show V G X 3 none Mf 0 [(0, .ref (gA G c0)), (1, .int x1), (2, .int x2)] [] M
  rw [fX0_enter] at hf
  refine V.aload_n (pc := 0) C 0 rfl dX0_enter_0 ?_
  refine V.dup (pc := 1) C rfl dX0_enter_1 ?_
  refine V.getI (pc := 2) C clX0 inX0 hB0.1 0 (by decide) wF_X0_28 rfl dX0_enter_2 ?_
  refine V.iconst (pc := 5) C (nI 1) (by decide) dX0_enter_5 ?_
  refine V.iload_n (pc := 6) C 1 rfl dX0_enter_6 ?_
  refine V.ishl (pc := 7) C dX0_enter_7 ?_
  refine V.ior (pc := 8) C dX0_enter_8 ?_
  refine V.putI (pc := 9) C clX0 inX0 hB0.1 0 (by decide) wF_X0_28 tyX0 tyX0_ok nmX0 rfl (tyX0_ok 0 (by decide)) rfl dX0_enter_9 ?_
  refine V.aload_n (pc := 12) C 0 rfl dX0_enter_12 ?_
  refine V.getR (pc := 13) C clX0 inX0 hB0.1 4 (by decide) wF_X0_15 rfl dX0_enter_13 ?_
  refine V.iload_n (pc := 16) C 1 rfl dX0_enter_16 ?_
  refine V.iload_n (pc := 17) C 2 rfl dX0_enter_17 ?_
  obtain ⟨g1, hf⟩ := gd_some hf
  refine V.iast (pc := 18) C hB0.2.1 (inb_in g1) dX0_enter_18 ?_
  refine V.aload_n (pc := 19) C 0 rfl dX0_enter_19 ?_
  refine V.getR (pc := 20) C clX0 inX0 hB0.1 5 (by decide) wF_X0_19 rfl dX0_enter_20 ?_
  refine V.iload_n (pc := 23) C 1 rfl dX0_enter_23 ?_
  refine V.iconst (pc := 24) C (nI 0) (by decide) dX0_enter_24 ?_
  obtain ⟨g2, hf⟩ := gd_some hf
  refine V.iast (pc := 25) C hB0.2.2.1 (inb_in g2) dX0_enter_25 ?_
  exact V.retV (pc := 26) C hf dX0_enter_26
theorem dJ6_bitCount_0f7a4_0 : decode cJ6_bitCount_0f7a4 0 = .ok (.iload_n 0, 1) := by decide +kernel
theorem dJ6_bitCount_0f7a4_1 : decode cJ6_bitCount_0f7a4 1 = .ok (.iload_n 0, 1) := by decide +kernel
theorem dJ6_bitCount_0f7a4_2 : decode cJ6_bitCount_0f7a4 2 = .ok (.iconst 1, 1) := by decide +kernel
theorem dJ6_bitCount_0f7a4_3 : decode cJ6_bitCount_0f7a4 3 = .ok (.iushr, 1) := by decide +kernel
theorem dJ6_bitCount_0f7a4_4 : decode cJ6_bitCount_0f7a4 4 = .ok (.ldc_w 265, 3) := by decide +kernel
theorem dJ6_bitCount_0f7a4_7 : decode cJ6_bitCount_0f7a4 7 = .ok (.iand, 1) := by decide +kernel
theorem dJ6_bitCount_0f7a4_8 : decode cJ6_bitCount_0f7a4 8 = .ok (.isub, 1) := by decide +kernel
theorem dJ6_bitCount_0f7a4_9 : decode cJ6_bitCount_0f7a4 9 = .ok (.istore_n 0, 1) := by decide +kernel
theorem dJ6_bitCount_0f7a4_10 : decode cJ6_bitCount_0f7a4 10 = .ok (.iload_n 0, 1) := by decide +kernel
theorem dJ6_bitCount_0f7a4_11 : decode cJ6_bitCount_0f7a4 11 = .ok (.ldc_w 266, 3) := by decide +kernel
theorem dJ6_bitCount_0f7a4_14 : decode cJ6_bitCount_0f7a4 14 = .ok (.iand, 1) := by decide +kernel
theorem dJ6_bitCount_0f7a4_15 : decode cJ6_bitCount_0f7a4 15 = .ok (.iload_n 0, 1) := by decide +kernel
theorem dJ6_bitCount_0f7a4_16 : decode cJ6_bitCount_0f7a4 16 = .ok (.iconst 2, 1) := by decide +kernel
theorem dJ6_bitCount_0f7a4_17 : decode cJ6_bitCount_0f7a4 17 = .ok (.iushr, 1) := by decide +kernel
theorem dJ6_bitCount_0f7a4_18 : decode cJ6_bitCount_0f7a4 18 = .ok (.ldc_w 266, 3) := by decide +kernel
theorem dJ6_bitCount_0f7a4_21 : decode cJ6_bitCount_0f7a4 21 = .ok (.iand, 1) := by decide +kernel
theorem dJ6_bitCount_0f7a4_22 : decode cJ6_bitCount_0f7a4 22 = .ok (.iadd, 1) := by decide +kernel
theorem dJ6_bitCount_0f7a4_23 : decode cJ6_bitCount_0f7a4 23 = .ok (.istore_n 0, 1) := by decide +kernel
theorem dJ6_bitCount_0f7a4_24 : decode cJ6_bitCount_0f7a4 24 = .ok (.iload_n 0, 1) := by decide +kernel
theorem dJ6_bitCount_0f7a4_25 : decode cJ6_bitCount_0f7a4 25 = .ok (.iload_n 0, 1) := by decide +kernel
theorem dJ6_bitCount_0f7a4_26 : decode cJ6_bitCount_0f7a4 26 = .ok (.iconst 4, 1) := by decide +kernel
theorem dJ6_bitCount_0f7a4_27 : decode cJ6_bitCount_0f7a4 27 = .ok (.iushr, 1) := by decide +kernel
theorem dJ6_bitCount_0f7a4_28 : decode cJ6_bitCount_0f7a4 28 = .ok (.iadd, 1) := by decide +kernel
theorem dJ6_bitCount_0f7a4_29 : decode cJ6_bitCount_0f7a4 29 = .ok (.ldc_w 267, 3) := by decide +kernel
theorem dJ6_bitCount_0f7a4_32 : decode cJ6_bitCount_0f7a4 32 = .ok (.iand, 1) := by decide +kernel
theorem dJ6_bitCount_0f7a4_33 : decode cJ6_bitCount_0f7a4 33 = .ok (.istore_n 0, 1) := by decide +kernel
theorem dJ6_bitCount_0f7a4_34 : decode cJ6_bitCount_0f7a4 34 = .ok (.iload_n 0, 1) := by decide +kernel
theorem dJ6_bitCount_0f7a4_35 : decode cJ6_bitCount_0f7a4 35 = .ok (.iload_n 0, 1) := by decide +kernel
theorem dJ6_bitCount_0f7a4_36 : decode cJ6_bitCount_0f7a4 36 = .ok (.bipush 8, 2) := by decide +kernel
theorem dJ6_bitCount_0f7a4_38 : decode cJ6_bitCount_0f7a4 38 = .ok (.iushr, 1) := by decide +kernel
theorem dJ6_bitCount_0f7a4_39 : decode cJ6_bitCount_0f7a4 39 = .ok (.iadd, 1) := by decide +kernel
theorem dJ6_bitCount_0f7a4_40 : decode cJ6_bitCount_0f7a4 40 = .ok (.istore_n 0, 1) := by decide +kernel
theorem dJ6_bitCount_0f7a4_41 : decode cJ6_bitCount_0f7a4 41 = .ok (.iload_n 0, 1) := by decide +kernel
theorem dJ6_bitCount_0f7a4_42 : decode cJ6_bitCount_0f7a4 42 = .ok (.iload_n 0, 1) := by decide +kernel
theorem dJ6_bitCount_0f7a4_43 : decode cJ6_bitCount_0f7a4 43 = .ok (.bipush 16, 2) := by decide +kernel
theorem dJ6_bitCount_0f7a4_45 : decode cJ6_bitCount_0f7a4 45 = .ok (.iushr, 1) := by decide +kernel
theorem dJ6_bitCount_0f7a4_46 : decode cJ6_bitCount_0f7a4 46 = .ok (.iadd, 1) := by decide +kernel
theorem dJ6_bitCount_0f7a4_47 : decode cJ6_bitCount_0f7a4 47 = .ok (.istore_n 0, 1) := by decide +kernel
theorem dJ6_bitCount_0f7a4_48 : decode cJ6_bitCount_0f7a4 48 = .ok (.iload_n 0, 1) := by decide +kernel
theorem dJ6_bitCount_0f7a4_49 : decode cJ6_bitCount_0f7a4 49 = .ok (.bipush 63, 2) := by decide +kernel
theorem dJ6_bitCount_0f7a4_51 : decode cJ6_bitCount_0f7a4 51 = .ok (.iand, 1) := by decide +kernel
theorem dJ6_bitCount_0f7a4_52 : decode cJ6_bitCount_0f7a4 52 = .ok (.ireturn, 1) := by decide +kernel
abbrev cxJ6_bitCount_0f7a4 (G : Rg) (X : Ct) : Prop := Cx G X cJ6_bitCount_0f7a4 1 RJ6 (some .int) 0 0 (Cond.code yJ6_bitCount_0f7a4 cJ6_bitCount_0f7a4 1 (some .int))
def fJ6_bitCount_0f7a4 (x0 : Int32) (M : Mm) : Option (Int32 × Mm) :=
lt_ (((x0 - ((jushr x0 (nI 1)) &&& (nI 1431655765))) &&& (nI 858993459)) + ((jushr (x0 - ((jushr x0 (nI 1)) &&& (nI 1431655765))) (nI 2)) &&& (nI 858993459))) fun y1 =>
lt_ (((y1 + (jushr y1 (nI 4))) &&& (nI 252645135)) + (jushr ((y1 + (jushr y1 (nI 4))) &&& (nI 252645135)) (nI 8))) fun y2 =>
some (((y2 + (jushr y2 (nI 16))) &&& (nI 63)), M)
set_option maxHeartbeats 4000000 in
set_option maxRecDepth 100000 in
theorem mJ6_bitCount_0f7a4 (l : Launch) {G : Rg} {x0 : Int32}  {M Mf : Mm} {r : Int32} (hf : fJ6_bitCount_0f7a4 x0 M = some (r, Mf)) : Mt l G yJ6_bitCount_0f7a4 cJ6_bitCount_0f7a4 1 (some .int) 0 0 [.int x0] M (some (.int r)) Mf := by
  refine Mt.of (by decide) (Nat.le_of_ble_eq_true rfl) ?_
  intro X C hX
  subst hX
  have C : cxJ6_bitCount_0f7a4 G X := C
  show V G X 1 (some (.int r)) Mf 0 [(0, .int x0)] [] M
  rw [fJ6_bitCount_0f7a4] at hf
  refine V.iload_n (pc := 0) C 0 rfl dJ6_bitCount_0f7a4_0 ?_
  refine V.iload_n (pc := 1) C 0 rfl dJ6_bitCount_0f7a4_1 ?_
  refine V.iconst (pc := 2) C (nI 1) (by decide) dJ6_bitCount_0f7a4_2 ?_
  refine V.iushr (pc := 3) C dJ6_bitCount_0f7a4_3 ?_
  refine V.ldcw (pc := 4) C wC_J6_265 dJ6_bitCount_0f7a4_4 ?_
  refine V.iand (pc := 7) C dJ6_bitCount_0f7a4_7 ?_
  refine V.isub (pc := 8) C dJ6_bitCount_0f7a4_8 ?_
  refine V.istore_n (pc := 9) (lv' := [(0, .int (x0 - ((jushr x0 (nI 1)) &&& (nI 1431655765))))]) C (by decide) rfl dJ6_bitCount_0f7a4_9 ?_
  refine V.iload_n (pc := 10) C 0 rfl dJ6_bitCount_0f7a4_10 ?_
  refine V.ldcw (pc := 11) C wC_J6_266 dJ6_bitCount_0f7a4_11 ?_
  refine V.iand (pc := 14) C dJ6_bitCount_0f7a4_14 ?_
  refine V.iload_n (pc := 15) C 0 rfl dJ6_bitCount_0f7a4_15 ?_
  refine V.iconst (pc := 16) C (nI 2) (by decide) dJ6_bitCount_0f7a4_16 ?_
  refine V.iushr (pc := 17) C dJ6_bitCount_0f7a4_17 ?_
  refine V.ldcw (pc := 18) C wC_J6_266 dJ6_bitCount_0f7a4_18 ?_
  refine V.iand (pc := 21) C dJ6_bitCount_0f7a4_21 ?_
  refine V.iadd (pc := 22) C dJ6_bitCount_0f7a4_22 ?_
  obtain ⟨y1, e1, hf⟩ := lt_some hf
  refine V.nmI C e1 ?_
  refine V.istore_n (pc := 23) (lv' := [(0, .int y1)]) C (by decide) rfl dJ6_bitCount_0f7a4_23 ?_
  refine V.iload_n (pc := 24) C 0 rfl dJ6_bitCount_0f7a4_24 ?_
  refine V.iload_n (pc := 25) C 0 rfl dJ6_bitCount_0f7a4_25 ?_
  refine V.iconst (pc := 26) C (nI 4) (by decide) dJ6_bitCount_0f7a4_26 ?_
  refine V.iushr (pc := 27) C dJ6_bitCount_0f7a4_27 ?_
  refine V.iadd (pc := 28) C dJ6_bitCount_0f7a4_28 ?_
  refine V.ldcw (pc := 29) C wC_J6_267 dJ6_bitCount_0f7a4_29 ?_
  refine V.iand (pc := 32) C dJ6_bitCount_0f7a4_32 ?_
  refine V.istore_n (pc := 33) (lv' := [(0, .int ((y1 + (jushr y1 (nI 4))) &&& (nI 252645135)))]) C (by decide) rfl dJ6_bitCount_0f7a4_33 ?_
  refine V.iload_n (pc := 34) C 0 rfl dJ6_bitCount_0f7a4_34 ?_
  refine V.iload_n (pc := 35) C 0 rfl dJ6_bitCount_0f7a4_35 ?_
  refine V.bipush (pc := 36) C (nI 8) (by decide) dJ6_bitCount_0f7a4_36 ?_
  refine V.iushr (pc := 38) C dJ6_bitCount_0f7a4_38 ?_
  refine V.iadd (pc := 39) C dJ6_bitCount_0f7a4_39 ?_
  obtain ⟨y2, e2, hf⟩ := lt_some hf
  refine V.nmI C e2 ?_
  refine V.istore_n (pc := 40) (lv' := [(0, .int y2)]) C (by decide) rfl dJ6_bitCount_0f7a4_40 ?_
  refine V.iload_n (pc := 41) C 0 rfl dJ6_bitCount_0f7a4_41 ?_
  refine V.iload_n (pc := 42) C 0 rfl dJ6_bitCount_0f7a4_42 ?_
  refine V.bipush (pc := 43) C (nI 16) (by decide) dJ6_bitCount_0f7a4_43 ?_
  refine V.iushr (pc := 45) C dJ6_bitCount_0f7a4_45 ?_
  refine V.iadd (pc := 46) C dJ6_bitCount_0f7a4_46 ?_
  refine V.istore_n (pc := 47) (lv' := [(0, .int (y2 + (jushr y2 (nI 16))))]) C (by decide) rfl dJ6_bitCount_0f7a4_47 ?_
  refine V.iload_n (pc := 48) C 0 rfl dJ6_bitCount_0f7a4_48 ?_
  refine V.bipush (pc := 49) C (nI 63) (by decide) dJ6_bitCount_0f7a4_49 ?_
  refine V.iand (pc := 51) C dJ6_bitCount_0f7a4_51 ?_
  exact V.retI (pc := 52) C hf dJ6_bitCount_0f7a4_52
theorem dX8_officer_0 : decode cX8_officer 0 = .ok (.iload_n 1, 1) := by decide +kernel
theorem dX8_officer_1 : decode cX8_officer 1 = .ok (.iconst 0, 1) := by decide +kernel
theorem dX8_officer_2 : decode cX8_officer 2 = .ok (.bipush 11, 2) := by decide +kernel
theorem dX8_officer_4 : decode cX8_officer 4 = .ok (.invokestatic 73, 3) := by decide +kernel
theorem dX8_officer_7 : decode cX8_officer 7 = .ok (.ifCond .ne 5, 3) := by decide +kernel
theorem dX8_officer_10 : decode cX8_officer 10 = .ok (.iconst (-1), 1) := by decide +kernel
theorem dX8_officer_11 : decode cX8_officer 11 = .ok (.ireturn, 1) := by decide +kernel
theorem dX8_officer_12 : decode cX8_officer 12 = .ok (.iload_n 2, 1) := by decide +kernel
theorem dX8_officer_13 : decode cX8_officer 13 = .ok (.iconst 0, 1) := by decide +kernel
theorem dX8_officer_14 : decode cX8_officer 14 = .ok (.iconst 5, 1) := by decide +kernel
theorem dX8_officer_15 : decode cX8_officer 15 = .ok (.invokestatic 73, 3) := by decide +kernel
theorem dX8_officer_18 : decode cX8_officer 18 = .ok (.ifCond .ne 6, 3) := by decide +kernel
theorem dX8_officer_21 : decode cX8_officer 21 = .ok (.bipush (-2), 2) := by decide +kernel
theorem dX8_officer_23 : decode cX8_officer 23 = .ok (.ireturn, 1) := by decide +kernel
theorem dX8_officer_24 : decode cX8_officer 24 = .ok (.aload_n 0, 1) := by decide +kernel
theorem dX8_officer_25 : decode cX8_officer 25 = .ok (.getfield 12, 3) := by decide +kernel
theorem dX8_officer_28 : decode cX8_officer 28 = .ok (.iload_n 1, 1) := by decide +kernel
theorem dX8_officer_29 : decode cX8_officer 29 = .ok (.iload_n 2, 1) := by decide +kernel
theorem dX8_officer_30 : decode cX8_officer 30 = .ok (.invokevirtual 77, 3) := by decide +kernel
theorem dX8_officer_33 : decode cX8_officer 33 = .ok (.aload_n 0, 1) := by decide +kernel
theorem dX8_officer_34 : decode cX8_officer 34 = .ok (.getfield 12, 3) := by decide +kernel
theorem dX8_officer_37 : decode cX8_officer 37 = .ok (.getfield 81, 3) := by decide +kernel
theorem dX8_officer_40 : decode cX8_officer 40 = .ok (.invokestatic 85, 3) := by decide +kernel
theorem dX8_officer_43 : decode cX8_officer 43 = .ok (.ireturn, 1) := by decide +kernel
abbrev cxX8_officer (G : Rg) (X : Ct) : Prop := Cx G X cX8_officer 3 RX8 (some .int) 1 22 (Cond.code yX8_officer cX8_officer 3 (some .int))
def fX8_officer (x1 : Int32) (x2 : Int32) (M : Mm) : Option (Int32 × Mm) :=
bd (fX8_isWithin x1 (nI 0) (nI 11) M) fun r1 M1 =>
if r1 = (nI 0) then
(some ((mI 1), M1))
else
(bd (fX8_isWithin x2 (nI 0) (nI 5) M1) fun r3 M3 =>
if r3 = (nI 0) then
(some ((mI 2), M3))
else
(bd (fX0_enter 1 x1 x2 M3) fun _ M5 =>
bd (fJ6_bitCount_0f7a4 (M5.1 1 0) M5) fun r6 M6 =>
some (r6, M6)))
set_option maxHeartbeats 4000000 in
set_option maxRecDepth 100000 in
theorem mX8_officer (l : Launch) {G : Rg} (hG : gS G = shX) {x1 : Int32} {x2 : Int32}  {M Mf : Mm} {r : Int32} (hf : fX8_officer x1 x2 M = some (r, Mf)) : Mt l G yX8_officer cX8_officer 3 (some .int) 1 22 [.ref (gA G 0), .int x1, .int x2] M (some (.int r)) Mf := by
  refine Mt.of (by decide) (Nat.le_of_ble_eq_true rfl) ?_
  intro X C hX
  subst hX
  have C : cxX8_officer G X := C
  show V G X 3 (some (.int r)) Mf 0 [(0, .ref (gA G 0)), (1, .int x1), (2, .int x2)] [] M
  rw [fX8_officer] at hf
  refine V.iload_n (pc := 0) C 1 rfl dX8_officer_0 ?_
  refine V.iconst (pc := 1) C (nI 0) (by decide) dX8_officer_1 ?_
  refine V.bipush (pc := 2) C (nI 11) (by decide) dX8_officer_2 ?_
  obtain ⟨r1, M1, h1, hf⟩ := bd_some hf
  refine V.callSi (pc := 4) (As := [.int x1, .int (nI 0), .int (nI 11)]) (rest := []) C (mX8_isWithin X.2.1 hG  h1) mf_X8_isWithin wM_X8_73 rfl rfl ⟨by decide, by decide⟩ (Nat.le_of_ble_eq_true rfl) dX8_officer_4 ?_
  rcases it_some hf with ⟨h2, hf⟩ | ⟨h2, hf⟩
  · refine V.if_neF (pc := 7) C 12 h2 (by decide) dX8_officer_7 ?_
    refine V.iconst (pc := 10) C (mI 1) (by decide) dX8_officer_10 ?_
    exact V.retI (pc := 11) C hf dX8_officer_11
  · refine V.if_neT (pc := 7) C 12 h2 (by decide) dX8_officer_7 ?_
    refine V.iload_n (pc := 12) C 2 rfl dX8_officer_12 ?_
    refine V.iconst (pc := 13) C (nI 0) (by decide) dX8_officer_13 ?_
    refine V.iconst (pc := 14) C (nI 5) (by decide) dX8_officer_14 ?_
    obtain ⟨r3, M3, h3, hf⟩ := bd_some hf
    refine V.callSi (pc := 15) (As := [.int x2, .int (nI 0), .int (nI 5)]) (rest := []) C (mX8_isWithin X.2.1 hG  h3) mf_X8_isWithin wM_X8_73 rfl rfl ⟨by decide, by decide⟩ (Nat.le_of_ble_eq_true rfl) dX8_officer_15 ?_
    rcases it_some hf with ⟨h4, hf⟩ | ⟨h4, hf⟩
    · refine V.if_neF (pc := 18) C 24 h4 (by decide) dX8_officer_18 ?_
      refine V.bipush (pc := 21) C (mI 2) (by decide) dX8_officer_21 ?_
      exact V.retI (pc := 23) C hf dX8_officer_23
    · refine V.if_neT (pc := 18) C 24 h4 (by decide) dX8_officer_18 ?_
      refine V.aload_n (pc := 24) C 0 rfl dX8_officer_24 ?_
      refine V.getR (pc := 25) C clX8 inX8 (sx_0 hG) 0 (by decide) wF_X8_12 rfl dX8_officer_25 ?_
      refine V.iload_n (pc := 28) C 1 rfl dX8_officer_28 ?_
      refine V.iload_n (pc := 29) C 2 rfl dX8_officer_29 ?_
      obtain ⟨_, M5, h5, hf⟩ := bd_some hf
      refine V.callVv (pc := 30) (As := [.int x1, .int x2]) (rest := []) C (mX0_enter X.2.1 hG (bx_1 hG) h5) mf_X0_enter clX0 (sx_1 hG) wM_X8_77 rfl rfl ⟨by decide, by decide⟩ (Nat.le_of_ble_eq_true rfl) dX8_officer_30 ?_
      refine V.aload_n (pc := 33) C 0 rfl dX8_officer_33 ?_
      refine V.getR (pc := 34) C clX8 inX8 (sx_0 hG) 0 (by decide) wF_X8_12 rfl dX8_officer_34 ?_
      refine V.getI (pc := 37) C clX0 inX0 (sx_1 hG) 0 (by decide) wF_X8_81 rfl dX8_officer_37 ?_
      obtain ⟨r6, M6, h6, hf⟩ := bd_some hf
      refine V.callSi (pc := 40) (As := [.int (M5.1 1 0)]) (rest := []) C (mJ6_bitCount_0f7a4 X.2.1  h6) mf_J6_bitCount_0f7a4 wM_X8_85 rfl rfl ⟨by decide, by decide⟩ (Nat.le_of_ble_eq_true rfl) dX8_officer_40 ?_
      exact V.retI (pc := 43) C hf dX8_officer_43
theorem dX0_isThere_0 : decode cX0_isThere 0 = .ok (.iload_n 1, 1) := by decide +kernel
theorem dX0_isThere_1 : decode cX0_isThere 1 = .ok (.ifCond .lt 25, 3) := by decide +kernel
theorem dX0_isThere_4 : decode cX0_isThere 4 = .ok (.iload_n 1, 1) := by decide +kernel
theorem dX0_isThere_5 : decode cX0_isThere 5 = .ok (.bipush 12, 2) := by decide +kernel
theorem dX0_isThere_7 : decode cX0_isThere 7 = .ok (.if_icmp .ge 19, 3) := by decide +kernel
theorem dX0_isThere_10 : decode cX0_isThere 10 = .ok (.aload_n 0, 1) := by decide +kernel
theorem dX0_isThere_11 : decode cX0_isThere 11 = .ok (.getfield 28, 3) := by decide +kernel
theorem dX0_isThere_14 : decode cX0_isThere 14 = .ok (.iload_n 1, 1) := by decide +kernel
theorem dX0_isThere_15 : decode cX0_isThere 15 = .ok (.ishr, 1) := by decide +kernel
theorem dX0_isThere_16 : decode cX0_isThere 16 = .ok (.iconst 1, 1) := by decide +kernel
theorem dX0_isThere_17 : decode cX0_isThere 17 = .ok (.iand, 1) := by decide +kernel
theorem dX0_isThere_18 : decode cX0_isThere 18 = .ok (.iconst 1, 1) := by decide +kernel
theorem dX0_isThere_19 : decode cX0_isThere 19 = .ok (.if_icmp .ne 7, 3) := by decide +kernel
theorem dX0_isThere_22 : decode cX0_isThere 22 = .ok (.iconst 1, 1) := by decide +kernel
theorem dX0_isThere_23 : decode cX0_isThere 23 = .ok (.goto 4, 3) := by decide +kernel
theorem dX0_isThere_26 : decode cX0_isThere 26 = .ok (.iconst 0, 1) := by decide +kernel
theorem dX0_isThere_27 : decode cX0_isThere 27 = .ok (.ireturn, 1) := by decide +kernel
abbrev cxX0_isThere (G : Rg) (X : Ct) : Prop := Cx G X cX0_isThere 2 RX0 (some .boolean) 0 0 (Cond.code yX0_isThere cX0_isThere 2 (some .boolean))
def fX0_isThere (c0 : Nat) (x1 : Int32) (M : Mm) : Option (Int32 × Mm) :=
if x1 < (nI 0) then
(some ((nI 0), M))
else
(if (nI 12) ≤ x1 then
(some ((nI 0), M))
else
(if ((jshr (M.1 c0 0) x1) &&& (nI 1)) = (nI 1) then
(some ((nI 1), M))
else
(some ((nI 0), M))))
set_option maxHeartbeats 4000000 in
set_option maxRecDepth 100000 in
theorem mX0_isThere (l : Launch) {G : Rg} (hG : gS G = shX) {c0 : Nat} {x1 : Int32} (hB0 : isB G c0) {M Mf : Mm} {r : Int32} (hf : fX0_isThere c0 x1 M = some (r, Mf)) : Mt l G yX0_isThere cX0_isThere 2 (some .boolean) 0 0 [.ref (gA G c0), .int x1] M (some (.int r)) Mf := by
  refine Mt.of (by decide) (Nat.le_of_ble_eq_true rfl) ?_
  intro X C hX
  subst hX
  have C : cxX0_isThere G X := C
  show V G X 2 (some (.int r)) Mf 0 [(0, .ref (gA G c0)), (1, .int x1)] [] M
  rw [fX0_isThere] at hf
  refine V.iload_n (pc := 0) C 1 rfl dX0_isThere_0 ?_
  rcases it_some hf with ⟨h1, hf⟩ | ⟨h1, hf⟩
  · refine V.if_ltT (pc := 1) C 26 h1 (by decide) dX0_isThere_1 ?_
    refine V.iconst (pc := 26) C (nI 0) (by decide) dX0_isThere_26 ?_
    exact V.retZ (pc := 27) C (Or.inl rfl) hf dX0_isThere_27
  · refine V.if_ltF (pc := 1) C 26 h1 (by decide) dX0_isThere_1 ?_
    refine V.iload_n (pc := 4) C 1 rfl dX0_isThere_4 ?_
    refine V.bipush (pc := 5) C (nI 12) (by decide) dX0_isThere_5 ?_
    rcases it_some hf with ⟨h2, hf⟩ | ⟨h2, hf⟩
    · refine V.ic_geT (pc := 7) C 26 h2 (by decide) dX0_isThere_7 ?_
      refine V.iconst (pc := 26) C (nI 0) (by decide) dX0_isThere_26 ?_
      exact V.retZ (pc := 27) C (Or.inl rfl) hf dX0_isThere_27
    · refine V.ic_geF (pc := 7) C 26 h2 (by decide) dX0_isThere_7 ?_
      refine V.aload_n (pc := 10) C 0 rfl dX0_isThere_10 ?_
      refine V.getI (pc := 11) C clX0 inX0 hB0.1 0 (by decide) wF_X0_28 rfl dX0_isThere_11 ?_
      refine V.iload_n (pc := 14) C 1 rfl dX0_isThere_14 ?_
      refine V.ishr (pc := 15) C dX0_isThere_15 ?_
      refine V.iconst (pc := 16) C (nI 1) (by decide) dX0_isThere_16 ?_
      refine V.iand (pc := 17) C dX0_isThere_17 ?_
      refine V.iconst (pc := 18) C (nI 1) (by decide) dX0_isThere_18 ?_
      rcases it_some hf with ⟨h3, hf⟩ | ⟨h3, hf⟩
      · refine V.ic_neF (pc := 19) C 26 h3 (by decide) dX0_isThere_19 ?_
        refine V.iconst (pc := 22) C (nI 1) (by decide) dX0_isThere_22 ?_
        refine V.goto (pc := 23) C 27 (by decide) dX0_isThere_23 ?_
        exact V.retZ (pc := 27) C (Or.inr rfl) hf dX0_isThere_27
      · refine V.ic_neT (pc := 19) C 26 h3 (by decide) dX0_isThere_19 ?_
        refine V.iconst (pc := 26) C (nI 0) (by decide) dX0_isThere_26 ?_
        exact V.retZ (pc := 27) C (Or.inl rfl) hf dX0_isThere_27
theorem dX8_leave_0 : decode cX8_leave 0 = .ok (.aload_n 0, 1) := by decide +kernel
theorem dX8_leave_1 : decode cX8_leave 1 = .ok (.getfield 12, 3) := by decide +kernel
theorem dX8_leave_4 : decode cX8_leave 4 = .ok (.iload_n 1, 1) := by decide +kernel
theorem dX8_leave_5 : decode cX8_leave 5 = .ok (.invokevirtual 91, 3) := by decide +kernel
theorem dX8_leave_8 : decode cX8_leave 8 = .ok (.ifCond .ne 5, 3) := by decide +kernel
theorem dX8_leave_11 : decode cX8_leave 11 = .ok (.iconst (-1), 1) := by decide +kernel
theorem dX8_leave_12 : decode cX8_leave 12 = .ok (.ireturn, 1) := by decide +kernel
theorem dX8_leave_13 : decode cX8_leave 13 = .ok (.aload_n 0, 1) := by decide +kernel
theorem dX8_leave_14 : decode cX8_leave 14 = .ok (.getfield 12, 3) := by decide +kernel
theorem dX8_leave_17 : decode cX8_leave 17 = .ok (.dup, 1) := by decide +kernel
theorem dX8_leave_18 : decode cX8_leave 18 = .ok (.getfield 81, 3) := by decide +kernel
theorem dX8_leave_21 : decode cX8_leave 21 = .ok (.iconst 1, 1) := by decide +kernel
theorem dX8_leave_22 : decode cX8_leave 22 = .ok (.iload_n 1, 1) := by decide +kernel
theorem dX8_leave_23 : decode cX8_leave 23 = .ok (.ishl, 1) := by decide +kernel
theorem dX8_leave_24 : decode cX8_leave 24 = .ok (.iconst (-1), 1) := by decide +kernel
theorem dX8_leave_25 : decode cX8_leave 25 = .ok (.ixor, 1) := by decide +kernel
theorem dX8_leave_26 : decode cX8_leave 26 = .ok (.iand, 1) := by decide +kernel
theorem dX8_leave_27 : decode cX8_leave 27 = .ok (.putfield 81, 3) := by decide +kernel
theorem dX8_leave_30 : decode cX8_leave 30 = .ok (.aload_n 0, 1) := by decide +kernel
theorem dX8_leave_31 : decode cX8_leave 31 = .ok (.getfield 12, 3) := by decide +kernel
theorem dX8_leave_34 : decode cX8_leave 34 = .ok (.getfield 81, 3) := by decide +kernel
theorem dX8_leave_37 : decode cX8_leave 37 = .ok (.invokestatic 85, 3) := by decide +kernel
theorem dX8_leave_40 : decode cX8_leave 40 = .ok (.ireturn, 1) := by decide +kernel
abbrev cxX8_leave (G : Rg) (X : Ct) : Prop := Cx G X cX8_leave 2 RX8 (some .int) 1 21 (Cond.code yX8_leave cX8_leave 2 (some .int))
def fX8_leave (x1 : Int32) (M : Mm) : Option (Int32 × Mm) :=
bd (fX0_isThere 1 x1 M) fun r1 M1 =>
if r1 = (nI 0) then
(some ((mI 1), M1))
else
(bd (fJ6_bitCount_0f7a4 ((sI M1 1 0 ((M1.1 1 0) &&& ((jshl (nI 1) x1) ^^^ (mI 1)))).1 1 0) (sI M1 1 0 ((M1.1 1 0) &&& ((jshl (nI 1) x1) ^^^ (mI 1))))) fun r3 M3 =>
some (r3, M3))
set_option maxHeartbeats 4000000 in
set_option maxRecDepth 100000 in
theorem mX8_leave (l : Launch) {G : Rg} (hG : gS G = shX) {x1 : Int32}  {M Mf : Mm} {r : Int32} (hf : fX8_leave x1 M = some (r, Mf)) : Mt l G yX8_leave cX8_leave 2 (some .int) 1 21 [.ref (gA G 0), .int x1] M (some (.int r)) Mf := by
  refine Mt.of (by decide) (Nat.le_of_ble_eq_true rfl) ?_
  intro X C hX
  subst hX
  have C : cxX8_leave G X := C
  show V G X 2 (some (.int r)) Mf 0 [(0, .ref (gA G 0)), (1, .int x1)] [] M
  rw [fX8_leave] at hf
  refine V.aload_n (pc := 0) C 0 rfl dX8_leave_0 ?_
  refine V.getR (pc := 1) C clX8 inX8 (sx_0 hG) 0 (by decide) wF_X8_12 rfl dX8_leave_1 ?_
  refine V.iload_n (pc := 4) C 1 rfl dX8_leave_4 ?_
  obtain ⟨r1, M1, h1, hf⟩ := bd_some hf
  refine V.callVi (pc := 5) (As := [.int x1]) (rest := []) C (mX0_isThere X.2.1 hG (bx_1 hG) h1) mf_X0_isThere clX0 (sx_1 hG) wM_X8_91 rfl rfl ⟨by decide, by decide⟩ (Nat.le_of_ble_eq_true rfl) dX8_leave_5 ?_
  rcases it_some hf with ⟨h2, hf⟩ | ⟨h2, hf⟩
  · refine V.if_neF (pc := 8) C 13 h2 (by decide) dX8_leave_8 ?_
    refine V.iconst (pc := 11) C (mI 1) (by decide) dX8_leave_11 ?_
    exact V.retI (pc := 12) C hf dX8_leave_12
  · refine V.if_neT (pc := 8) C 13 h2 (by decide) dX8_leave_8 ?_
    refine V.aload_n (pc := 13) C 0 rfl dX8_leave_13 ?_
    refine V.getR (pc := 14) C clX8 inX8 (sx_0 hG) 0 (by decide) wF_X8_12 rfl dX8_leave_14 ?_
    refine V.dup (pc := 17) C rfl dX8_leave_17 ?_
    refine V.getI (pc := 18) C clX0 inX0 (sx_1 hG) 0 (by decide) wF_X8_81 rfl dX8_leave_18 ?_
    refine V.iconst (pc := 21) C (nI 1) (by decide) dX8_leave_21 ?_
    refine V.iload_n (pc := 22) C 1 rfl dX8_leave_22 ?_
    refine V.ishl (pc := 23) C dX8_leave_23 ?_
    refine V.iconst (pc := 24) C (mI 1) (by decide) dX8_leave_24 ?_
    refine V.ixor (pc := 25) C dX8_leave_25 ?_
    refine V.iand (pc := 26) C dX8_leave_26 ?_
    refine V.putI (pc := 27) C clX0 inX0 (sx_1 hG) 0 (by decide) wF_X8_81 tyX0 tyX0_ok nmX0 rfl (tyX0_ok 0 (by decide)) rfl dX8_leave_27 ?_
    refine V.aload_n (pc := 30) C 0 rfl dX8_leave_30 ?_
    refine V.getR (pc := 31) C clX8 inX8 (sx_0 hG) 0 (by decide) wF_X8_12 rfl dX8_leave_31 ?_
    refine V.getI (pc := 34) C clX0 inX0 (sx_1 hG) 0 (by decide) wF_X8_81 rfl dX8_leave_34 ?_
    obtain ⟨r3, M3, h3, hf⟩ := bd_some hf
    refine V.callSi (pc := 37) (As := [.int ((sI M1 1 0 ((M1.1 1 0) &&& ((jshl (nI 1) x1) ^^^ (mI 1)))).1 1 0)]) (rest := []) C (mJ6_bitCount_0f7a4 X.2.1  h3) mf_J6_bitCount_0f7a4 wM_X8_85 rfl rfl ⟨by decide, by decide⟩ (Nat.le_of_ble_eq_true rfl) dX8_leave_37 ?_
    exact V.retI (pc := 40) C hf dX8_leave_40
theorem dX8_rate_0 : decode cX8_rate 0 = .ok (.iload_n 1, 1) := by decide +kernel
theorem dX8_rate_1 : decode cX8_rate 1 = .ok (.iconst 0, 1) := by decide +kernel
theorem dX8_rate_2 : decode cX8_rate 2 = .ok (.iconst 5, 1) := by decide +kernel
theorem dX8_rate_3 : decode cX8_rate 3 = .ok (.invokestatic 73, 3) := by decide +kernel
theorem dX8_rate_6 : decode cX8_rate 6 = .ok (.ifCond .eq 13, 3) := by decide +kernel
theorem dX8_rate_9 : decode cX8_rate 9 = .ok (.iload_n 2, 1) := by decide +kernel
theorem dX8_rate_10 : decode cX8_rate 10 = .ok (.iconst 1, 1) := by decide +kernel
theorem dX8_rate_11 : decode cX8_rate 11 = .ok (.bipush 99, 2) := by decide +kernel
theorem dX8_rate_13 : decode cX8_rate 13 = .ok (.invokestatic 73, 3) := by decide +kernel
theorem dX8_rate_16 : decode cX8_rate 16 = .ok (.ifCond .ne 6, 3) := by decide +kernel
theorem dX8_rate_19 : decode cX8_rate 19 = .ok (.bipush (-2), 2) := by decide +kernel
theorem dX8_rate_21 : decode cX8_rate 21 = .ok (.ireturn, 1) := by decide +kernel
theorem dX8_rate_22 : decode cX8_rate 22 = .ok (.aload_n 0, 1) := by decide +kernel
theorem dX8_rate_23 : decode cX8_rate 23 = .ok (.getfield 12, 3) := by decide +kernel
theorem dX8_rate_26 : decode cX8_rate 26 = .ok (.getfield 95, 3) := by decide +kernel
theorem dX8_rate_29 : decode cX8_rate 29 = .ok (.iload_n 1, 1) := by decide +kernel
theorem dX8_rate_30 : decode cX8_rate 30 = .ok (.iaload, 1) := by decide +kernel
theorem dX8_rate_31 : decode cX8_rate 31 = .ok (.istore_n 3, 1) := by decide +kernel
theorem dX8_rate_32 : decode cX8_rate 32 = .ok (.aload_n 0, 1) := by decide +kernel
theorem dX8_rate_33 : decode cX8_rate 33 = .ok (.getfield 12, 3) := by decide +kernel
theorem dX8_rate_36 : decode cX8_rate 36 = .ok (.getfield 95, 3) := by decide +kernel
theorem dX8_rate_39 : decode cX8_rate 39 = .ok (.iload_n 1, 1) := by decide +kernel
theorem dX8_rate_40 : decode cX8_rate 40 = .ok (.iload_n 2, 1) := by decide +kernel
theorem dX8_rate_41 : decode cX8_rate 41 = .ok (.iastore, 1) := by decide +kernel
theorem dX8_rate_42 : decode cX8_rate 42 = .ok (.iload_n 3, 1) := by decide +kernel
theorem dX8_rate_43 : decode cX8_rate 43 = .ok (.ireturn, 1) := by decide +kernel
abbrev cxX8_rate (G : Rg) (X : Ct) : Prop := Cx G X cX8_rate 4 RX8 (some .int) 1 22 (Cond.code yX8_rate cX8_rate 4 (some .int))
def fX8_rate (x1 : Int32) (x2 : Int32) (M : Mm) : Option (Int32 × Mm) :=
bd (fX8_isWithin x1 (nI 0) (nI 5) M) fun r1 M1 =>
if r1 = (nI 0) then
(some ((mI 2), M1))
else
(bd (fX8_isWithin x2 (nI 1) (nI 99) M1) fun r3 M3 =>
if r3 = (nI 0) then
(some ((mI 2), M3))
else
(gd (inb x1 6) (
gd (inb x1 6) (
some ((M3.1 4 x1.toNatClampNeg), (sI M3 4 x1.toNatClampNeg x2))))))
set_option maxHeartbeats 4000000 in
set_option maxRecDepth 100000 in
theorem mX8_rate (l : Launch) {G : Rg} (hG : gS G = shX) {x1 : Int32} {x2 : Int32}  {M Mf : Mm} {r : Int32} (hf : fX8_rate x1 x2 M = some (r, Mf)) : Mt l G yX8_rate cX8_rate 4 (some .int) 1 22 [.ref (gA G 0), .int x1, .int x2] M (some (.int r)) Mf := by
  refine Mt.of (by decide) (Nat.le_of_ble_eq_true rfl) ?_
  intro X C hX
  subst hX
  have C : cxX8_rate G X := C
  show V G X 4 (some (.int r)) Mf 0 [(0, .ref (gA G 0)), (1, .int x1), (2, .int x2)] [] M
  rw [fX8_rate] at hf
  refine V.iload_n (pc := 0) C 1 rfl dX8_rate_0 ?_
  refine V.iconst (pc := 1) C (nI 0) (by decide) dX8_rate_1 ?_
  refine V.iconst (pc := 2) C (nI 5) (by decide) dX8_rate_2 ?_
  obtain ⟨r1, M1, h1, hf⟩ := bd_some hf
  refine V.callSi (pc := 3) (As := [.int x1, .int (nI 0), .int (nI 5)]) (rest := []) C (mX8_isWithin X.2.1 hG  h1) mf_X8_isWithin wM_X8_73 rfl rfl ⟨by decide, by decide⟩ (Nat.le_of_ble_eq_true rfl) dX8_rate_3 ?_
  rcases it_some hf with ⟨h2, hf⟩ | ⟨h2, hf⟩
  · refine V.if_eqT (pc := 6) C 19 h2 (by decide) dX8_rate_6 ?_
    refine V.bipush (pc := 19) C (mI 2) (by decide) dX8_rate_19 ?_
    exact V.retI (pc := 21) C hf dX8_rate_21
  · refine V.if_eqF (pc := 6) C 19 h2 (by decide) dX8_rate_6 ?_
    refine V.iload_n (pc := 9) C 2 rfl dX8_rate_9 ?_
    refine V.iconst (pc := 10) C (nI 1) (by decide) dX8_rate_10 ?_
    refine V.bipush (pc := 11) C (nI 99) (by decide) dX8_rate_11 ?_
    obtain ⟨r3, M3, h3, hf⟩ := bd_some hf
    refine V.callSi (pc := 13) (As := [.int x2, .int (nI 1), .int (nI 99)]) (rest := []) C (mX8_isWithin X.2.1 hG  h3) mf_X8_isWithin wM_X8_73 rfl rfl ⟨by decide, by decide⟩ (Nat.le_of_ble_eq_true rfl) dX8_rate_13 ?_
    rcases it_some hf with ⟨h4, hf⟩ | ⟨h4, hf⟩
    · refine V.if_neF (pc := 16) C 22 h4 (by decide) dX8_rate_16 ?_
      refine V.bipush (pc := 19) C (mI 2) (by decide) dX8_rate_19 ?_
      exact V.retI (pc := 21) C hf dX8_rate_21
    · refine V.if_neT (pc := 16) C 22 h4 (by decide) dX8_rate_16 ?_
      refine V.aload_n (pc := 22) C 0 rfl dX8_rate_22 ?_
      refine V.getR (pc := 23) C clX8 inX8 (sx_0 hG) 0 (by decide) wF_X8_12 rfl dX8_rate_23 ?_
      refine V.getR (pc := 26) C clX0 inX0 (sx_1 hG) 6 (by decide) wF_X8_95 rfl dX8_rate_26 ?_
      refine V.iload_n (pc := 29) C 1 rfl dX8_rate_29 ?_
      obtain ⟨g5, hf⟩ := gd_some hf
      refine V.iald (pc := 30) C (sx_4 hG) (inb_in g5) dX8_rate_30 ?_
      refine V.istore_n (pc := 31) (lv' := [(3, .int (M3.1 4 x1.toNatClampNeg)), (0, .ref (gA G 0)), (1, .int x1), (2, .int x2)]) C (by decide) rfl dX8_rate_31 ?_
      refine V.aload_n (pc := 32) C 1 rfl dX8_rate_32 ?_
      refine V.getR (pc := 33) C clX8 inX8 (sx_0 hG) 0 (by decide) wF_X8_12 rfl dX8_rate_33 ?_
      refine V.getR (pc := 36) C clX0 inX0 (sx_1 hG) 6 (by decide) wF_X8_95 rfl dX8_rate_36 ?_
      refine V.iload_n (pc := 39) C 2 rfl dX8_rate_39 ?_
      refine V.iload_n (pc := 40) C 3 rfl dX8_rate_40 ?_
      obtain ⟨g6, hf⟩ := gd_some hf
      refine V.iast (pc := 41) C (sx_4 hG) (inb_in g6) dX8_rate_41 ?_
      refine V.iload_n (pc := 42) C 0 rfl dX8_rate_42 ?_
      exact V.retI (pc := 43) C hf dX8_rate_43
theorem dX8_trust_0 : decode cX8_trust 0 = .ok (.iload_n 1, 1) := by decide +kernel
theorem dX8_trust_1 : decode cX8_trust 1 = .ok (.iconst 0, 1) := by decide +kernel
theorem dX8_trust_2 : decode cX8_trust 2 = .ok (.bipush 9, 2) := by decide +kernel
theorem dX8_trust_4 : decode cX8_trust 4 = .ok (.invokestatic 73, 3) := by decide +kernel
theorem dX8_trust_7 : decode cX8_trust 7 = .ok (.ifCond .ne 6, 3) := by decide +kernel
theorem dX8_trust_10 : decode cX8_trust 10 = .ok (.bipush (-2), 2) := by decide +kernel
theorem dX8_trust_12 : decode cX8_trust 12 = .ok (.ireturn, 1) := by decide +kernel
theorem dX8_trust_13 : decode cX8_trust 13 = .ok (.aload_n 0, 1) := by decide +kernel
theorem dX8_trust_14 : decode cX8_trust 14 = .ok (.getfield 12, 3) := by decide +kernel
theorem dX8_trust_17 : decode cX8_trust 17 = .ok (.getfield 99, 3) := by decide +kernel
theorem dX8_trust_20 : decode cX8_trust 20 = .ok (.istore_n 2, 1) := by decide +kernel
theorem dX8_trust_21 : decode cX8_trust 21 = .ok (.aload_n 0, 1) := by decide +kernel
theorem dX8_trust_22 : decode cX8_trust 22 = .ok (.getfield 12, 3) := by decide +kernel
theorem dX8_trust_25 : decode cX8_trust 25 = .ok (.iload_n 1, 1) := by decide +kernel
theorem dX8_trust_26 : decode cX8_trust 26 = .ok (.putfield 99, 3) := by decide +kernel
theorem dX8_trust_29 : decode cX8_trust 29 = .ok (.iload_n 2, 1) := by decide +kernel
theorem dX8_trust_30 : decode cX8_trust 30 = .ok (.ireturn, 1) := by decide +kernel
abbrev cxX8_trust (G : Rg) (X : Ct) : Prop := Cx G X cX8_trust 3 RX8 (some .int) 1 22 (Cond.code yX8_trust cX8_trust 3 (some .int))
def fX8_trust (x1 : Int32) (M : Mm) : Option (Int32 × Mm) :=
bd (fX8_isWithin x1 (nI 0) (nI 9) M) fun r1 M1 =>
if r1 = (nI 0) then
(some ((mI 2), M1))
else
(some ((M1.1 1 1), (sI M1 1 1 x1)))
set_option maxHeartbeats 4000000 in
set_option maxRecDepth 100000 in
theorem mX8_trust (l : Launch) {G : Rg} (hG : gS G = shX) {x1 : Int32}  {M Mf : Mm} {r : Int32} (hf : fX8_trust x1 M = some (r, Mf)) : Mt l G yX8_trust cX8_trust 3 (some .int) 1 22 [.ref (gA G 0), .int x1] M (some (.int r)) Mf := by
  refine Mt.of (by decide) (Nat.le_of_ble_eq_true rfl) ?_
  intro X C hX
  subst hX
  have C : cxX8_trust G X := C
  show V G X 3 (some (.int r)) Mf 0 [(0, .ref (gA G 0)), (1, .int x1)] [] M
  rw [fX8_trust] at hf
  refine V.iload_n (pc := 0) C 1 rfl dX8_trust_0 ?_
  refine V.iconst (pc := 1) C (nI 0) (by decide) dX8_trust_1 ?_
  refine V.bipush (pc := 2) C (nI 9) (by decide) dX8_trust_2 ?_
  obtain ⟨r1, M1, h1, hf⟩ := bd_some hf
  refine V.callSi (pc := 4) (As := [.int x1, .int (nI 0), .int (nI 9)]) (rest := []) C (mX8_isWithin X.2.1 hG  h1) mf_X8_isWithin wM_X8_73 rfl rfl ⟨by decide, by decide⟩ (Nat.le_of_ble_eq_true rfl) dX8_trust_4 ?_
  rcases it_some hf with ⟨h2, hf⟩ | ⟨h2, hf⟩
  · refine V.if_neF (pc := 7) C 13 h2 (by decide) dX8_trust_7 ?_
    refine V.bipush (pc := 10) C (mI 2) (by decide) dX8_trust_10 ?_
    exact V.retI (pc := 12) C hf dX8_trust_12
  · refine V.if_neT (pc := 7) C 13 h2 (by decide) dX8_trust_7 ?_
    refine V.aload_n (pc := 13) C 0 rfl dX8_trust_13 ?_
    refine V.getR (pc := 14) C clX8 inX8 (sx_0 hG) 0 (by decide) wF_X8_12 rfl dX8_trust_14 ?_
    refine V.getI (pc := 17) C clX0 inX0 (sx_1 hG) 1 (by decide) wF_X8_99 rfl dX8_trust_17 ?_
    refine V.istore_n (pc := 20) (lv' := [(2, .int (M1.1 1 1)), (0, .ref (gA G 0)), (1, .int x1)]) C (by decide) rfl dX8_trust_20 ?_
    refine V.aload_n (pc := 21) C 1 rfl dX8_trust_21 ?_
    refine V.getR (pc := 22) C clX8 inX8 (sx_0 hG) 0 (by decide) wF_X8_12 rfl dX8_trust_22 ?_
    refine V.iload_n (pc := 25) C 2 rfl dX8_trust_25 ?_
    refine V.putI (pc := 26) C clX0 inX0 (sx_1 hG) 1 (by decide) wF_X8_99 tyX0 tyX0_ok nmX0 rfl (tyX0_ok 1 (by decide)) rfl dX8_trust_26 ?_
    refine V.iload_n (pc := 29) C 0 rfl dX8_trust_29 ?_
    exact V.retI (pc := 30) C hf dX8_trust_30
theorem dX4_write_0 : decode cX4_write 0 = .ok (.aload_n 0, 1) := by decide +kernel
theorem dX4_write_1 : decode cX4_write 1 = .ok (.getfield 15, 3) := by decide +kernel
theorem dX4_write_4 : decode cX4_write 4 = .ok (.bipush 60, 2) := by decide +kernel
theorem dX4_write_6 : decode cX4_write 6 = .ok (.if_icmp .ge 23, 3) := by decide +kernel
theorem dX4_write_9 : decode cX4_write 9 = .ok (.aload_n 0, 1) := by decide +kernel
theorem dX4_write_10 : decode cX4_write 10 = .ok (.getfield 9, 3) := by decide +kernel
theorem dX4_write_13 : decode cX4_write 13 = .ok (.aload_n 0, 1) := by decide +kernel
theorem dX4_write_14 : decode cX4_write 14 = .ok (.getfield 15, 3) := by decide +kernel
theorem dX4_write_17 : decode cX4_write 17 = .ok (.iload_n 1, 1) := by decide +kernel
theorem dX4_write_18 : decode cX4_write 18 = .ok (.iastore, 1) := by decide +kernel
theorem dX4_write_19 : decode cX4_write 19 = .ok (.aload_n 0, 1) := by decide +kernel
theorem dX4_write_20 : decode cX4_write 20 = .ok (.dup, 1) := by decide +kernel
theorem dX4_write_21 : decode cX4_write 21 = .ok (.getfield 15, 3) := by decide +kernel
theorem dX4_write_24 : decode cX4_write 24 = .ok (.iconst 1, 1) := by decide +kernel
theorem dX4_write_25 : decode cX4_write 25 = .ok (.iadd, 1) := by decide +kernel
theorem dX4_write_26 : decode cX4_write 26 = .ok (.putfield 15, 3) := by decide +kernel
theorem dX4_write_29 : decode cX4_write 29 = .ok (.return_, 1) := by decide +kernel
abbrev cxX4_write (G : Rg) (X : Ct) : Prop := Cx G X cX4_write 2 RX4 (none) 0 0 (Cond.code yX4_write cX4_write 2 (none))
def fX4_write (x1 : Int32) (M : Mm) : Option (Unit × Mm) :=
if (nI 60) ≤ (M.1 6 1) then
(some ((), M))
else
(gd (inb (M.1 6 1) 60) (
some ((), (sI (sI M 7 (M.1 6 1).toNatClampNeg x1) 6 1 (((sI M 7 (M.1 6 1).toNatClampNeg x1).1 6 1) + (nI 1))))))
set_option maxHeartbeats 4000000 in
set_option maxRecDepth 100000 in
theorem mX4_write (l : Launch) {G : Rg} (hG : gS G = shX) {x1 : Int32}  {M Mf : Mm} {r : Unit} (hf : fX4_write x1 M = some (r, Mf)) : Mt l G yX4_write cX4_write 2 (none) 0 0 [.ref (gA G 6), .int x1] M none Mf := by
  refine Mt.of (by decide) (Nat.le_of_ble_eq_true rfl) ?_
  intro X C hX
  subst hX
  have C : cxX4_write G X := C
  show V G X 2 none Mf 0 [(0, .ref (gA G 6)), (1, .int x1)] [] M
  rw [fX4_write] at hf
  refine V.aload_n (pc := 0) C 0 rfl dX4_write_0 ?_
  refine V.getI (pc := 1) C clX4 inX4 (sx_6 hG) 1 (by decide) wF_X4_15 rfl dX4_write_1 ?_
  refine V.bipush (pc := 4) C (nI 60) (by decide) dX4_write_4 ?_
  rcases it_some hf with ⟨h1, hf⟩ | ⟨h1, hf⟩
  · refine V.ic_geT (pc := 6) C 29 h1 (by decide) dX4_write_6 ?_
    exact V.retV (pc := 29) C hf dX4_write_29
  · refine V.ic_geF (pc := 6) C 29 h1 (by decide) dX4_write_6 ?_
    refine V.aload_n (pc := 9) C 0 rfl dX4_write_9 ?_
    refine V.getR (pc := 10) C clX4 inX4 (sx_6 hG) 0 (by decide) wF_X4_9 rfl dX4_write_10 ?_
    refine V.aload_n (pc := 13) C 0 rfl dX4_write_13 ?_
    refine V.getI (pc := 14) C clX4 inX4 (sx_6 hG) 1 (by decide) wF_X4_15 rfl dX4_write_14 ?_
    refine V.iload_n (pc := 17) C 1 rfl dX4_write_17 ?_
    obtain ⟨g2, hf⟩ := gd_some hf
    refine V.iast (pc := 18) C (sx_7 hG) (inb_in g2) dX4_write_18 ?_
    refine V.aload_n (pc := 19) C 0 rfl dX4_write_19 ?_
    refine V.dup (pc := 20) C rfl dX4_write_20 ?_
    refine V.getI (pc := 21) C clX4 inX4 (sx_6 hG) 1 (by decide) wF_X4_15 rfl dX4_write_21 ?_
    refine V.iconst (pc := 24) C (nI 1) (by decide) dX4_write_24 ?_
    refine V.iadd (pc := 25) C dX4_write_25 ?_
    refine V.putI (pc := 26) C clX4 inX4 (sx_6 hG) 1 (by decide) wF_X4_15 tyX4 tyX4_ok nmX4 rfl (tyX4_ok 1 (by decide)) rfl dX4_write_26 ?_
    exact V.retV (pc := 29) C hf dX4_write_29
theorem dX8_say_0 : decode cX8_say 0 = .ok (.iload_n 1, 1) := by decide +kernel
theorem dX8_say_1 : decode cX8_say 1 = .ok (.bipush 33, 2) := by decide +kernel
theorem dX8_say_3 : decode cX8_say 3 = .ok (.bipush 126, 2) := by decide +kernel
theorem dX8_say_5 : decode cX8_say 5 = .ok (.invokestatic 73, 3) := by decide +kernel
theorem dX8_say_8 : decode cX8_say 8 = .ok (.ifCond .ne 6, 3) := by decide +kernel
theorem dX8_say_11 : decode cX8_say 11 = .ok (.bipush (-2), 2) := by decide +kernel
theorem dX8_say_13 : decode cX8_say 13 = .ok (.ireturn, 1) := by decide +kernel
theorem dX8_say_14 : decode cX8_say 14 = .ok (.aload_n 0, 1) := by decide +kernel
theorem dX8_say_15 : decode cX8_say 15 = .ok (.getfield 19, 3) := by decide +kernel
theorem dX8_say_18 : decode cX8_say 18 = .ok (.getfield 102, 3) := by decide +kernel
theorem dX8_say_21 : decode cX8_say 21 = .ok (.bipush 60, 2) := by decide +kernel
theorem dX8_say_23 : decode cX8_say 23 = .ok (.if_icmp .lt 6, 3) := by decide +kernel
theorem dX8_say_26 : decode cX8_say 26 = .ok (.bipush (-4), 2) := by decide +kernel
theorem dX8_say_28 : decode cX8_say 28 = .ok (.ireturn, 1) := by decide +kernel
theorem dX8_say_29 : decode cX8_say 29 = .ok (.aload_n 0, 1) := by decide +kernel
theorem dX8_say_30 : decode cX8_say 30 = .ok (.getfield 19, 3) := by decide +kernel
theorem dX8_say_33 : decode cX8_say 33 = .ok (.iload_n 1, 1) := by decide +kernel
theorem dX8_say_34 : decode cX8_say 34 = .ok (.invokevirtual 105, 3) := by decide +kernel
theorem dX8_say_37 : decode cX8_say 37 = .ok (.aload_n 0, 1) := by decide +kernel
theorem dX8_say_38 : decode cX8_say 38 = .ok (.getfield 19, 3) := by decide +kernel
theorem dX8_say_41 : decode cX8_say 41 = .ok (.getfield 102, 3) := by decide +kernel
theorem dX8_say_44 : decode cX8_say 44 = .ok (.ireturn, 1) := by decide +kernel
abbrev cxX8_say (G : Rg) (X : Ct) : Prop := Cx G X cX8_say 2 RX8 (some .int) 1 22 (Cond.code yX8_say cX8_say 2 (some .int))
def fX8_say (x1 : Int32) (M : Mm) : Option (Int32 × Mm) :=
bd (fX8_isWithin x1 (nI 33) (nI 126) M) fun r1 M1 =>
if r1 = (nI 0) then
(some ((mI 2), M1))
else
(if (M1.1 6 1) < (nI 60) then
(bd (fX4_write x1 M1) fun _ M4 =>
some ((M4.1 6 1), M4))
else
(some ((mI 4), M1)))
set_option maxHeartbeats 4000000 in
set_option maxRecDepth 100000 in
theorem mX8_say (l : Launch) {G : Rg} (hG : gS G = shX) {x1 : Int32}  {M Mf : Mm} {r : Int32} (hf : fX8_say x1 M = some (r, Mf)) : Mt l G yX8_say cX8_say 2 (some .int) 1 22 [.ref (gA G 0), .int x1] M (some (.int r)) Mf := by
  refine Mt.of (by decide) (Nat.le_of_ble_eq_true rfl) ?_
  intro X C hX
  subst hX
  have C : cxX8_say G X := C
  show V G X 2 (some (.int r)) Mf 0 [(0, .ref (gA G 0)), (1, .int x1)] [] M
  rw [fX8_say] at hf
  refine V.iload_n (pc := 0) C 1 rfl dX8_say_0 ?_
  refine V.bipush (pc := 1) C (nI 33) (by decide) dX8_say_1 ?_
  refine V.bipush (pc := 3) C (nI 126) (by decide) dX8_say_3 ?_
  obtain ⟨r1, M1, h1, hf⟩ := bd_some hf
  refine V.callSi (pc := 5) (As := [.int x1, .int (nI 33), .int (nI 126)]) (rest := []) C (mX8_isWithin X.2.1 hG  h1) mf_X8_isWithin wM_X8_73 rfl rfl ⟨by decide, by decide⟩ (Nat.le_of_ble_eq_true rfl) dX8_say_5 ?_
  rcases it_some hf with ⟨h2, hf⟩ | ⟨h2, hf⟩
  · refine V.if_neF (pc := 8) C 14 h2 (by decide) dX8_say_8 ?_
    refine V.bipush (pc := 11) C (mI 2) (by decide) dX8_say_11 ?_
    exact V.retI (pc := 13) C hf dX8_say_13
  · refine V.if_neT (pc := 8) C 14 h2 (by decide) dX8_say_8 ?_
    refine V.aload_n (pc := 14) C 0 rfl dX8_say_14 ?_
    refine V.getR (pc := 15) C clX8 inX8 (sx_0 hG) 1 (by decide) wF_X8_19 rfl dX8_say_15 ?_
    refine V.getI (pc := 18) C clX4 inX4 (sx_6 hG) 1 (by decide) wF_X8_102 rfl dX8_say_18 ?_
    refine V.bipush (pc := 21) C (nI 60) (by decide) dX8_say_21 ?_
    rcases it_some hf with ⟨h3, hf⟩ | ⟨h3, hf⟩
    · refine V.ic_ltT (pc := 23) C 29 h3 (by decide) dX8_say_23 ?_
      refine V.aload_n (pc := 29) C 0 rfl dX8_say_29 ?_
      refine V.getR (pc := 30) C clX8 inX8 (sx_0 hG) 1 (by decide) wF_X8_19 rfl dX8_say_30 ?_
      refine V.iload_n (pc := 33) C 1 rfl dX8_say_33 ?_
      obtain ⟨_, M4, h4, hf⟩ := bd_some hf
      refine V.callVv (pc := 34) (As := [.int x1]) (rest := []) C (mX4_write X.2.1 hG  h4) mf_X4_write clX4 (sx_6 hG) wM_X8_105 rfl rfl ⟨by decide, by decide⟩ (Nat.le_of_ble_eq_true rfl) dX8_say_34 ?_
      refine V.aload_n (pc := 37) C 0 rfl dX8_say_37 ?_
      refine V.getR (pc := 38) C clX8 inX8 (sx_0 hG) 1 (by decide) wF_X8_19 rfl dX8_say_38 ?_
      refine V.getI (pc := 41) C clX4 inX4 (sx_6 hG) 1 (by decide) wF_X8_102 rfl dX8_say_41 ?_
      exact V.retI (pc := 44) C hf dX8_say_44
    · refine V.ic_ltF (pc := 23) C 29 h3 (by decide) dX8_say_23 ?_
      refine V.bipush (pc := 26) C (mI 4) (by decide) dX8_say_26 ?_
      exact V.retI (pc := 28) C hf dX8_say_28
theorem dX8_wipe_0 : decode cX8_wipe 0 = .ok (.aload_n 0, 1) := by decide +kernel
theorem dX8_wipe_1 : decode cX8_wipe 1 = .ok (.getfield 19, 3) := by decide +kernel
theorem dX8_wipe_4 : decode cX8_wipe 4 = .ok (.getfield 102, 3) := by decide +kernel
theorem dX8_wipe_7 : decode cX8_wipe 7 = .ok (.istore_n 1, 1) := by decide +kernel
theorem dX8_wipe_8 : decode cX8_wipe 8 = .ok (.aload_n 0, 1) := by decide +kernel
theorem dX8_wipe_9 : decode cX8_wipe 9 = .ok (.getfield 19, 3) := by decide +kernel
theorem dX8_wipe_12 : decode cX8_wipe 12 = .ok (.iconst 0, 1) := by decide +kernel
theorem dX8_wipe_13 : decode cX8_wipe 13 = .ok (.putfield 102, 3) := by decide +kernel
theorem dX8_wipe_16 : decode cX8_wipe 16 = .ok (.iload_n 1, 1) := by decide +kernel
theorem dX8_wipe_17 : decode cX8_wipe 17 = .ok (.ireturn, 1) := by decide +kernel
abbrev cxX8_wipe (G : Rg) (X : Ct) : Prop := Cx G X cX8_wipe 2 RX8 (some .int) 0 0 (Cond.code yX8_wipe cX8_wipe 2 (some .int))
def fX8_wipe  (M : Mm) : Option (Int32 × Mm) :=
some ((M.1 6 1), (sI M 6 1 (nI 0)))
set_option maxHeartbeats 4000000 in
set_option maxRecDepth 100000 in
theorem mX8_wipe (l : Launch) {G : Rg} (hG : gS G = shX)   {M Mf : Mm} {r : Int32} (hf : fX8_wipe  M = some (r, Mf)) : Mt l G yX8_wipe cX8_wipe 2 (some .int) 0 0 [.ref (gA G 0)] M (some (.int r)) Mf := by
  refine Mt.of (by decide) (Nat.le_of_ble_eq_true rfl) ?_
  intro X C hX
  subst hX
  have C : cxX8_wipe G X := C
  show V G X 2 (some (.int r)) Mf 0 [(0, .ref (gA G 0))] [] M
  rw [fX8_wipe] at hf
  refine V.aload_n (pc := 0) C 0 rfl dX8_wipe_0 ?_
  refine V.getR (pc := 1) C clX8 inX8 (sx_0 hG) 1 (by decide) wF_X8_19 rfl dX8_wipe_1 ?_
  refine V.getI (pc := 4) C clX4 inX4 (sx_6 hG) 1 (by decide) wF_X8_102 rfl dX8_wipe_4 ?_
  refine V.istore_n (pc := 7) (lv' := [(1, .int (M.1 6 1)), (0, .ref (gA G 0))]) C (by decide) rfl dX8_wipe_7 ?_
  refine V.aload_n (pc := 8) C 1 rfl dX8_wipe_8 ?_
  refine V.getR (pc := 9) C clX8 inX8 (sx_0 hG) 1 (by decide) wF_X8_19 rfl dX8_wipe_9 ?_
  refine V.iconst (pc := 12) C (nI 0) (by decide) dX8_wipe_12 ?_
  refine V.putI (pc := 13) C clX4 inX4 (sx_6 hG) 1 (by decide) wF_X8_102 tyX4 tyX4_ok nmX4 rfl (tyX4_ok 1 (by decide)) rfl dX8_wipe_13 ?_
  refine V.iload_n (pc := 16) C 0 rfl dX8_wipe_16 ?_
  exact V.retI (pc := 17) C hf dX8_wipe_17
theorem dX4_officerOf_0 : decode cX4_officerOf 0 = .ok (.iload_n 0, 1) := by decide +kernel
theorem dX4_officerOf_1 : decode cX4_officerOf 1 = .ok (.bipush 65, 2) := by decide +kernel
theorem dX4_officerOf_3 : decode cX4_officerOf 3 = .ok (.bipush 70, 2) := by decide +kernel
theorem dX4_officerOf_5 : decode cX4_officerOf 5 = .ok (.invokestatic 30, 3) := by decide +kernel
theorem dX4_officerOf_8 : decode cX4_officerOf 8 = .ok (.ifCond .eq 8, 3) := by decide +kernel
theorem dX4_officerOf_11 : decode cX4_officerOf 11 = .ok (.iload_n 0, 1) := by decide +kernel
theorem dX4_officerOf_12 : decode cX4_officerOf 12 = .ok (.bipush 65, 2) := by decide +kernel
theorem dX4_officerOf_14 : decode cX4_officerOf 14 = .ok (.isub, 1) := by decide +kernel
theorem dX4_officerOf_15 : decode cX4_officerOf 15 = .ok (.ireturn, 1) := by decide +kernel
theorem dX4_officerOf_16 : decode cX4_officerOf 16 = .ok (.iload_n 0, 1) := by decide +kernel
theorem dX4_officerOf_17 : decode cX4_officerOf 17 = .ok (.bipush 97, 2) := by decide +kernel
theorem dX4_officerOf_19 : decode cX4_officerOf 19 = .ok (.bipush 102, 2) := by decide +kernel
theorem dX4_officerOf_21 : decode cX4_officerOf 21 = .ok (.invokestatic 30, 3) := by decide +kernel
theorem dX4_officerOf_24 : decode cX4_officerOf 24 = .ok (.ifCond .eq 13, 3) := by decide +kernel
theorem dX4_officerOf_27 : decode cX4_officerOf 27 = .ok (.iload_n 0, 1) := by decide +kernel
theorem dX4_officerOf_28 : decode cX4_officerOf 28 = .ok (.bipush 97, 2) := by decide +kernel
theorem dX4_officerOf_30 : decode cX4_officerOf 30 = .ok (.isub, 1) := by decide +kernel
theorem dX4_officerOf_31 : decode cX4_officerOf 31 = .ok (.bipush 6, 2) := by decide +kernel
theorem dX4_officerOf_33 : decode cX4_officerOf 33 = .ok (.iadd, 1) := by decide +kernel
theorem dX4_officerOf_34 : decode cX4_officerOf 34 = .ok (.goto 4, 3) := by decide +kernel
theorem dX4_officerOf_37 : decode cX4_officerOf 37 = .ok (.iconst (-1), 1) := by decide +kernel
theorem dX4_officerOf_38 : decode cX4_officerOf 38 = .ok (.ireturn, 1) := by decide +kernel
abbrev cxX4_officerOf (G : Rg) (X : Ct) : Prop := Cx G X cX4_officerOf 1 RX4 (some .int) 1 22 (Cond.code yX4_officerOf cX4_officerOf 1 (some .int))
def fX4_officerOf (x0 : Int32) (M : Mm) : Option (Int32 × Mm) :=
bd (fX8_isWithin x0 (nI 65) (nI 70) M) fun r1 M1 =>
if r1 = (nI 0) then
(bd (fX8_isWithin x0 (nI 97) (nI 102) M1) fun r3 M3 =>
if r3 = (nI 0) then
(some ((mI 1), M3))
else
(some (((x0 - (nI 97)) + (nI 6)), M3)))
else
(some ((x0 - (nI 65)), M1))
set_option maxHeartbeats 4000000 in
set_option maxRecDepth 100000 in
theorem mX4_officerOf (l : Launch) {G : Rg} (hG : gS G = shX) {x0 : Int32}  {M Mf : Mm} {r : Int32} (hf : fX4_officerOf x0 M = some (r, Mf)) : Mt l G yX4_officerOf cX4_officerOf 1 (some .int) 1 22 [.int x0] M (some (.int r)) Mf := by
  refine Mt.of (by decide) (Nat.le_of_ble_eq_true rfl) ?_
  intro X C hX
  subst hX
  have C : cxX4_officerOf G X := C
  show V G X 1 (some (.int r)) Mf 0 [(0, .int x0)] [] M
  rw [fX4_officerOf] at hf
  refine V.iload_n (pc := 0) C 0 rfl dX4_officerOf_0 ?_
  refine V.bipush (pc := 1) C (nI 65) (by decide) dX4_officerOf_1 ?_
  refine V.bipush (pc := 3) C (nI 70) (by decide) dX4_officerOf_3 ?_
  obtain ⟨r1, M1, h1, hf⟩ := bd_some hf
  refine V.callNi (pc := 5) (As := [.int x0, .int (nI 65), .int (nI 70)]) (rest := []) C (mX8_isWithin X.2.1 hG  h1) mf_X8_isWithin rfl rfl ⟨by decide, by decide⟩ (Nat.le_of_ble_eq_true rfl) dX4_officerOf_5 ?_
  rcases it_some hf with ⟨h2, hf⟩ | ⟨h2, hf⟩
  · refine V.if_eqT (pc := 8) C 16 h2 (by decide) dX4_officerOf_8 ?_
    refine V.iload_n (pc := 16) C 0 rfl dX4_officerOf_16 ?_
    refine V.bipush (pc := 17) C (nI 97) (by decide) dX4_officerOf_17 ?_
    refine V.bipush (pc := 19) C (nI 102) (by decide) dX4_officerOf_19 ?_
    obtain ⟨r3, M3, h3, hf⟩ := bd_some hf
    refine V.callNi (pc := 21) (As := [.int x0, .int (nI 97), .int (nI 102)]) (rest := []) C (mX8_isWithin X.2.1 hG  h3) mf_X8_isWithin rfl rfl ⟨by decide, by decide⟩ (Nat.le_of_ble_eq_true rfl) dX4_officerOf_21 ?_
    rcases it_some hf with ⟨h4, hf⟩ | ⟨h4, hf⟩
    · refine V.if_eqT (pc := 24) C 37 h4 (by decide) dX4_officerOf_24 ?_
      refine V.iconst (pc := 37) C (mI 1) (by decide) dX4_officerOf_37 ?_
      exact V.retI (pc := 38) C hf dX4_officerOf_38
    · refine V.if_eqF (pc := 24) C 37 h4 (by decide) dX4_officerOf_24 ?_
      refine V.iload_n (pc := 27) C 0 rfl dX4_officerOf_27 ?_
      refine V.bipush (pc := 28) C (nI 97) (by decide) dX4_officerOf_28 ?_
      refine V.isub (pc := 30) C dX4_officerOf_30 ?_
      refine V.bipush (pc := 31) C (nI 6) (by decide) dX4_officerOf_31 ?_
      refine V.iadd (pc := 33) C dX4_officerOf_33 ?_
      refine V.goto (pc := 34) C 38 (by decide) dX4_officerOf_34 ?_
      exact V.retI (pc := 38) C hf dX4_officerOf_38
  · refine V.if_eqF (pc := 8) C 16 h2 (by decide) dX4_officerOf_8 ?_
    refine V.iload_n (pc := 11) C 0 rfl dX4_officerOf_11 ?_
    refine V.bipush (pc := 12) C (nI 65) (by decide) dX4_officerOf_12 ?_
    refine V.isub (pc := 14) C dX4_officerOf_14 ?_
    exact V.retI (pc := 15) C hf dX4_officerOf_15
theorem dX4_deedOf_0 : decode cX4_deedOf 0 = .ok (.iload_n 0, 1) := by decide +kernel
theorem dX4_deedOf_1 : decode cX4_deedOf 1 = .ok (.lookupswitch 51 #[(43, 49), (98, 47), (104, 45), (115, 43)], 43) := by decide +kernel
theorem dX4_deedOf_44 : decode cX4_deedOf 44 = .ok (.iconst 0, 1) := by decide +kernel
theorem dX4_deedOf_45 : decode cX4_deedOf 45 = .ok (.ireturn, 1) := by decide +kernel
theorem dX4_deedOf_46 : decode cX4_deedOf 46 = .ok (.iconst 1, 1) := by decide +kernel
theorem dX4_deedOf_47 : decode cX4_deedOf 47 = .ok (.ireturn, 1) := by decide +kernel
theorem dX4_deedOf_48 : decode cX4_deedOf 48 = .ok (.iconst 2, 1) := by decide +kernel
theorem dX4_deedOf_49 : decode cX4_deedOf 49 = .ok (.ireturn, 1) := by decide +kernel
theorem dX4_deedOf_50 : decode cX4_deedOf 50 = .ok (.iconst 3, 1) := by decide +kernel
theorem dX4_deedOf_51 : decode cX4_deedOf 51 = .ok (.ireturn, 1) := by decide +kernel
theorem dX4_deedOf_52 : decode cX4_deedOf 52 = .ok (.iconst (-1), 1) := by decide +kernel
theorem dX4_deedOf_53 : decode cX4_deedOf 53 = .ok (.ireturn, 1) := by decide +kernel
abbrev cxX4_deedOf (G : Rg) (X : Ct) : Prop := Cx G X cX4_deedOf 1 RX4 (some .int) 0 0 (Cond.code yX4_deedOf cX4_deedOf 1 (some .int))
def fX4_deedOf (x0 : Int32) (M : Mm) : Option (Int32 × Mm) :=
if x0 = (nI 43) then
(some ((nI 3), M))
else
if x0 = (nI 98) then
(some ((nI 2), M))
else
if x0 = (nI 104) then
(some ((nI 1), M))
else
if x0 = (nI 115) then
(some ((nI 0), M))
else
(some ((mI 1), M))
set_option maxHeartbeats 4000000 in
set_option maxRecDepth 100000 in
theorem mX4_deedOf (l : Launch) {G : Rg} (hG : gS G = shX) {x0 : Int32}  {M Mf : Mm} {r : Int32} (hf : fX4_deedOf x0 M = some (r, Mf)) : Mt l G yX4_deedOf cX4_deedOf 1 (some .int) 0 0 [.int x0] M (some (.int r)) Mf := by
  refine Mt.of (by decide) (Nat.le_of_ble_eq_true rfl) ?_
  intro X C hX
  subst hX
  have C : cxX4_deedOf G X := C
  show V G X 1 (some (.int r)) Mf 0 [(0, .int x0)] [] M
  rw [fX4_deedOf] at hf
  refine V.iload_n (pc := 0) C 0 rfl dX4_deedOf_0 ?_
  rcases it_some hf with ⟨h1, hf⟩ | ⟨h1, hf⟩
  · refine V.look (pc := 1) (off := 49) C 50 (by decide) (by rw [h1]; first | done | decide) (by decide) dX4_deedOf_1 ?_
    refine V.iconst (pc := 50) C (nI 3) (by decide) dX4_deedOf_50 ?_
    exact V.retI (pc := 51) C hf dX4_deedOf_51
  · skip
    rcases it_some hf with ⟨h2, hf⟩ | ⟨h2, hf⟩
    · refine V.look (pc := 1) (off := 47) C 48 (by decide) (by rw [h2]; first | done | decide) (by decide) dX4_deedOf_1 ?_
      refine V.iconst (pc := 48) C (nI 2) (by decide) dX4_deedOf_48 ?_
      exact V.retI (pc := 49) C hf dX4_deedOf_49
    · skip
      rcases it_some hf with ⟨h3, hf⟩ | ⟨h3, hf⟩
      · refine V.look (pc := 1) (off := 45) C 46 (by decide) (by rw [h3]; first | done | decide) (by decide) dX4_deedOf_1 ?_
        refine V.iconst (pc := 46) C (nI 1) (by decide) dX4_deedOf_46 ?_
        exact V.retI (pc := 47) C hf dX4_deedOf_47
      · skip
        rcases it_some hf with ⟨h4, hf⟩ | ⟨h4, hf⟩
        · refine V.look (pc := 1) (off := 43) C 44 (by decide) (by rw [h4]; first | done | decide) (by decide) dX4_deedOf_1 ?_
          refine V.iconst (pc := 44) C (nI 0) (by decide) dX4_deedOf_44 ?_
          exact V.retI (pc := 45) C hf dX4_deedOf_45
        · skip
          refine V.look (pc := 1) (off := 51) C 52 (by decide) ((lv_osw h1 (by decide)) |>.trans (lv_osw h2 (by decide)) |>.trans (lv_osw h3 (by decide)) |>.trans (lv_osw h4 (by decide))) (by decide) dX4_deedOf_1 ?_
          refine V.iconst (pc := 52) C (mI 1) (by decide) dX4_deedOf_52 ?_
          exact V.retI (pc := 53) C hf dX4_deedOf_53
theorem dX4_next_0 : decode cX4_next 0 = .ok (.iload_n 1, 1) := by decide +kernel
theorem dX4_next_1 : decode cX4_next 1 = .ok (.invokestatic 23, 3) := by decide +kernel
theorem dX4_next_4 : decode cX4_next 4 = .ok (.istore_n 2, 1) := by decide +kernel
theorem dX4_next_5 : decode cX4_next 5 = .ok (.iload_n 2, 1) := by decide +kernel
theorem dX4_next_6 : decode cX4_next 6 = .ok (.ifCond .lt 13, 3) := by decide +kernel
theorem dX4_next_9 : decode cX4_next 9 = .ok (.iload_n 2, 1) := by decide +kernel
theorem dX4_next_10 : decode cX4_next 10 = .ok (.bipush 6, 2) := by decide +kernel
theorem dX4_next_12 : decode cX4_next 12 = .ok (.if_icmp .ge 7, 3) := by decide +kernel
theorem dX4_next_15 : decode cX4_next 15 = .ok (.iconst 1, 1) := by decide +kernel
theorem dX4_next_16 : decode cX4_next 16 = .ok (.goto 4, 3) := by decide +kernel
theorem dX4_next_19 : decode cX4_next 19 = .ok (.iconst 0, 1) := by decide +kernel
theorem dX4_next_20 : decode cX4_next 20 = .ok (.istore_n 3, 1) := by decide +kernel
theorem dX4_next_21 : decode cX4_next 21 = .ok (.iload_n 2, 1) := by decide +kernel
theorem dX4_next_22 : decode cX4_next 22 = .ok (.bipush 6, 2) := by decide +kernel
theorem dX4_next_24 : decode cX4_next 24 = .ok (.if_icmp .lt 7, 3) := by decide +kernel
theorem dX4_next_27 : decode cX4_next 27 = .ok (.iconst 1, 1) := by decide +kernel
theorem dX4_next_28 : decode cX4_next 28 = .ok (.goto 4, 3) := by decide +kernel
theorem dX4_next_31 : decode cX4_next 31 = .ok (.iconst 0, 1) := by decide +kernel
theorem dX4_next_32 : decode cX4_next 32 = .ok (.istore 4, 2) := by decide +kernel
theorem dX4_next_34 : decode cX4_next 34 = .ok (.iload_n 0, 1) := by decide +kernel
theorem dX4_next_35 : decode cX4_next 35 = .ok (.tableswitch 138 0 5 #[37, 58, 72, 83, 104, 116], 37) := by decide +kernel
theorem dX4_next_72 : decode cX4_next 72 = .ok (.iload_n 2, 1) := by decide +kernel
theorem dX4_next_73 : decode cX4_next 73 = .ok (.ifCond .lt 7, 3) := by decide +kernel
theorem dX4_next_76 : decode cX4_next 76 = .ok (.iconst 1, 1) := by decide +kernel
theorem dX4_next_77 : decode cX4_next 77 = .ok (.goto 15, 3) := by decide +kernel
theorem dX4_next_80 : decode cX4_next 80 = .ok (.iload_n 1, 1) := by decide +kernel
theorem dX4_next_81 : decode cX4_next 81 = .ok (.bipush 40, 2) := by decide +kernel
theorem dX4_next_83 : decode cX4_next 83 = .ok (.if_icmp .ne 7, 3) := by decide +kernel
theorem dX4_next_86 : decode cX4_next 86 = .ok (.iconst 2, 1) := by decide +kernel
theorem dX4_next_87 : decode cX4_next 87 = .ok (.goto 5, 3) := by decide +kernel
theorem dX4_next_90 : decode cX4_next 90 = .ok (.bipush 6, 2) := by decide +kernel
theorem dX4_next_92 : decode cX4_next 92 = .ok (.ireturn, 1) := by decide +kernel
theorem dX4_next_93 : decode cX4_next 93 = .ok (.iload_n 1, 1) := by decide +kernel
theorem dX4_next_94 : decode cX4_next 94 = .ok (.invokestatic 27, 3) := by decide +kernel
theorem dX4_next_97 : decode cX4_next 97 = .ok (.ifCond .lt 7, 3) := by decide +kernel
theorem dX4_next_100 : decode cX4_next 100 = .ok (.iconst 0, 1) := by decide +kernel
theorem dX4_next_101 : decode cX4_next 101 = .ok (.goto 5, 3) := by decide +kernel
theorem dX4_next_104 : decode cX4_next 104 = .ok (.bipush 6, 2) := by decide +kernel
theorem dX4_next_106 : decode cX4_next 106 = .ok (.ireturn, 1) := by decide +kernel
theorem dX4_next_107 : decode cX4_next 107 = .ok (.iload_n 3, 1) := by decide +kernel
theorem dX4_next_108 : decode cX4_next 108 = .ok (.ifCond .eq 7, 3) := by decide +kernel
theorem dX4_next_111 : decode cX4_next 111 = .ok (.iconst 3, 1) := by decide +kernel
theorem dX4_next_112 : decode cX4_next 112 = .ok (.goto 5, 3) := by decide +kernel
theorem dX4_next_115 : decode cX4_next 115 = .ok (.bipush 6, 2) := by decide +kernel
theorem dX4_next_117 : decode cX4_next 117 = .ok (.ireturn, 1) := by decide +kernel
theorem dX4_next_118 : decode cX4_next 118 = .ok (.iload_n 3, 1) := by decide +kernel
theorem dX4_next_119 : decode cX4_next 119 = .ok (.ifCond .eq 7, 3) := by decide +kernel
theorem dX4_next_122 : decode cX4_next 122 = .ok (.iconst 3, 1) := by decide +kernel
theorem dX4_next_123 : decode cX4_next 123 = .ok (.goto 15, 3) := by decide +kernel
theorem dX4_next_126 : decode cX4_next 126 = .ok (.iload_n 1, 1) := by decide +kernel
theorem dX4_next_127 : decode cX4_next 127 = .ok (.bipush 58, 2) := by decide +kernel
theorem dX4_next_129 : decode cX4_next 129 = .ok (.if_icmp .ne 7, 3) := by decide +kernel
theorem dX4_next_132 : decode cX4_next 132 = .ok (.iconst 4, 1) := by decide +kernel
theorem dX4_next_133 : decode cX4_next 133 = .ok (.goto 5, 3) := by decide +kernel
theorem dX4_next_136 : decode cX4_next 136 = .ok (.bipush 6, 2) := by decide +kernel
theorem dX4_next_138 : decode cX4_next 138 = .ok (.ireturn, 1) := by decide +kernel
theorem dX4_next_139 : decode cX4_next 139 = .ok (.iload 4, 2) := by decide +kernel
theorem dX4_next_141 : decode cX4_next 141 = .ok (.ifCond .eq 7, 3) := by decide +kernel
theorem dX4_next_144 : decode cX4_next 144 = .ok (.iconst 5, 1) := by decide +kernel
theorem dX4_next_145 : decode cX4_next 145 = .ok (.goto 5, 3) := by decide +kernel
theorem dX4_next_148 : decode cX4_next 148 = .ok (.bipush 6, 2) := by decide +kernel
theorem dX4_next_150 : decode cX4_next 150 = .ok (.ireturn, 1) := by decide +kernel
theorem dX4_next_151 : decode cX4_next 151 = .ok (.iload 4, 2) := by decide +kernel
theorem dX4_next_153 : decode cX4_next 153 = .ok (.ifCond .eq 7, 3) := by decide +kernel
theorem dX4_next_156 : decode cX4_next 156 = .ok (.iconst 5, 1) := by decide +kernel
theorem dX4_next_157 : decode cX4_next 157 = .ok (.goto 15, 3) := by decide +kernel
theorem dX4_next_160 : decode cX4_next 160 = .ok (.iload_n 1, 1) := by decide +kernel
theorem dX4_next_161 : decode cX4_next 161 = .ok (.bipush 41, 2) := by decide +kernel
theorem dX4_next_163 : decode cX4_next 163 = .ok (.if_icmp .ne 7, 3) := by decide +kernel
theorem dX4_next_166 : decode cX4_next 166 = .ok (.iconst 0, 1) := by decide +kernel
theorem dX4_next_167 : decode cX4_next 167 = .ok (.goto 5, 3) := by decide +kernel
theorem dX4_next_170 : decode cX4_next 170 = .ok (.bipush 6, 2) := by decide +kernel
theorem dX4_next_172 : decode cX4_next 172 = .ok (.ireturn, 1) := by decide +kernel
theorem dX4_next_173 : decode cX4_next 173 = .ok (.bipush 6, 2) := by decide +kernel
theorem dX4_next_175 : decode cX4_next 175 = .ok (.ireturn, 1) := by decide +kernel
abbrev cxX4_next (G : Rg) (X : Ct) : Prop := Cx G X cX4_next 5 RX4 (some .int) 2 42 (Cond.code yX4_next cX4_next 5 (some .int))
def fX4_next_b32   (v0 : Int32) (v1 : Int32) (v2 : Int32) (v3 : Int32) (s0 : Int32) (M : Mm) : Option (Int32 × Mm) :=
if v0 = (nI 0) then
(if v2 < (nI 0) then
(if v1 = (nI 40) then
(some ((nI 2), M))
else
(some ((nI 6), M)))
else
(some ((nI 1), M)))
else
if v0 = (nI 1) then
(bd (fX4_deedOf v1 M) fun r5 M5 =>
if r5 < (nI 0) then
(some ((nI 6), M5))
else
(some ((nI 0), M5)))
else
if v0 = (nI 2) then
(if v3 = (nI 0) then
(some ((nI 6), M))
else
(some ((nI 3), M)))
else
if v0 = (nI 3) then
(if v3 = (nI 0) then
(if v1 = (nI 58) then
(some ((nI 4), M))
else
(some ((nI 6), M)))
else
(some ((nI 3), M)))
else
if v0 = (nI 4) then
(if s0 = (nI 0) then
(some ((nI 6), M))
else
(some ((nI 5), M)))
else
if v0 = (nI 5) then
(if s0 = (nI 0) then
(if v1 = (nI 41) then
(some ((nI 0), M))
else
(some ((nI 6), M)))
else
(some ((nI 5), M)))
else
(some ((nI 6), M))
set_option maxHeartbeats 4000000 in
set_option maxRecDepth 100000 in
theorem vX4_next_b32 {G : Rg} {X : Ct} {r : Int32} {Mf : Mm}   (C : cxX4_next G X) (hG : gS G = shX)   (v0 : Int32) (v1 : Int32) (v2 : Int32) (v3 : Int32) (s0 : Int32) (M : Mm) (hf : fX4_next_b32 v0 v1 v2 v3 s0 M = some (r, Mf)) : V G X 5 (some (.int r)) Mf 32 [(0, .int v0), (1, .int v1), (2, .int v2), (3, .int v3)] [.int s0] M := by
  rw [fX4_next_b32] at hf
  refine V.istore (pc := 32) (lv' := [(4, .int s0), (0, .int v0), (1, .int v1), (2, .int v2), (3, .int v3)]) C (by decide) rfl dX4_next_32 ?_
  refine V.iload_n (pc := 34) C 1 rfl dX4_next_34 ?_
  rcases it_some hf with ⟨h1, hf⟩ | ⟨h1, hf⟩
  · refine V.tabIn (pc := 35) (off := 37) C (nI 0) 72 h1 (by decide) (by decide) (by decide) (by decide) dX4_next_35 ?_
    refine V.iload_n (pc := 72) C 3 rfl dX4_next_72 ?_
    rcases it_some hf with ⟨h2, hf⟩ | ⟨h2, hf⟩
    · refine V.if_ltT (pc := 73) C 80 h2 (by decide) dX4_next_73 ?_
      refine V.iload_n (pc := 80) C 2 rfl dX4_next_80 ?_
      refine V.bipush (pc := 81) C (nI 40) (by decide) dX4_next_81 ?_
      rcases it_some hf with ⟨h3, hf⟩ | ⟨h3, hf⟩
      · refine V.ic_neF (pc := 83) C 90 h3 (by decide) dX4_next_83 ?_
        refine V.iconst (pc := 86) C (nI 2) (by decide) dX4_next_86 ?_
        refine V.goto (pc := 87) C 92 (by decide) dX4_next_87 ?_
        exact V.retI (pc := 92) C hf dX4_next_92
      · refine V.ic_neT (pc := 83) C 90 h3 (by decide) dX4_next_83 ?_
        refine V.bipush (pc := 90) C (nI 6) (by decide) dX4_next_90 ?_
        exact V.retI (pc := 92) C hf dX4_next_92
    · refine V.if_ltF (pc := 73) C 80 h2 (by decide) dX4_next_73 ?_
      refine V.iconst (pc := 76) C (nI 1) (by decide) dX4_next_76 ?_
      refine V.goto (pc := 77) C 92 (by decide) dX4_next_77 ?_
      exact V.retI (pc := 92) C hf dX4_next_92
  · skip
    rcases it_some hf with ⟨h4, hf⟩ | ⟨h4, hf⟩
    · refine V.tabIn (pc := 35) (off := 58) C (nI 1) 93 h4 (by decide) (by decide) (by decide) (by decide) dX4_next_35 ?_
      refine V.iload_n (pc := 93) C 2 rfl dX4_next_93 ?_
      obtain ⟨r5, M5, h5, hf⟩ := bd_some hf
      refine V.callSi (pc := 94) (As := [.int v1]) (rest := []) C (mX4_deedOf X.2.1 hG  h5) mf_X4_deedOf wM_X4_27 rfl rfl ⟨by decide, by decide⟩ (Nat.le_of_ble_eq_true rfl) dX4_next_94 ?_
      rcases it_some hf with ⟨h6, hf⟩ | ⟨h6, hf⟩
      · refine V.if_ltT (pc := 97) C 104 h6 (by decide) dX4_next_97 ?_
        refine V.bipush (pc := 104) C (nI 6) (by decide) dX4_next_104 ?_
        exact V.retI (pc := 106) C hf dX4_next_106
      · refine V.if_ltF (pc := 97) C 104 h6 (by decide) dX4_next_97 ?_
        refine V.iconst (pc := 100) C (nI 0) (by decide) dX4_next_100 ?_
        refine V.goto (pc := 101) C 106 (by decide) dX4_next_101 ?_
        exact V.retI (pc := 106) C hf dX4_next_106
    · skip
      rcases it_some hf with ⟨h7, hf⟩ | ⟨h7, hf⟩
      · refine V.tabIn (pc := 35) (off := 72) C (nI 2) 107 h7 (by decide) (by decide) (by decide) (by decide) dX4_next_35 ?_
        refine V.iload_n (pc := 107) C 4 rfl dX4_next_107 ?_
        rcases it_some hf with ⟨h8, hf⟩ | ⟨h8, hf⟩
        · refine V.if_eqT (pc := 108) C 115 h8 (by decide) dX4_next_108 ?_
          refine V.bipush (pc := 115) C (nI 6) (by decide) dX4_next_115 ?_
          exact V.retI (pc := 117) C hf dX4_next_117
        · refine V.if_eqF (pc := 108) C 115 h8 (by decide) dX4_next_108 ?_
          refine V.iconst (pc := 111) C (nI 3) (by decide) dX4_next_111 ?_
          refine V.goto (pc := 112) C 117 (by decide) dX4_next_112 ?_
          exact V.retI (pc := 117) C hf dX4_next_117
      · skip
        rcases it_some hf with ⟨h9, hf⟩ | ⟨h9, hf⟩
        · refine V.tabIn (pc := 35) (off := 83) C (nI 3) 118 h9 (by decide) (by decide) (by decide) (by decide) dX4_next_35 ?_
          refine V.iload_n (pc := 118) C 4 rfl dX4_next_118 ?_
          rcases it_some hf with ⟨h10, hf⟩ | ⟨h10, hf⟩
          · refine V.if_eqT (pc := 119) C 126 h10 (by decide) dX4_next_119 ?_
            refine V.iload_n (pc := 126) C 2 rfl dX4_next_126 ?_
            refine V.bipush (pc := 127) C (nI 58) (by decide) dX4_next_127 ?_
            rcases it_some hf with ⟨h11, hf⟩ | ⟨h11, hf⟩
            · refine V.ic_neF (pc := 129) C 136 h11 (by decide) dX4_next_129 ?_
              refine V.iconst (pc := 132) C (nI 4) (by decide) dX4_next_132 ?_
              refine V.goto (pc := 133) C 138 (by decide) dX4_next_133 ?_
              exact V.retI (pc := 138) C hf dX4_next_138
            · refine V.ic_neT (pc := 129) C 136 h11 (by decide) dX4_next_129 ?_
              refine V.bipush (pc := 136) C (nI 6) (by decide) dX4_next_136 ?_
              exact V.retI (pc := 138) C hf dX4_next_138
          · refine V.if_eqF (pc := 119) C 126 h10 (by decide) dX4_next_119 ?_
            refine V.iconst (pc := 122) C (nI 3) (by decide) dX4_next_122 ?_
            refine V.goto (pc := 123) C 138 (by decide) dX4_next_123 ?_
            exact V.retI (pc := 138) C hf dX4_next_138
        · skip
          rcases it_some hf with ⟨h12, hf⟩ | ⟨h12, hf⟩
          · refine V.tabIn (pc := 35) (off := 104) C (nI 4) 139 h12 (by decide) (by decide) (by decide) (by decide) dX4_next_35 ?_
            refine V.iload (pc := 139) C 0 rfl dX4_next_139 ?_
            rcases it_some hf with ⟨h13, hf⟩ | ⟨h13, hf⟩
            · refine V.if_eqT (pc := 141) C 148 h13 (by decide) dX4_next_141 ?_
              refine V.bipush (pc := 148) C (nI 6) (by decide) dX4_next_148 ?_
              exact V.retI (pc := 150) C hf dX4_next_150
            · refine V.if_eqF (pc := 141) C 148 h13 (by decide) dX4_next_141 ?_
              refine V.iconst (pc := 144) C (nI 5) (by decide) dX4_next_144 ?_
              refine V.goto (pc := 145) C 150 (by decide) dX4_next_145 ?_
              exact V.retI (pc := 150) C hf dX4_next_150
          · skip
            rcases it_some hf with ⟨h14, hf⟩ | ⟨h14, hf⟩
            · refine V.tabIn (pc := 35) (off := 116) C (nI 5) 151 h14 (by decide) (by decide) (by decide) (by decide) dX4_next_35 ?_
              refine V.iload (pc := 151) C 0 rfl dX4_next_151 ?_
              rcases it_some hf with ⟨h15, hf⟩ | ⟨h15, hf⟩
              · refine V.if_eqT (pc := 153) C 160 h15 (by decide) dX4_next_153 ?_
                refine V.iload_n (pc := 160) C 2 rfl dX4_next_160 ?_
                refine V.bipush (pc := 161) C (nI 41) (by decide) dX4_next_161 ?_
                rcases it_some hf with ⟨h16, hf⟩ | ⟨h16, hf⟩
                · refine V.ic_neF (pc := 163) C 170 h16 (by decide) dX4_next_163 ?_
                  refine V.iconst (pc := 166) C (nI 0) (by decide) dX4_next_166 ?_
                  refine V.goto (pc := 167) C 172 (by decide) dX4_next_167 ?_
                  exact V.retI (pc := 172) C hf dX4_next_172
                · refine V.ic_neT (pc := 163) C 170 h16 (by decide) dX4_next_163 ?_
                  refine V.bipush (pc := 170) C (nI 6) (by decide) dX4_next_170 ?_
                  exact V.retI (pc := 172) C hf dX4_next_172
              · refine V.if_eqF (pc := 153) C 160 h15 (by decide) dX4_next_153 ?_
                refine V.iconst (pc := 156) C (nI 5) (by decide) dX4_next_156 ?_
                refine V.goto (pc := 157) C 172 (by decide) dX4_next_157 ?_
                exact V.retI (pc := 172) C hf dX4_next_172
            · skip
              refine V.tabOut (pc := 35) C 173 (sw6 h1 h4 h7 h9 h12 h14) (by decide) dX4_next_35 ?_
              refine V.bipush (pc := 173) C (nI 6) (by decide) dX4_next_173 ?_
              exact V.retI (pc := 175) C hf dX4_next_175
def fX4_next_b20   (v0 : Int32) (v1 : Int32) (v2 : Int32) (s0 : Int32) (M : Mm) : Option (Int32 × Mm) :=
if v2 < (nI 6) then
(fX4_next_b32 v0 v1 v2 s0 (nI 0) M)
else
(fX4_next_b32 v0 v1 v2 s0 (nI 1) M)
set_option maxHeartbeats 4000000 in
set_option maxRecDepth 100000 in
theorem vX4_next_b20 {G : Rg} {X : Ct} {r : Int32} {Mf : Mm}   (C : cxX4_next G X) (hG : gS G = shX)   (v0 : Int32) (v1 : Int32) (v2 : Int32) (s0 : Int32) (M : Mm) (hf : fX4_next_b20 v0 v1 v2 s0 M = some (r, Mf)) : V G X 5 (some (.int r)) Mf 20 [(0, .int v0), (1, .int v1), (2, .int v2)] [.int s0] M := by
  rw [fX4_next_b20] at hf
  refine V.istore_n (pc := 20) (lv' := [(3, .int s0), (0, .int v0), (1, .int v1), (2, .int v2)]) C (by decide) rfl dX4_next_20 ?_
  refine V.iload_n (pc := 21) C 3 rfl dX4_next_21 ?_
  refine V.bipush (pc := 22) C (nI 6) (by decide) dX4_next_22 ?_
  rcases it_some hf with ⟨h1, hf⟩ | ⟨h1, hf⟩
  · refine V.ic_ltT (pc := 24) C 31 h1 (by decide) dX4_next_24 ?_
    refine V.iconst (pc := 31) C (nI 0) (by decide) dX4_next_31 ?_
    refine V.sub C [1, 2, 3, 0] (lv' := [(0, .int v0), (1, .int v1), (2, .int v2), (3, .int s0)]) rfl ?_
    exact vX4_next_b32 C hG    _ _ _ _ _ _ hf
  · refine V.ic_ltF (pc := 24) C 31 h1 (by decide) dX4_next_24 ?_
    refine V.iconst (pc := 27) C (nI 1) (by decide) dX4_next_27 ?_
    refine V.goto (pc := 28) C 32 (by decide) dX4_next_28 ?_
    refine V.sub C [1, 2, 3, 0] (lv' := [(0, .int v0), (1, .int v1), (2, .int v2), (3, .int s0)]) rfl ?_
    exact vX4_next_b32 C hG    _ _ _ _ _ _ hf
def fX4_next_b19   (v0 : Int32) (v1 : Int32) (v2 : Int32) (M : Mm) : Option (Int32 × Mm) :=
fX4_next_b20 v0 v1 v2 (nI 0) M
set_option maxHeartbeats 4000000 in
set_option maxRecDepth 100000 in
theorem vX4_next_b19 {G : Rg} {X : Ct} {r : Int32} {Mf : Mm}   (C : cxX4_next G X) (hG : gS G = shX)   (v0 : Int32) (v1 : Int32) (v2 : Int32) (M : Mm) (hf : fX4_next_b19 v0 v1 v2 M = some (r, Mf)) : V G X 5 (some (.int r)) Mf 19 [(0, .int v0), (1, .int v1), (2, .int v2)] [] M := by
  rw [fX4_next_b19] at hf
  refine V.iconst (pc := 19) C (nI 0) (by decide) dX4_next_19 ?_
  exact vX4_next_b20 C hG    _ _ _ _ _ hf
def fX4_next (x0 : Int32) (x1 : Int32) (M : Mm) : Option (Int32 × Mm) :=
bd (fX4_officerOf x1 M) fun r1 M1 =>
if r1 < (nI 0) then
(fX4_next_b19 x0 x1 r1 M1)
else
(if (nI 6) ≤ r1 then
(fX4_next_b19 x0 x1 r1 M1)
else
(fX4_next_b20 x0 x1 r1 (nI 1) M1))
set_option maxHeartbeats 4000000 in
set_option maxRecDepth 100000 in
theorem mX4_next (l : Launch) {G : Rg} (hG : gS G = shX) {x0 : Int32} {x1 : Int32}  {M Mf : Mm} {r : Int32} (hf : fX4_next x0 x1 M = some (r, Mf)) : Mt l G yX4_next cX4_next 5 (some .int) 2 42 [.int x0, .int x1] M (some (.int r)) Mf := by
  refine Mt.of (by decide) (Nat.le_of_ble_eq_true rfl) ?_
  intro X C hX
  subst hX
  have C : cxX4_next G X := C
  show V G X 5 (some (.int r)) Mf 0 [(0, .int x0), (1, .int x1)] [] M
  rw [fX4_next] at hf
  refine V.iload_n (pc := 0) C 1 rfl dX4_next_0 ?_
  obtain ⟨r1, M1, h1, hf⟩ := bd_some hf
  refine V.callSi (pc := 1) (As := [.int x1]) (rest := []) C (mX4_officerOf X.2.1 hG  h1) mf_X4_officerOf wM_X4_23 rfl rfl ⟨by decide, by decide⟩ (Nat.le_of_ble_eq_true rfl) dX4_next_1 ?_
  refine V.istore_n (pc := 4) (lv' := [(2, .int r1), (0, .int x0), (1, .int x1)]) C (by decide) rfl dX4_next_4 ?_
  refine V.iload_n (pc := 5) C 0 rfl dX4_next_5 ?_
  rcases it_some hf with ⟨h2, hf⟩ | ⟨h2, hf⟩
  · refine V.if_ltT (pc := 6) C 19 h2 (by decide) dX4_next_6 ?_
    refine V.sub C [1, 2, 0] (lv' := [(0, .int x0), (1, .int x1), (2, .int r1)]) rfl ?_
    exact vX4_next_b19 C hG    _ _ _ _ hf
  · refine V.if_ltF (pc := 6) C 19 h2 (by decide) dX4_next_6 ?_
    refine V.iload_n (pc := 9) C 0 rfl dX4_next_9 ?_
    refine V.bipush (pc := 10) C (nI 6) (by decide) dX4_next_10 ?_
    rcases it_some hf with ⟨h3, hf⟩ | ⟨h3, hf⟩
    · refine V.ic_geT (pc := 12) C 19 h3 (by decide) dX4_next_12 ?_
      refine V.sub C [1, 2, 0] (lv' := [(0, .int x0), (1, .int x1), (2, .int r1)]) rfl ?_
      exact vX4_next_b19 C hG    _ _ _ _ hf
    · refine V.ic_geF (pc := 12) C 19 h3 (by decide) dX4_next_12 ?_
      refine V.iconst (pc := 15) C (nI 1) (by decide) dX4_next_15 ?_
      refine V.goto (pc := 16) C 20 (by decide) dX4_next_16 ?_
      refine V.sub C [1, 2, 0] (lv' := [(0, .int x0), (1, .int x1), (2, .int r1)]) rfl ?_
      exact vX4_next_b20 C hG    _ _ _ _ _ hf
theorem dX4_firstFault_0 : decode cX4_firstFault 0 = .ok (.iconst 0, 1) := by decide +kernel
theorem dX4_firstFault_1 : decode cX4_firstFault 1 = .ok (.istore_n 1, 1) := by decide +kernel
theorem dX4_firstFault_2 : decode cX4_firstFault 2 = .ok (.iconst 0, 1) := by decide +kernel
theorem dX4_firstFault_3 : decode cX4_firstFault 3 = .ok (.istore_n 2, 1) := by decide +kernel
theorem dX4_firstFault_4 : decode cX4_firstFault 4 = .ok (.iload_n 2, 1) := by decide +kernel
theorem dX4_firstFault_5 : decode cX4_firstFault 5 = .ok (.aload_n 0, 1) := by decide +kernel
theorem dX4_firstFault_6 : decode cX4_firstFault 6 = .ok (.getfield 15, 3) := by decide +kernel
theorem dX4_firstFault_9 : decode cX4_firstFault 9 = .ok (.if_icmp .ge 28, 3) := by decide +kernel
theorem dX4_firstFault_12 : decode cX4_firstFault 12 = .ok (.iload_n 1, 1) := by decide +kernel
theorem dX4_firstFault_13 : decode cX4_firstFault 13 = .ok (.aload_n 0, 1) := by decide +kernel
theorem dX4_firstFault_14 : decode cX4_firstFault 14 = .ok (.getfield 9, 3) := by decide +kernel
theorem dX4_firstFault_17 : decode cX4_firstFault 17 = .ok (.iload_n 2, 1) := by decide +kernel
theorem dX4_firstFault_18 : decode cX4_firstFault 18 = .ok (.iaload, 1) := by decide +kernel
theorem dX4_firstFault_19 : decode cX4_firstFault 19 = .ok (.invokestatic 19, 3) := by decide +kernel
theorem dX4_firstFault_22 : decode cX4_firstFault 22 = .ok (.istore_n 1, 1) := by decide +kernel
theorem dX4_firstFault_23 : decode cX4_firstFault 23 = .ok (.iload_n 1, 1) := by decide +kernel
theorem dX4_firstFault_24 : decode cX4_firstFault 24 = .ok (.bipush 6, 2) := by decide +kernel
theorem dX4_firstFault_26 : decode cX4_firstFault 26 = .ok (.if_icmp .ne 5, 3) := by decide +kernel
theorem dX4_firstFault_29 : decode cX4_firstFault 29 = .ok (.iload_n 2, 1) := by decide +kernel
theorem dX4_firstFault_30 : decode cX4_firstFault 30 = .ok (.ireturn, 1) := by decide +kernel
theorem dX4_firstFault_31 : decode cX4_firstFault 31 = .ok (.iinc 2 1, 3) := by decide +kernel
theorem dX4_firstFault_34 : decode cX4_firstFault 34 = .ok (.goto (-30), 3) := by decide +kernel
theorem dX4_firstFault_37 : decode cX4_firstFault 37 = .ok (.iload_n 1, 1) := by decide +kernel
theorem dX4_firstFault_38 : decode cX4_firstFault 38 = .ok (.ifCond .ne 8, 3) := by decide +kernel
theorem dX4_firstFault_41 : decode cX4_firstFault 41 = .ok (.bipush (-6), 2) := by decide +kernel
theorem dX4_firstFault_43 : decode cX4_firstFault 43 = .ok (.goto 7, 3) := by decide +kernel
theorem dX4_firstFault_46 : decode cX4_firstFault 46 = .ok (.aload_n 0, 1) := by decide +kernel
theorem dX4_firstFault_47 : decode cX4_firstFault 47 = .ok (.getfield 15, 3) := by decide +kernel
theorem dX4_firstFault_50 : decode cX4_firstFault 50 = .ok (.ireturn, 1) := by decide +kernel
abbrev cxX4_firstFault (G : Rg) (X : Ct) : Prop := Cx G X cX4_firstFault 3 RX4 (some .int) 3 66 (Cond.code yX4_firstFault cX4_firstFault 3 (some .int))
def fX4_firstFault_b37   (v1 : Int32) (M : Mm) : Option (Int32 × Mm) :=
if v1 = (nI 0) then
(some ((mI 6), M))
else
(some ((M.1 6 1), M))
set_option maxHeartbeats 4000000 in
set_option maxRecDepth 100000 in
theorem vX4_firstFault_b37 {G : Rg} {X : Ct} {r : Int32} {Mf : Mm}   (C : cxX4_firstFault G X) (hG : gS G = shX)   (v1 : Int32) (M : Mm) (hf : fX4_firstFault_b37 v1 M = some (r, Mf)) : V G X 3 (some (.int r)) Mf 37 [(0, .ref (gA G 6)), (1, .int v1)] [] M := by
  rw [fX4_firstFault_b37] at hf
  refine V.iload_n (pc := 37) C 1 rfl dX4_firstFault_37 ?_
  rcases it_some hf with ⟨h1, hf⟩ | ⟨h1, hf⟩
  · refine V.if_neF (pc := 38) C 46 h1 (by decide) dX4_firstFault_38 ?_
    refine V.bipush (pc := 41) C (mI 6) (by decide) dX4_firstFault_41 ?_
    refine V.goto (pc := 43) C 50 (by decide) dX4_firstFault_43 ?_
    exact V.retI (pc := 50) C hf dX4_firstFault_50
  · refine V.if_neT (pc := 38) C 46 h1 (by decide) dX4_firstFault_38 ?_
    refine V.aload_n (pc := 46) C 0 rfl dX4_firstFault_46 ?_
    refine V.getI (pc := 47) C clX4 inX4 (sx_6 hG) 1 (by decide) wF_X4_15 rfl dX4_firstFault_47 ?_
    exact V.retI (pc := 50) C hf dX4_firstFault_50
def fX4_firstFault_b4   : Nat → Int32 → Int32 → Mm → Option (Int32 × Mm)
  | 0, _, _, _ => none
  | n + 1, v1, v2, M =>
    if (M.1 6 1) ≤ v2 then
    (fX4_firstFault_b37 v1 M)
    else
    (gd (inb v2 60) (
    bd (fX4_next v1 (M.1 7 v2.toNatClampNeg) M) fun r3 M3 =>
    if r3 = (nI 6) then
    (some (v2, M3))
    else
    (fX4_firstFault_b4  n r3 (v2 + (nI 1)) M3)))
set_option maxHeartbeats 4000000 in
set_option maxRecDepth 100000 in
theorem vX4_firstFault_b4 {G : Rg} {X : Ct} {r : Int32} {Mf : Mm}   (C : cxX4_firstFault G X) (hG : gS G = shX)   : ∀ (n : Nat) (v1 : Int32) (v2 : Int32) (M : Mm), fX4_firstFault_b4 n v1 v2 M = some (r, Mf) → V G X 3 (some (.int r)) Mf 4 [(0, .ref (gA G 6)), (1, .int v1), (2, .int v2)] [] M := by
  intro n
  induction n with
  | zero => intro v1 v2 M hf; rw [fX4_firstFault_b4] at hf; cases hf
  | succ n ih =>
    intro v1 v2 M hf
    rw [fX4_firstFault_b4] at hf
    refine V.iload_n (pc := 4) C 2 rfl dX4_firstFault_4 ?_
    refine V.aload_n (pc := 5) C 0 rfl dX4_firstFault_5 ?_
    refine V.getI (pc := 6) C clX4 inX4 (sx_6 hG) 1 (by decide) wF_X4_15 rfl dX4_firstFault_6 ?_
    rcases it_some hf with ⟨h1, hf⟩ | ⟨h1, hf⟩
    · refine V.ic_geT (pc := 9) C 37 h1 (by decide) dX4_firstFault_9 ?_
      refine V.sub C [0, 1] (lv' := [(0, .ref (gA G 6)), (1, .int v1)]) rfl ?_
      exact vX4_firstFault_b37 C hG    _ _ hf
    · refine V.ic_geF (pc := 9) C 37 h1 (by decide) dX4_firstFault_9 ?_
      refine V.iload_n (pc := 12) C 1 rfl dX4_firstFault_12 ?_
      refine V.aload_n (pc := 13) C 0 rfl dX4_firstFault_13 ?_
      refine V.getR (pc := 14) C clX4 inX4 (sx_6 hG) 0 (by decide) wF_X4_9 rfl dX4_firstFault_14 ?_
      refine V.iload_n (pc := 17) C 2 rfl dX4_firstFault_17 ?_
      obtain ⟨g2, hf⟩ := gd_some hf
      refine V.iald (pc := 18) C (sx_7 hG) (inb_in g2) dX4_firstFault_18 ?_
      obtain ⟨r3, M3, h3, hf⟩ := bd_some hf
      refine V.callSi (pc := 19) (As := [.int v1, .int (M.1 7 v2.toNatClampNeg)]) (rest := []) C (mX4_next X.2.1 hG  h3) mf_X4_next wM_X4_19 rfl rfl ⟨by decide, by decide⟩ (Nat.le_of_ble_eq_true rfl) dX4_firstFault_19 ?_
      refine V.istore_n (pc := 22) (lv' := [(1, .int r3), (0, .ref (gA G 6)), (2, .int v2)]) C (by decide) rfl dX4_firstFault_22 ?_
      refine V.iload_n (pc := 23) C 0 rfl dX4_firstFault_23 ?_
      refine V.bipush (pc := 24) C (nI 6) (by decide) dX4_firstFault_24 ?_
      rcases it_some hf with ⟨h4, hf⟩ | ⟨h4, hf⟩
      · refine V.ic_neF (pc := 26) C 31 h4 (by decide) dX4_firstFault_26 ?_
        refine V.iload_n (pc := 29) C 2 rfl dX4_firstFault_29 ?_
        exact V.retI (pc := 30) C hf dX4_firstFault_30
      · refine V.ic_neT (pc := 26) C 31 h4 (by decide) dX4_firstFault_26 ?_
        refine V.iinc (pc := 31) (lv' := [(2, .int (v2 + (nI 1))), (1, .int r3), (0, .ref (gA G 6))]) C (v2 + (nI 1)) 2 rfl rfl (by decide) rfl dX4_firstFault_31 ?_
        refine V.goto (pc := 34) C 4 (by decide) dX4_firstFault_34 ?_
        refine V.sub C [2, 1, 0] (lv' := [(0, .ref (gA G 6)), (1, .int r3), (2, .int (v2 + (nI 1)))]) rfl ?_
        exact ih _ _ _ hf
def fX4_firstFault  (M : Mm) : Option (Int32 × Mm) :=
fX4_firstFault_b4 fu (nI 0) (nI 0) M
set_option maxHeartbeats 4000000 in
set_option maxRecDepth 100000 in
theorem mX4_firstFault (l : Launch) {G : Rg} (hG : gS G = shX)   {M Mf : Mm} {r : Int32} (hf : fX4_firstFault  M = some (r, Mf)) : Mt l G yX4_firstFault cX4_firstFault 3 (some .int) 3 66 [.ref (gA G 6)] M (some (.int r)) Mf := by
  refine Mt.of (by decide) (Nat.le_of_ble_eq_true rfl) ?_
  intro X C hX
  subst hX
  have C : cxX4_firstFault G X := C
  show V G X 3 (some (.int r)) Mf 0 [(0, .ref (gA G 6))] [] M
  rw [fX4_firstFault] at hf
  refine V.iconst (pc := 0) C (nI 0) (by decide) dX4_firstFault_0 ?_
  refine V.istore_n (pc := 1) (lv' := [(1, .int (nI 0)), (0, .ref (gA G 6))]) C (by decide) rfl dX4_firstFault_1 ?_
  refine V.iconst (pc := 2) C (nI 0) (by decide) dX4_firstFault_2 ?_
  refine V.istore_n (pc := 3) (lv' := [(2, .int (nI 0)), (1, .int (nI 0)), (0, .ref (gA G 6))]) C (by decide) rfl dX4_firstFault_3 ?_
  refine V.sub C [2, 1, 0] (lv' := [(0, .ref (gA G 6)), (1, .int (nI 0)), (2, .int (nI 0))]) rfl ?_
  exact vX4_firstFault_b4 C hG   fu _ _ _ hf
theorem dX8_fault_0 : decode cX8_fault 0 = .ok (.aload_n 0, 1) := by decide +kernel
theorem dX8_fault_1 : decode cX8_fault 1 = .ok (.getfield 19, 3) := by decide +kernel
theorem dX8_fault_4 : decode cX8_fault 4 = .ok (.invokevirtual 109, 3) := by decide +kernel
theorem dX8_fault_7 : decode cX8_fault 7 = .ok (.ireturn, 1) := by decide +kernel
abbrev cxX8_fault (G : Rg) (X : Ct) : Prop := Cx G X cX8_fault 1 RX8 (some .int) 4 88 (Cond.code yX8_fault cX8_fault 1 (some .int))
def fX8_fault  (M : Mm) : Option (Int32 × Mm) :=
bd (fX4_firstFault M) fun r1 M1 =>
some (r1, M1)
set_option maxHeartbeats 4000000 in
set_option maxRecDepth 100000 in
theorem mX8_fault (l : Launch) {G : Rg} (hG : gS G = shX)   {M Mf : Mm} {r : Int32} (hf : fX8_fault  M = some (r, Mf)) : Mt l G yX8_fault cX8_fault 1 (some .int) 4 88 [.ref (gA G 0)] M (some (.int r)) Mf := by
  refine Mt.of (by decide) (Nat.le_of_ble_eq_true rfl) ?_
  intro X C hX
  subst hX
  have C : cxX8_fault G X := C
  show V G X 1 (some (.int r)) Mf 0 [(0, .ref (gA G 0))] [] M
  rw [fX8_fault] at hf
  refine V.aload_n (pc := 0) C 0 rfl dX8_fault_0 ?_
  refine V.getR (pc := 1) C clX8 inX8 (sx_0 hG) 1 (by decide) wF_X8_19 rfl dX8_fault_1 ?_
  obtain ⟨r1, M1, h1, hf⟩ := bd_some hf
  refine V.callVi (pc := 4) (As := []) (rest := []) C (mX4_firstFault X.2.1 hG  h1) mf_X4_firstFault clX4 (sx_6 hG) wM_X8_109 rfl rfl ⟨by decide, by decide⟩ (Nat.le_of_ble_eq_true rfl) dX8_fault_4 ?_
  exact V.retI (pc := 7) C hf dX8_fault_7
theorem dX0_copyFrom_0 : decode cX0_copyFrom 0 = .ok (.aload_n 0, 1) := by decide +kernel
theorem dX0_copyFrom_1 : decode cX0_copyFrom 1 = .ok (.aload_n 1, 1) := by decide +kernel
theorem dX0_copyFrom_2 : decode cX0_copyFrom 2 = .ok (.getfield 28, 3) := by decide +kernel
theorem dX0_copyFrom_5 : decode cX0_copyFrom 5 = .ok (.putfield 28, 3) := by decide +kernel
theorem dX0_copyFrom_8 : decode cX0_copyFrom 8 = .ok (.aload_n 0, 1) := by decide +kernel
theorem dX0_copyFrom_9 : decode cX0_copyFrom 9 = .ok (.aload_n 1, 1) := by decide +kernel
theorem dX0_copyFrom_10 : decode cX0_copyFrom 10 = .ok (.getfield 9, 3) := by decide +kernel
theorem dX0_copyFrom_13 : decode cX0_copyFrom 13 = .ok (.putfield 9, 3) := by decide +kernel
theorem dX0_copyFrom_16 : decode cX0_copyFrom 16 = .ok (.aload_n 0, 1) := by decide +kernel
theorem dX0_copyFrom_17 : decode cX0_copyFrom 17 = .ok (.aload_n 1, 1) := by decide +kernel
theorem dX0_copyFrom_18 : decode cX0_copyFrom 18 = .ok (.getfield 31, 3) := by decide +kernel
theorem dX0_copyFrom_21 : decode cX0_copyFrom 21 = .ok (.putfield 31, 3) := by decide +kernel
theorem dX0_copyFrom_24 : decode cX0_copyFrom 24 = .ok (.aload_n 0, 1) := by decide +kernel
theorem dX0_copyFrom_25 : decode cX0_copyFrom 25 = .ok (.aload_n 1, 1) := by decide +kernel
theorem dX0_copyFrom_26 : decode cX0_copyFrom 26 = .ok (.getfield 34, 3) := by decide +kernel
theorem dX0_copyFrom_29 : decode cX0_copyFrom 29 = .ok (.putfield 34, 3) := by decide +kernel
theorem dX0_copyFrom_32 : decode cX0_copyFrom 32 = .ok (.aload_n 1, 1) := by decide +kernel
theorem dX0_copyFrom_33 : decode cX0_copyFrom 33 = .ok (.getfield 15, 3) := by decide +kernel
theorem dX0_copyFrom_36 : decode cX0_copyFrom 36 = .ok (.iconst 0, 1) := by decide +kernel
theorem dX0_copyFrom_37 : decode cX0_copyFrom 37 = .ok (.aload_n 0, 1) := by decide +kernel
theorem dX0_copyFrom_38 : decode cX0_copyFrom 38 = .ok (.getfield 15, 3) := by decide +kernel
theorem dX0_copyFrom_41 : decode cX0_copyFrom 41 = .ok (.iconst 0, 1) := by decide +kernel
theorem dX0_copyFrom_42 : decode cX0_copyFrom 42 = .ok (.bipush 12, 2) := by decide +kernel
theorem dX0_copyFrom_44 : decode cX0_copyFrom 44 = .ok (.invokestatic 37, 3) := by decide +kernel
theorem dX0_copyFrom_47 : decode cX0_copyFrom 47 = .ok (.aload_n 1, 1) := by decide +kernel
theorem dX0_copyFrom_48 : decode cX0_copyFrom 48 = .ok (.getfield 19, 3) := by decide +kernel
theorem dX0_copyFrom_51 : decode cX0_copyFrom 51 = .ok (.iconst 0, 1) := by decide +kernel
theorem dX0_copyFrom_52 : decode cX0_copyFrom 52 = .ok (.aload_n 0, 1) := by decide +kernel
theorem dX0_copyFrom_53 : decode cX0_copyFrom 53 = .ok (.getfield 19, 3) := by decide +kernel
theorem dX0_copyFrom_56 : decode cX0_copyFrom 56 = .ok (.iconst 0, 1) := by decide +kernel
theorem dX0_copyFrom_57 : decode cX0_copyFrom 57 = .ok (.bipush 12, 2) := by decide +kernel
theorem dX0_copyFrom_59 : decode cX0_copyFrom 59 = .ok (.invokestatic 37, 3) := by decide +kernel
theorem dX0_copyFrom_62 : decode cX0_copyFrom 62 = .ok (.aload_n 1, 1) := by decide +kernel
theorem dX0_copyFrom_63 : decode cX0_copyFrom 63 = .ok (.getfield 22, 3) := by decide +kernel
theorem dX0_copyFrom_66 : decode cX0_copyFrom 66 = .ok (.iconst 0, 1) := by decide +kernel
theorem dX0_copyFrom_67 : decode cX0_copyFrom 67 = .ok (.aload_n 0, 1) := by decide +kernel
theorem dX0_copyFrom_68 : decode cX0_copyFrom 68 = .ok (.getfield 22, 3) := by decide +kernel
theorem dX0_copyFrom_71 : decode cX0_copyFrom 71 = .ok (.iconst 0, 1) := by decide +kernel
theorem dX0_copyFrom_72 : decode cX0_copyFrom 72 = .ok (.bipush 6, 2) := by decide +kernel
theorem dX0_copyFrom_74 : decode cX0_copyFrom 74 = .ok (.invokestatic 37, 3) := by decide +kernel
theorem dX0_copyFrom_77 : decode cX0_copyFrom 77 = .ok (.aload_n 1, 1) := by decide +kernel
theorem dX0_copyFrom_78 : decode cX0_copyFrom 78 = .ok (.getfield 25, 3) := by decide +kernel
theorem dX0_copyFrom_81 : decode cX0_copyFrom 81 = .ok (.iconst 0, 1) := by decide +kernel
theorem dX0_copyFrom_82 : decode cX0_copyFrom 82 = .ok (.aload_n 0, 1) := by decide +kernel
theorem dX0_copyFrom_83 : decode cX0_copyFrom 83 = .ok (.getfield 25, 3) := by decide +kernel
theorem dX0_copyFrom_86 : decode cX0_copyFrom 86 = .ok (.iconst 0, 1) := by decide +kernel
theorem dX0_copyFrom_87 : decode cX0_copyFrom 87 = .ok (.bipush 8, 2) := by decide +kernel
theorem dX0_copyFrom_89 : decode cX0_copyFrom 89 = .ok (.invokestatic 37, 3) := by decide +kernel
theorem dX0_copyFrom_92 : decode cX0_copyFrom 92 = .ok (.return_, 1) := by decide +kernel
abbrev cxX0_copyFrom (G : Rg) (X : Ct) : Prop := Cx G X cX0_copyFrom 2 RX0 (none) 1 40 (Cond.code yX0_copyFrom cX0_copyFrom 2 (none))
def fX0_copyFrom (c0 : Nat) (c1 : Nat) (M : Mm) : Option (Unit × Mm) :=
some ((), (cpI (cpI (cpI (cpI (sI (sI (sI (sI M c0 0 (M.1 c1 0)) c0 1 ((sI M c0 0 (M.1 c1 0)).1 c1 1)) c0 2 ((sI (sI M c0 0 (M.1 c1 0)) c0 1 ((sI M c0 0 (M.1 c1 0)).1 c1 1)).1 c1 2)) c0 3 ((sI (sI (sI M c0 0 (M.1 c1 0)) c0 1 ((sI M c0 0 (M.1 c1 0)).1 c1 1)) c0 2 ((sI (sI M c0 0 (M.1 c1 0)) c0 1 ((sI M c0 0 (M.1 c1 0)).1 c1 1)).1 c1 2)).1 c1 3)) (c1 + 1) (c0 + 1) (nI 12).toNatClampNeg) (c1 + 2) (c0 + 2) (nI 12).toNatClampNeg) (c1 + 3) (c0 + 3) (nI 6).toNatClampNeg) (c1 + 4) (c0 + 4) (nI 8).toNatClampNeg))
set_option maxHeartbeats 4000000 in
set_option maxRecDepth 100000 in
theorem mX0_copyFrom (l : Launch) {G : Rg} (hG : gS G = shX) {c0 : Nat} {c1 : Nat} (hB0 : isB G c0) (hB1 : isB G c1) {M Mf : Mm} {r : Unit} (hf : fX0_copyFrom c0 c1 M = some (r, Mf)) : Mt l G yX0_copyFrom cX0_copyFrom 2 (none) 1 40 [.ref (gA G c0), .ref (gA G c1)] M none Mf := by
  refine Mt.of (by decide) (Nat.le_of_ble_eq_true rfl) ?_
  intro X C hX
  subst hX
  have C : cxX0_copyFrom G X := C
  show V G X 2 none Mf 0 [(0, .ref (gA G c0)), (1, .ref (gA G c1))] [] M
  rw [fX0_copyFrom] at hf
  refine V.aload_n (pc := 0) C 0 rfl dX0_copyFrom_0 ?_
  refine V.aload_n (pc := 1) C 1 rfl dX0_copyFrom_1 ?_
  refine V.getI (pc := 2) C clX0 inX0 hB1.1 0 (by decide) wF_X0_28 rfl dX0_copyFrom_2 ?_
  refine V.putI (pc := 5) C clX0 inX0 hB0.1 0 (by decide) wF_X0_28 tyX0 tyX0_ok nmX0 rfl (tyX0_ok 0 (by decide)) rfl dX0_copyFrom_5 ?_
  refine V.aload_n (pc := 8) C 0 rfl dX0_copyFrom_8 ?_
  refine V.aload_n (pc := 9) C 1 rfl dX0_copyFrom_9 ?_
  refine V.getI (pc := 10) C clX0 inX0 hB1.1 1 (by decide) wF_X0_9 rfl dX0_copyFrom_10 ?_
  refine V.putI (pc := 13) C clX0 inX0 hB0.1 1 (by decide) wF_X0_9 tyX0 tyX0_ok nmX0 rfl (tyX0_ok 1 (by decide)) rfl dX0_copyFrom_13 ?_
  refine V.aload_n (pc := 16) C 0 rfl dX0_copyFrom_16 ?_
  refine V.aload_n (pc := 17) C 1 rfl dX0_copyFrom_17 ?_
  refine V.getI (pc := 18) C clX0 inX0 hB1.1 2 (by decide) wF_X0_31 rfl dX0_copyFrom_18 ?_
  refine V.putI (pc := 21) C clX0 inX0 hB0.1 2 (by decide) wF_X0_31 tyX0 tyX0_ok nmX0 rfl (tyX0_ok 2 (by decide)) rfl dX0_copyFrom_21 ?_
  refine V.aload_n (pc := 24) C 0 rfl dX0_copyFrom_24 ?_
  refine V.aload_n (pc := 25) C 1 rfl dX0_copyFrom_25 ?_
  refine V.getI (pc := 26) C clX0 inX0 hB1.1 3 (by decide) wF_X0_34 rfl dX0_copyFrom_26 ?_
  refine V.putI (pc := 29) C clX0 inX0 hB0.1 3 (by decide) wF_X0_34 tyX0 tyX0_ok nmX0 rfl (tyX0_ok 3 (by decide)) rfl dX0_copyFrom_29 ?_
  refine V.aload_n (pc := 32) C 1 rfl dX0_copyFrom_32 ?_
  refine V.getR (pc := 33) C clX0 inX0 hB1.1 4 (by decide) wF_X0_15 rfl dX0_copyFrom_33 ?_
  refine V.iconst (pc := 36) C (nI 0) (by decide) dX0_copyFrom_36 ?_
  refine V.aload_n (pc := 37) C 0 rfl dX0_copyFrom_37 ?_
  refine V.getR (pc := 38) C clX0 inX0 hB0.1 4 (by decide) wF_X0_15 rfl dX0_copyFrom_38 ?_
  refine V.iconst (pc := 41) C (nI 0) (by decide) dX0_copyFrom_41 ?_
  refine V.bipush (pc := 42) C (nI 12) (by decide) dX0_copyFrom_42 ?_
  refine V.copyI (pc := 44) C mc_X0_37 hB1.2.1 hB0.2.1 (by decide) (by decide) (by decide) (by decide) (by decide) dX0_copyFrom_44 ?_
  refine V.aload_n (pc := 47) C 1 rfl dX0_copyFrom_47 ?_
  refine V.getR (pc := 48) C clX0 inX0 hB1.1 5 (by decide) wF_X0_19 rfl dX0_copyFrom_48 ?_
  refine V.iconst (pc := 51) C (nI 0) (by decide) dX0_copyFrom_51 ?_
  refine V.aload_n (pc := 52) C 0 rfl dX0_copyFrom_52 ?_
  refine V.getR (pc := 53) C clX0 inX0 hB0.1 5 (by decide) wF_X0_19 rfl dX0_copyFrom_53 ?_
  refine V.iconst (pc := 56) C (nI 0) (by decide) dX0_copyFrom_56 ?_
  refine V.bipush (pc := 57) C (nI 12) (by decide) dX0_copyFrom_57 ?_
  refine V.copyI (pc := 59) C mc_X0_37 hB1.2.2.1 hB0.2.2.1 (by decide) (by decide) (by decide) (by decide) (by decide) dX0_copyFrom_59 ?_
  refine V.aload_n (pc := 62) C 1 rfl dX0_copyFrom_62 ?_
  refine V.getR (pc := 63) C clX0 inX0 hB1.1 6 (by decide) wF_X0_22 rfl dX0_copyFrom_63 ?_
  refine V.iconst (pc := 66) C (nI 0) (by decide) dX0_copyFrom_66 ?_
  refine V.aload_n (pc := 67) C 0 rfl dX0_copyFrom_67 ?_
  refine V.getR (pc := 68) C clX0 inX0 hB0.1 6 (by decide) wF_X0_22 rfl dX0_copyFrom_68 ?_
  refine V.iconst (pc := 71) C (nI 0) (by decide) dX0_copyFrom_71 ?_
  refine V.bipush (pc := 72) C (nI 6) (by decide) dX0_copyFrom_72 ?_
  refine V.copyI (pc := 74) C mc_X0_37 hB1.2.2.2.1 hB0.2.2.2.1 (by decide) (by decide) (by decide) (by decide) (by decide) dX0_copyFrom_74 ?_
  refine V.aload_n (pc := 77) C 1 rfl dX0_copyFrom_77 ?_
  refine V.getR (pc := 78) C clX0 inX0 hB1.1 7 (by decide) wF_X0_25 rfl dX0_copyFrom_78 ?_
  refine V.iconst (pc := 81) C (nI 0) (by decide) dX0_copyFrom_81 ?_
  refine V.aload_n (pc := 82) C 0 rfl dX0_copyFrom_82 ?_
  refine V.getR (pc := 83) C clX0 inX0 hB0.1 7 (by decide) wF_X0_25 rfl dX0_copyFrom_83 ?_
  refine V.iconst (pc := 86) C (nI 0) (by decide) dX0_copyFrom_86 ?_
  refine V.bipush (pc := 87) C (nI 8) (by decide) dX0_copyFrom_87 ?_
  refine V.copyI (pc := 89) C mc_X0_37 hB1.2.2.2.2 hB0.2.2.2.2 (by decide) (by decide) (by decide) (by decide) (by decide) dX0_copyFrom_89 ?_
  exact V.retV (pc := 92) C hf dX0_copyFrom_92
theorem dX0_crowdIn_0 : decode cX0_crowdIn 0 = .ok (.iconst 0, 1) := by decide +kernel
theorem dX0_crowdIn_1 : decode cX0_crowdIn 1 = .ok (.istore_n 2, 1) := by decide +kernel
theorem dX0_crowdIn_2 : decode cX0_crowdIn 2 = .ok (.iconst 0, 1) := by decide +kernel
theorem dX0_crowdIn_3 : decode cX0_crowdIn 3 = .ok (.istore_n 3, 1) := by decide +kernel
theorem dX0_crowdIn_4 : decode cX0_crowdIn 4 = .ok (.iload_n 3, 1) := by decide +kernel
theorem dX0_crowdIn_5 : decode cX0_crowdIn 5 = .ok (.bipush 12, 2) := by decide +kernel
theorem dX0_crowdIn_7 : decode cX0_crowdIn 7 = .ok (.if_icmp .ge 41, 3) := by decide +kernel
theorem dX0_crowdIn_10 : decode cX0_crowdIn 10 = .ok (.aload_n 0, 1) := by decide +kernel
theorem dX0_crowdIn_11 : decode cX0_crowdIn 11 = .ok (.getfield 28, 3) := by decide +kernel
theorem dX0_crowdIn_14 : decode cX0_crowdIn 14 = .ok (.iload_n 3, 1) := by decide +kernel
theorem dX0_crowdIn_15 : decode cX0_crowdIn 15 = .ok (.ishr, 1) := by decide +kernel
theorem dX0_crowdIn_16 : decode cX0_crowdIn 16 = .ok (.iconst 1, 1) := by decide +kernel
theorem dX0_crowdIn_17 : decode cX0_crowdIn 17 = .ok (.iand, 1) := by decide +kernel
theorem dX0_crowdIn_18 : decode cX0_crowdIn 18 = .ok (.iconst 1, 1) := by decide +kernel
theorem dX0_crowdIn_19 : decode cX0_crowdIn 19 = .ok (.if_icmp .ne 23, 3) := by decide +kernel
theorem dX0_crowdIn_22 : decode cX0_crowdIn 22 = .ok (.iload_n 1, 1) := by decide +kernel
theorem dX0_crowdIn_23 : decode cX0_crowdIn 23 = .ok (.aload_n 0, 1) := by decide +kernel
theorem dX0_crowdIn_24 : decode cX0_crowdIn 24 = .ok (.getfield 19, 3) := by decide +kernel
theorem dX0_crowdIn_27 : decode cX0_crowdIn 27 = .ok (.iload_n 3, 1) := by decide +kernel
theorem dX0_crowdIn_28 : decode cX0_crowdIn 28 = .ok (.iaload, 1) := by decide +kernel
theorem dX0_crowdIn_29 : decode cX0_crowdIn 29 = .ok (.ishr, 1) := by decide +kernel
theorem dX0_crowdIn_30 : decode cX0_crowdIn 30 = .ok (.iconst 1, 1) := by decide +kernel
theorem dX0_crowdIn_31 : decode cX0_crowdIn 31 = .ok (.iand, 1) := by decide +kernel
theorem dX0_crowdIn_32 : decode cX0_crowdIn 32 = .ok (.iconst 1, 1) := by decide +kernel
theorem dX0_crowdIn_33 : decode cX0_crowdIn 33 = .ok (.if_icmp .ne 9, 3) := by decide +kernel
theorem dX0_crowdIn_36 : decode cX0_crowdIn 36 = .ok (.iload_n 2, 1) := by decide +kernel
theorem dX0_crowdIn_37 : decode cX0_crowdIn 37 = .ok (.iconst 1, 1) := by decide +kernel
theorem dX0_crowdIn_38 : decode cX0_crowdIn 38 = .ok (.iload_n 3, 1) := by decide +kernel
theorem dX0_crowdIn_39 : decode cX0_crowdIn 39 = .ok (.ishl, 1) := by decide +kernel
theorem dX0_crowdIn_40 : decode cX0_crowdIn 40 = .ok (.ior, 1) := by decide +kernel
theorem dX0_crowdIn_41 : decode cX0_crowdIn 41 = .ok (.istore_n 2, 1) := by decide +kernel
theorem dX0_crowdIn_42 : decode cX0_crowdIn 42 = .ok (.iinc 3 1, 3) := by decide +kernel
theorem dX0_crowdIn_45 : decode cX0_crowdIn 45 = .ok (.goto (-41), 3) := by decide +kernel
theorem dX0_crowdIn_48 : decode cX0_crowdIn 48 = .ok (.iload_n 2, 1) := by decide +kernel
theorem dX0_crowdIn_49 : decode cX0_crowdIn 49 = .ok (.ireturn, 1) := by decide +kernel
abbrev cxX0_crowdIn (G : Rg) (X : Ct) : Prop := Cx G X cX0_crowdIn 4 RX0 (some .int) 0 0 (Cond.code yX0_crowdIn cX0_crowdIn 4 (some .int))
def fX0_crowdIn_b4  (c0 : Nat) : Nat → Int32 → Int32 → Int32 → Mm → Option (Int32 × Mm)
  | 0, _, _, _, _ => none
  | n + 1, v1, v2, v3, M =>
    if (nI 12) ≤ v3 then
    (some (v2, M))
    else
    (if ((jshr (M.1 c0 0) v3) &&& (nI 1)) = (nI 1) then
    (gd (inb v3 12) (
    if ((jshr v1 (M.1 (c0 + 2) v3.toNatClampNeg)) &&& (nI 1)) = (nI 1) then
    (fX0_crowdIn_b4 c0 n v1 (v2 ||| (jshl (nI 1) v3)) (v3 + (nI 1)) M)
    else
    (fX0_crowdIn_b4 c0 n v1 v2 (v3 + (nI 1)) M)))
    else
    (fX0_crowdIn_b4 c0 n v1 v2 (v3 + (nI 1)) M))
set_option maxHeartbeats 4000000 in
set_option maxRecDepth 100000 in
theorem vX0_crowdIn_b4 {G : Rg} {X : Ct} {r : Int32} {Mf : Mm} {c0 : Nat}  (C : cxX0_crowdIn G X) (hG : gS G = shX) (hB0 : isB G c0)  : ∀ (n : Nat) (v1 : Int32) (v2 : Int32) (v3 : Int32) (M : Mm), fX0_crowdIn_b4 c0 n v1 v2 v3 M = some (r, Mf) → V G X 4 (some (.int r)) Mf 4 [(0, .ref (gA G c0)), (1, .int v1), (2, .int v2), (3, .int v3)] [] M := by
  intro n
  induction n with
  | zero => intro v1 v2 v3 M hf; rw [fX0_crowdIn_b4] at hf; cases hf
  | succ n ih =>
    intro v1 v2 v3 M hf
    rw [fX0_crowdIn_b4] at hf
    refine V.iload_n (pc := 4) C 3 rfl dX0_crowdIn_4 ?_
    refine V.bipush (pc := 5) C (nI 12) (by decide) dX0_crowdIn_5 ?_
    rcases it_some hf with ⟨h1, hf⟩ | ⟨h1, hf⟩
    · refine V.ic_geT (pc := 7) C 48 h1 (by decide) dX0_crowdIn_7 ?_
      refine V.iload_n (pc := 48) C 2 rfl dX0_crowdIn_48 ?_
      exact V.retI (pc := 49) C hf dX0_crowdIn_49
    · refine V.ic_geF (pc := 7) C 48 h1 (by decide) dX0_crowdIn_7 ?_
      refine V.aload_n (pc := 10) C 0 rfl dX0_crowdIn_10 ?_
      refine V.getI (pc := 11) C clX0 inX0 hB0.1 0 (by decide) wF_X0_28 rfl dX0_crowdIn_11 ?_
      refine V.iload_n (pc := 14) C 3 rfl dX0_crowdIn_14 ?_
      refine V.ishr (pc := 15) C dX0_crowdIn_15 ?_
      refine V.iconst (pc := 16) C (nI 1) (by decide) dX0_crowdIn_16 ?_
      refine V.iand (pc := 17) C dX0_crowdIn_17 ?_
      refine V.iconst (pc := 18) C (nI 1) (by decide) dX0_crowdIn_18 ?_
      rcases it_some hf with ⟨h2, hf⟩ | ⟨h2, hf⟩
      · refine V.ic_neF (pc := 19) C 42 h2 (by decide) dX0_crowdIn_19 ?_
        refine V.iload_n (pc := 22) C 1 rfl dX0_crowdIn_22 ?_
        refine V.aload_n (pc := 23) C 0 rfl dX0_crowdIn_23 ?_
        refine V.getR (pc := 24) C clX0 inX0 hB0.1 5 (by decide) wF_X0_19 rfl dX0_crowdIn_24 ?_
        refine V.iload_n (pc := 27) C 3 rfl dX0_crowdIn_27 ?_
        obtain ⟨g3, hf⟩ := gd_some hf
        refine V.iald (pc := 28) C hB0.2.2.1 (inb_in g3) dX0_crowdIn_28 ?_
        refine V.ishr (pc := 29) C dX0_crowdIn_29 ?_
        refine V.iconst (pc := 30) C (nI 1) (by decide) dX0_crowdIn_30 ?_
        refine V.iand (pc := 31) C dX0_crowdIn_31 ?_
        refine V.iconst (pc := 32) C (nI 1) (by decide) dX0_crowdIn_32 ?_
        rcases it_some hf with ⟨h4, hf⟩ | ⟨h4, hf⟩
        · refine V.ic_neF (pc := 33) C 42 h4 (by decide) dX0_crowdIn_33 ?_
          refine V.iload_n (pc := 36) C 2 rfl dX0_crowdIn_36 ?_
          refine V.iconst (pc := 37) C (nI 1) (by decide) dX0_crowdIn_37 ?_
          refine V.iload_n (pc := 38) C 3 rfl dX0_crowdIn_38 ?_
          refine V.ishl (pc := 39) C dX0_crowdIn_39 ?_
          refine V.ior (pc := 40) C dX0_crowdIn_40 ?_
          refine V.istore_n (pc := 41) (lv' := [(2, .int (v2 ||| (jshl (nI 1) v3))), (0, .ref (gA G c0)), (1, .int v1), (3, .int v3)]) C (by decide) rfl dX0_crowdIn_41 ?_
          refine V.iinc (pc := 42) (lv' := [(3, .int (v3 + (nI 1))), (2, .int (v2 ||| (jshl (nI 1) v3))), (0, .ref (gA G c0)), (1, .int v1)]) C (v3 + (nI 1)) 3 rfl rfl (by decide) rfl dX0_crowdIn_42 ?_
          refine V.goto (pc := 45) C 4 (by decide) dX0_crowdIn_45 ?_
          refine V.sub C [2, 3, 1, 0] (lv' := [(0, .ref (gA G c0)), (1, .int v1), (2, .int (v2 ||| (jshl (nI 1) v3))), (3, .int (v3 + (nI 1)))]) rfl ?_
          exact ih _ _ _ _ hf
        · refine V.ic_neT (pc := 33) C 42 h4 (by decide) dX0_crowdIn_33 ?_
          refine V.iinc (pc := 42) (lv' := [(3, .int (v3 + (nI 1))), (0, .ref (gA G c0)), (1, .int v1), (2, .int v2)]) C (v3 + (nI 1)) 3 rfl rfl (by decide) rfl dX0_crowdIn_42 ?_
          refine V.goto (pc := 45) C 4 (by decide) dX0_crowdIn_45 ?_
          refine V.sub C [1, 2, 3, 0] (lv' := [(0, .ref (gA G c0)), (1, .int v1), (2, .int v2), (3, .int (v3 + (nI 1)))]) rfl ?_
          exact ih _ _ _ _ hf
      · refine V.ic_neT (pc := 19) C 42 h2 (by decide) dX0_crowdIn_19 ?_
        refine V.iinc (pc := 42) (lv' := [(3, .int (v3 + (nI 1))), (0, .ref (gA G c0)), (1, .int v1), (2, .int v2)]) C (v3 + (nI 1)) 3 rfl rfl (by decide) rfl dX0_crowdIn_42 ?_
        refine V.goto (pc := 45) C 4 (by decide) dX0_crowdIn_45 ?_
        refine V.sub C [1, 2, 3, 0] (lv' := [(0, .ref (gA G c0)), (1, .int v1), (2, .int v2), (3, .int (v3 + (nI 1)))]) rfl ?_
        exact ih _ _ _ _ hf
def fX0_crowdIn (c0 : Nat) (x1 : Int32) (M : Mm) : Option (Int32 × Mm) :=
fX0_crowdIn_b4 c0 fu x1 (nI 0) (nI 0) M
set_option maxHeartbeats 4000000 in
set_option maxRecDepth 100000 in
theorem mX0_crowdIn (l : Launch) {G : Rg} (hG : gS G = shX) {c0 : Nat} {x1 : Int32} (hB0 : isB G c0) {M Mf : Mm} {r : Int32} (hf : fX0_crowdIn c0 x1 M = some (r, Mf)) : Mt l G yX0_crowdIn cX0_crowdIn 4 (some .int) 0 0 [.ref (gA G c0), .int x1] M (some (.int r)) Mf := by
  refine Mt.of (by decide) (Nat.le_of_ble_eq_true rfl) ?_
  intro X C hX
  subst hX
  have C : cxX0_crowdIn G X := C
  show V G X 4 (some (.int r)) Mf 0 [(0, .ref (gA G c0)), (1, .int x1)] [] M
  rw [fX0_crowdIn] at hf
  refine V.iconst (pc := 0) C (nI 0) (by decide) dX0_crowdIn_0 ?_
  refine V.istore_n (pc := 1) (lv' := [(2, .int (nI 0)), (0, .ref (gA G c0)), (1, .int x1)]) C (by decide) rfl dX0_crowdIn_1 ?_
  refine V.iconst (pc := 2) C (nI 0) (by decide) dX0_crowdIn_2 ?_
  refine V.istore_n (pc := 3) (lv' := [(3, .int (nI 0)), (2, .int (nI 0)), (0, .ref (gA G c0)), (1, .int x1)]) C (by decide) rfl dX0_crowdIn_3 ?_
  refine V.sub C [2, 3, 1, 0] (lv' := [(0, .ref (gA G c0)), (1, .int x1), (2, .int (nI 0)), (3, .int (nI 0))]) rfl ?_
  exact vX0_crowdIn_b4 C hG hB0  fu _ _ _ _ hf
theorem dX0_worth_0 : decode cX0_worth 0 = .ok (.aload_n 0, 1) := by decide +kernel
theorem dX0_worth_1 : decode cX0_worth 1 = .ok (.getfield 22, 3) := by decide +kernel
theorem dX0_worth_4 : decode cX0_worth 4 = .ok (.aload_n 0, 1) := by decide +kernel
theorem dX0_worth_5 : decode cX0_worth 5 = .ok (.getfield 15, 3) := by decide +kernel
theorem dX0_worth_8 : decode cX0_worth 8 = .ok (.iload_n 1, 1) := by decide +kernel
theorem dX0_worth_9 : decode cX0_worth 9 = .ok (.iaload, 1) := by decide +kernel
theorem dX0_worth_10 : decode cX0_worth 10 = .ok (.iaload, 1) := by decide +kernel
theorem dX0_worth_11 : decode cX0_worth 11 = .ok (.ireturn, 1) := by decide +kernel
abbrev cxX0_worth (G : Rg) (X : Ct) : Prop := Cx G X cX0_worth 2 RX0 (some .int) 0 0 (Cond.code yX0_worth cX0_worth 2 (some .int))
def fX0_worth (c0 : Nat) (x1 : Int32) (M : Mm) : Option (Int32 × Mm) :=
gd (inb x1 12) (
gd (inb (M.1 (c0 + 1) x1.toNatClampNeg) 6) (
some ((M.1 (c0 + 3) (M.1 (c0 + 1) x1.toNatClampNeg).toNatClampNeg), M)))
set_option maxHeartbeats 4000000 in
set_option maxRecDepth 100000 in
theorem mX0_worth (l : Launch) {G : Rg} (hG : gS G = shX) {c0 : Nat} {x1 : Int32} (hB0 : isB G c0) {M Mf : Mm} {r : Int32} (hf : fX0_worth c0 x1 M = some (r, Mf)) : Mt l G yX0_worth cX0_worth 2 (some .int) 0 0 [.ref (gA G c0), .int x1] M (some (.int r)) Mf := by
  refine Mt.of (by decide) (Nat.le_of_ble_eq_true rfl) ?_
  intro X C hX
  subst hX
  have C : cxX0_worth G X := C
  show V G X 2 (some (.int r)) Mf 0 [(0, .ref (gA G c0)), (1, .int x1)] [] M
  rw [fX0_worth] at hf
  refine V.aload_n (pc := 0) C 0 rfl dX0_worth_0 ?_
  refine V.getR (pc := 1) C clX0 inX0 hB0.1 6 (by decide) wF_X0_22 rfl dX0_worth_1 ?_
  refine V.aload_n (pc := 4) C 0 rfl dX0_worth_4 ?_
  refine V.getR (pc := 5) C clX0 inX0 hB0.1 4 (by decide) wF_X0_15 rfl dX0_worth_5 ?_
  refine V.iload_n (pc := 8) C 1 rfl dX0_worth_8 ?_
  obtain ⟨g1, hf⟩ := gd_some hf
  refine V.iald (pc := 9) C hB0.2.1 (inb_in g1) dX0_worth_9 ?_
  obtain ⟨g2, hf⟩ := gd_some hf
  refine V.iald (pc := 10) C hB0.2.2.2.1 (inb_in g2) dX0_worth_10 ?_
  exact V.retI (pc := 11) C hf dX0_worth_11
theorem dX0_lead_0 : decode cX0_lead 0 = .ok (.iconst 0, 1) := by decide +kernel
theorem dX0_lead_1 : decode cX0_lead 1 = .ok (.istore_n 2, 1) := by decide +kernel
theorem dX0_lead_2 : decode cX0_lead 2 = .ok (.iconst 0, 1) := by decide +kernel
theorem dX0_lead_3 : decode cX0_lead 3 = .ok (.istore_n 3, 1) := by decide +kernel
theorem dX0_lead_4 : decode cX0_lead 4 = .ok (.iload_n 3, 1) := by decide +kernel
theorem dX0_lead_5 : decode cX0_lead 5 = .ok (.bipush 12, 2) := by decide +kernel
theorem dX0_lead_7 : decode cX0_lead 7 = .ok (.if_icmp .ge 45, 3) := by decide +kernel
theorem dX0_lead_10 : decode cX0_lead 10 = .ok (.iload_n 1, 1) := by decide +kernel
theorem dX0_lead_11 : decode cX0_lead 11 = .ok (.aload_n 0, 1) := by decide +kernel
theorem dX0_lead_12 : decode cX0_lead 12 = .ok (.getfield 28, 3) := by decide +kernel
theorem dX0_lead_15 : decode cX0_lead 15 = .ok (.iand, 1) := by decide +kernel
theorem dX0_lead_16 : decode cX0_lead 16 = .ok (.iconst 1, 1) := by decide +kernel
theorem dX0_lead_17 : decode cX0_lead 17 = .ok (.iload_n 3, 1) := by decide +kernel
theorem dX0_lead_18 : decode cX0_lead 18 = .ok (.ishl, 1) := by decide +kernel
theorem dX0_lead_19 : decode cX0_lead 19 = .ok (.iand, 1) := by decide +kernel
theorem dX0_lead_20 : decode cX0_lead 20 = .ok (.ifCond .eq 26, 3) := by decide +kernel
theorem dX0_lead_23 : decode cX0_lead 23 = .ok (.iload_n 2, 1) := by decide +kernel
theorem dX0_lead_24 : decode cX0_lead 24 = .ok (.iload_n 3, 1) := by decide +kernel
theorem dX0_lead_25 : decode cX0_lead 25 = .ok (.bipush 6, 2) := by decide +kernel
theorem dX0_lead_27 : decode cX0_lead 27 = .ok (.if_icmp .ge 11, 3) := by decide +kernel
theorem dX0_lead_30 : decode cX0_lead 30 = .ok (.aload_n 0, 1) := by decide +kernel
theorem dX0_lead_31 : decode cX0_lead 31 = .ok (.iload_n 3, 1) := by decide +kernel
theorem dX0_lead_32 : decode cX0_lead 32 = .ok (.invokevirtual 47, 3) := by decide +kernel
theorem dX0_lead_35 : decode cX0_lead 35 = .ok (.goto 9, 3) := by decide +kernel
theorem dX0_lead_38 : decode cX0_lead 38 = .ok (.aload_n 0, 1) := by decide +kernel
theorem dX0_lead_39 : decode cX0_lead 39 = .ok (.iload_n 3, 1) := by decide +kernel
theorem dX0_lead_40 : decode cX0_lead 40 = .ok (.invokevirtual 47, 3) := by decide +kernel
theorem dX0_lead_43 : decode cX0_lead 43 = .ok (.ineg, 1) := by decide +kernel
theorem dX0_lead_44 : decode cX0_lead 44 = .ok (.iadd, 1) := by decide +kernel
theorem dX0_lead_45 : decode cX0_lead 45 = .ok (.istore_n 2, 1) := by decide +kernel
theorem dX0_lead_46 : decode cX0_lead 46 = .ok (.iinc 3 1, 3) := by decide +kernel
theorem dX0_lead_49 : decode cX0_lead 49 = .ok (.goto (-45), 3) := by decide +kernel
theorem dX0_lead_52 : decode cX0_lead 52 = .ok (.iload_n 2, 1) := by decide +kernel
theorem dX0_lead_53 : decode cX0_lead 53 = .ok (.ireturn, 1) := by decide +kernel
abbrev cxX0_lead (G : Rg) (X : Ct) : Prop := Cx G X cX0_lead 4 RX0 (some .int) 1 21 (Cond.code yX0_lead cX0_lead 4 (some .int))
def fX0_lead_b4  (c0 : Nat) : Nat → Int32 → Int32 → Int32 → Mm → Option (Int32 × Mm)
  | 0, _, _, _, _ => none
  | n + 1, v1, v2, v3, M =>
    if (nI 12) ≤ v3 then
    (some (v2, M))
    else
    (if ((v1 &&& (M.1 c0 0)) &&& (jshl (nI 1) v3)) = (nI 0) then
    (fX0_lead_b4 c0 n v1 v2 (v3 + (nI 1)) M)
    else
    (if (nI 6) ≤ v3 then
    (bd (fX0_worth c0 v3 M) fun r4 M4 =>
    fX0_lead_b4 c0 n v1 (v2 + (-r4)) (v3 + (nI 1)) M4)
    else
    (bd (fX0_worth c0 v3 M) fun r5 M5 =>
    fX0_lead_b4 c0 n v1 (v2 + r5) (v3 + (nI 1)) M5)))
set_option maxHeartbeats 4000000 in
set_option maxRecDepth 100000 in
theorem vX0_lead_b4 {G : Rg} {X : Ct} {r : Int32} {Mf : Mm} {c0 : Nat}  (C : cxX0_lead G X) (hG : gS G = shX) (hB0 : isB G c0)  : ∀ (n : Nat) (v1 : Int32) (v2 : Int32) (v3 : Int32) (M : Mm), fX0_lead_b4 c0 n v1 v2 v3 M = some (r, Mf) → V G X 4 (some (.int r)) Mf 4 [(0, .ref (gA G c0)), (1, .int v1), (2, .int v2), (3, .int v3)] [] M := by
  intro n
  induction n with
  | zero => intro v1 v2 v3 M hf; rw [fX0_lead_b4] at hf; cases hf
  | succ n ih =>
    intro v1 v2 v3 M hf
    rw [fX0_lead_b4] at hf
    refine V.iload_n (pc := 4) C 3 rfl dX0_lead_4 ?_
    refine V.bipush (pc := 5) C (nI 12) (by decide) dX0_lead_5 ?_
    rcases it_some hf with ⟨h1, hf⟩ | ⟨h1, hf⟩
    · refine V.ic_geT (pc := 7) C 52 h1 (by decide) dX0_lead_7 ?_
      refine V.iload_n (pc := 52) C 2 rfl dX0_lead_52 ?_
      exact V.retI (pc := 53) C hf dX0_lead_53
    · refine V.ic_geF (pc := 7) C 52 h1 (by decide) dX0_lead_7 ?_
      refine V.iload_n (pc := 10) C 1 rfl dX0_lead_10 ?_
      refine V.aload_n (pc := 11) C 0 rfl dX0_lead_11 ?_
      refine V.getI (pc := 12) C clX0 inX0 hB0.1 0 (by decide) wF_X0_28 rfl dX0_lead_12 ?_
      refine V.iand (pc := 15) C dX0_lead_15 ?_
      refine V.iconst (pc := 16) C (nI 1) (by decide) dX0_lead_16 ?_
      refine V.iload_n (pc := 17) C 3 rfl dX0_lead_17 ?_
      refine V.ishl (pc := 18) C dX0_lead_18 ?_
      refine V.iand (pc := 19) C dX0_lead_19 ?_
      rcases it_some hf with ⟨h2, hf⟩ | ⟨h2, hf⟩
      · refine V.if_eqT (pc := 20) C 46 h2 (by decide) dX0_lead_20 ?_
        refine V.iinc (pc := 46) (lv' := [(3, .int (v3 + (nI 1))), (0, .ref (gA G c0)), (1, .int v1), (2, .int v2)]) C (v3 + (nI 1)) 3 rfl rfl (by decide) rfl dX0_lead_46 ?_
        refine V.goto (pc := 49) C 4 (by decide) dX0_lead_49 ?_
        refine V.sub C [1, 2, 3, 0] (lv' := [(0, .ref (gA G c0)), (1, .int v1), (2, .int v2), (3, .int (v3 + (nI 1)))]) rfl ?_
        exact ih _ _ _ _ hf
      · refine V.if_eqF (pc := 20) C 46 h2 (by decide) dX0_lead_20 ?_
        refine V.iload_n (pc := 23) C 2 rfl dX0_lead_23 ?_
        refine V.iload_n (pc := 24) C 3 rfl dX0_lead_24 ?_
        refine V.bipush (pc := 25) C (nI 6) (by decide) dX0_lead_25 ?_
        rcases it_some hf with ⟨h3, hf⟩ | ⟨h3, hf⟩
        · refine V.ic_geT (pc := 27) C 38 h3 (by decide) dX0_lead_27 ?_
          refine V.aload_n (pc := 38) C 0 rfl dX0_lead_38 ?_
          refine V.iload_n (pc := 39) C 3 rfl dX0_lead_39 ?_
          obtain ⟨r4, M4, h4, hf⟩ := bd_some hf
          refine V.callVi (pc := 40) (As := [.int v3]) (rest := [.int v2]) C (mX0_worth X.2.1 hG hB0 h4) mf_X0_worth clX0 hB0.1 wM_X0_47 rfl rfl ⟨by decide, by decide⟩ (Nat.le_of_ble_eq_true rfl) dX0_lead_40 ?_
          refine V.ineg (pc := 43) C dX0_lead_43 ?_
          refine V.iadd (pc := 44) C dX0_lead_44 ?_
          refine V.istore_n (pc := 45) (lv' := [(2, .int (v2 + (-r4))), (0, .ref (gA G c0)), (1, .int v1), (3, .int v3)]) C (by decide) rfl dX0_lead_45 ?_
          refine V.iinc (pc := 46) (lv' := [(3, .int (v3 + (nI 1))), (2, .int (v2 + (-r4))), (0, .ref (gA G c0)), (1, .int v1)]) C (v3 + (nI 1)) 3 rfl rfl (by decide) rfl dX0_lead_46 ?_
          refine V.goto (pc := 49) C 4 (by decide) dX0_lead_49 ?_
          refine V.sub C [2, 3, 1, 0] (lv' := [(0, .ref (gA G c0)), (1, .int v1), (2, .int (v2 + (-r4))), (3, .int (v3 + (nI 1)))]) rfl ?_
          exact ih _ _ _ _ hf
        · refine V.ic_geF (pc := 27) C 38 h3 (by decide) dX0_lead_27 ?_
          refine V.aload_n (pc := 30) C 0 rfl dX0_lead_30 ?_
          refine V.iload_n (pc := 31) C 3 rfl dX0_lead_31 ?_
          obtain ⟨r5, M5, h5, hf⟩ := bd_some hf
          refine V.callVi (pc := 32) (As := [.int v3]) (rest := [.int v2]) C (mX0_worth X.2.1 hG hB0 h5) mf_X0_worth clX0 hB0.1 wM_X0_47 rfl rfl ⟨by decide, by decide⟩ (Nat.le_of_ble_eq_true rfl) dX0_lead_32 ?_
          refine V.goto (pc := 35) C 44 (by decide) dX0_lead_35 ?_
          refine V.iadd (pc := 44) C dX0_lead_44 ?_
          refine V.istore_n (pc := 45) (lv' := [(2, .int (v2 + r5)), (0, .ref (gA G c0)), (1, .int v1), (3, .int v3)]) C (by decide) rfl dX0_lead_45 ?_
          refine V.iinc (pc := 46) (lv' := [(3, .int (v3 + (nI 1))), (2, .int (v2 + r5)), (0, .ref (gA G c0)), (1, .int v1)]) C (v3 + (nI 1)) 3 rfl rfl (by decide) rfl dX0_lead_46 ?_
          refine V.goto (pc := 49) C 4 (by decide) dX0_lead_49 ?_
          refine V.sub C [2, 3, 1, 0] (lv' := [(0, .ref (gA G c0)), (1, .int v1), (2, .int (v2 + r5)), (3, .int (v3 + (nI 1)))]) rfl ?_
          exact ih _ _ _ _ hf
def fX0_lead (c0 : Nat) (x1 : Int32) (M : Mm) : Option (Int32 × Mm) :=
fX0_lead_b4 c0 fu x1 (nI 0) (nI 0) M
set_option maxHeartbeats 4000000 in
set_option maxRecDepth 100000 in
theorem mX0_lead (l : Launch) {G : Rg} (hG : gS G = shX) {c0 : Nat} {x1 : Int32} (hB0 : isB G c0) {M Mf : Mm} {r : Int32} (hf : fX0_lead c0 x1 M = some (r, Mf)) : Mt l G yX0_lead cX0_lead 4 (some .int) 1 21 [.ref (gA G c0), .int x1] M (some (.int r)) Mf := by
  refine Mt.of (by decide) (Nat.le_of_ble_eq_true rfl) ?_
  intro X C hX
  subst hX
  have C : cxX0_lead G X := C
  show V G X 4 (some (.int r)) Mf 0 [(0, .ref (gA G c0)), (1, .int x1)] [] M
  rw [fX0_lead] at hf
  refine V.iconst (pc := 0) C (nI 0) (by decide) dX0_lead_0 ?_
  refine V.istore_n (pc := 1) (lv' := [(2, .int (nI 0)), (0, .ref (gA G c0)), (1, .int x1)]) C (by decide) rfl dX0_lead_1 ?_
  refine V.iconst (pc := 2) C (nI 0) (by decide) dX0_lead_2 ?_
  refine V.istore_n (pc := 3) (lv' := [(3, .int (nI 0)), (2, .int (nI 0)), (0, .ref (gA G c0)), (1, .int x1)]) C (by decide) rfl dX0_lead_3 ?_
  refine V.sub C [2, 3, 1, 0] (lv' := [(0, .ref (gA G c0)), (1, .int x1), (2, .int (nI 0)), (3, .int (nI 0))]) rfl ?_
  exact vX0_lead_b4 C hG hB0  fu _ _ _ _ hf
theorem dX0_whyNoExchange_0 : decode cX0_whyNoExchange 0 = .ok (.iload_n 1, 1) := by decide +kernel
theorem dX0_whyNoExchange_1 : decode cX0_whyNoExchange 1 = .ok (.aload_n 0, 1) := by decide +kernel
theorem dX0_whyNoExchange_2 : decode cX0_whyNoExchange 2 = .ok (.getfield 28, 3) := by decide +kernel
theorem dX0_whyNoExchange_5 : decode cX0_whyNoExchange 5 = .ok (.iconst (-1), 1) := by decide +kernel
theorem dX0_whyNoExchange_6 : decode cX0_whyNoExchange 6 = .ok (.ixor, 1) := by decide +kernel
theorem dX0_whyNoExchange_7 : decode cX0_whyNoExchange 7 = .ok (.iand, 1) := by decide +kernel
theorem dX0_whyNoExchange_8 : decode cX0_whyNoExchange 8 = .ok (.ifCond .eq 5, 3) := by decide +kernel
theorem dX0_whyNoExchange_11 : decode cX0_whyNoExchange 11 = .ok (.iconst 1, 1) := by decide +kernel
theorem dX0_whyNoExchange_12 : decode cX0_whyNoExchange 12 = .ok (.ireturn, 1) := by decide +kernel
theorem dX0_whyNoExchange_13 : decode cX0_whyNoExchange 13 = .ok (.iload_n 2, 1) := by decide +kernel
theorem dX0_whyNoExchange_14 : decode cX0_whyNoExchange 14 = .ok (.ifCond .eq 5, 3) := by decide +kernel
theorem dX0_whyNoExchange_17 : decode cX0_whyNoExchange 17 = .ok (.iconst 2, 1) := by decide +kernel
theorem dX0_whyNoExchange_18 : decode cX0_whyNoExchange 18 = .ok (.ireturn, 1) := by decide +kernel
theorem dX0_whyNoExchange_19 : decode cX0_whyNoExchange 19 = .ok (.iload_n 1, 1) := by decide +kernel
theorem dX0_whyNoExchange_20 : decode cX0_whyNoExchange 20 = .ok (.aload_n 0, 1) := by decide +kernel
theorem dX0_whyNoExchange_21 : decode cX0_whyNoExchange 21 = .ok (.bipush 7, 2) := by decide +kernel
theorem dX0_whyNoExchange_23 : decode cX0_whyNoExchange 23 = .ok (.invokevirtual 43, 3) := by decide +kernel
theorem dX0_whyNoExchange_26 : decode cX0_whyNoExchange 26 = .ok (.iconst (-1), 1) := by decide +kernel
theorem dX0_whyNoExchange_27 : decode cX0_whyNoExchange 27 = .ok (.ixor, 1) := by decide +kernel
theorem dX0_whyNoExchange_28 : decode cX0_whyNoExchange 28 = .ok (.iand, 1) := by decide +kernel
theorem dX0_whyNoExchange_29 : decode cX0_whyNoExchange 29 = .ok (.ifCond .eq 5, 3) := by decide +kernel
theorem dX0_whyNoExchange_32 : decode cX0_whyNoExchange 32 = .ok (.iconst 3, 1) := by decide +kernel
theorem dX0_whyNoExchange_33 : decode cX0_whyNoExchange 33 = .ok (.ireturn, 1) := by decide +kernel
theorem dX0_whyNoExchange_34 : decode cX0_whyNoExchange 34 = .ok (.aload_n 0, 1) := by decide +kernel
theorem dX0_whyNoExchange_35 : decode cX0_whyNoExchange 35 = .ok (.getfield 9, 3) := by decide +kernel
theorem dX0_whyNoExchange_38 : decode cX0_whyNoExchange 38 = .ok (.ifCond .ne 5, 3) := by decide +kernel
theorem dX0_whyNoExchange_41 : decode cX0_whyNoExchange 41 = .ok (.iconst 5, 1) := by decide +kernel
theorem dX0_whyNoExchange_42 : decode cX0_whyNoExchange 42 = .ok (.ireturn, 1) := by decide +kernel
theorem dX0_whyNoExchange_43 : decode cX0_whyNoExchange 43 = .ok (.aload_n 0, 1) := by decide +kernel
theorem dX0_whyNoExchange_44 : decode cX0_whyNoExchange 44 = .ok (.iload_n 1, 1) := by decide +kernel
theorem dX0_whyNoExchange_45 : decode cX0_whyNoExchange 45 = .ok (.invokevirtual 57, 3) := by decide +kernel
theorem dX0_whyNoExchange_48 : decode cX0_whyNoExchange 48 = .ok (.ifCond .ne 7, 3) := by decide +kernel
theorem dX0_whyNoExchange_51 : decode cX0_whyNoExchange 51 = .ok (.iconst 0, 1) := by decide +kernel
theorem dX0_whyNoExchange_52 : decode cX0_whyNoExchange 52 = .ok (.goto 5, 3) := by decide +kernel
theorem dX0_whyNoExchange_55 : decode cX0_whyNoExchange 55 = .ok (.bipush 6, 2) := by decide +kernel
theorem dX0_whyNoExchange_57 : decode cX0_whyNoExchange 57 = .ok (.ireturn, 1) := by decide +kernel
abbrev cxX0_whyNoExchange (G : Rg) (X : Ct) : Prop := Cx G X cX0_whyNoExchange 3 RX0 (some .int) 2 44 (Cond.code yX0_whyNoExchange cX0_whyNoExchange 3 (some .int))
def fX0_whyNoExchange (c0 : Nat) (x1 : Int32) (x2 : Int32) (M : Mm) : Option (Int32 × Mm) :=
if (x1 &&& ((M.1 c0 0) ^^^ (mI 1))) = (nI 0) then
(if x2 = (nI 0) then
(bd (fX0_crowdIn c0 (nI 7) M) fun r3 M3 =>
if (x1 &&& (r3 ^^^ (mI 1))) = (nI 0) then
(if (M3.1 c0 1) = (nI 0) then
(some ((nI 5), M3))
else
(bd (fX0_lead c0 x1 M3) fun r6 M6 =>
if r6 = (nI 0) then
(some ((nI 0), M6))
else
(some ((nI 6), M6))))
else
(some ((nI 3), M3)))
else
(some ((nI 2), M)))
else
(some ((nI 1), M))
set_option maxHeartbeats 4000000 in
set_option maxRecDepth 100000 in
theorem mX0_whyNoExchange (l : Launch) {G : Rg} (hG : gS G = shX) {c0 : Nat} {x1 : Int32} {x2 : Int32} (hB0 : isB G c0) {M Mf : Mm} {r : Int32} (hf : fX0_whyNoExchange c0 x1 x2 M = some (r, Mf)) : Mt l G yX0_whyNoExchange cX0_whyNoExchange 3 (some .int) 2 44 [.ref (gA G c0), .int x1, .int x2] M (some (.int r)) Mf := by
  refine Mt.of (by decide) (Nat.le_of_ble_eq_true rfl) ?_
  intro X C hX
  subst hX
  have C : cxX0_whyNoExchange G X := C
  show V G X 3 (some (.int r)) Mf 0 [(0, .ref (gA G c0)), (1, .int x1), (2, .int x2)] [] M
  rw [fX0_whyNoExchange] at hf
  refine V.iload_n (pc := 0) C 1 rfl dX0_whyNoExchange_0 ?_
  refine V.aload_n (pc := 1) C 0 rfl dX0_whyNoExchange_1 ?_
  refine V.getI (pc := 2) C clX0 inX0 hB0.1 0 (by decide) wF_X0_28 rfl dX0_whyNoExchange_2 ?_
  refine V.iconst (pc := 5) C (mI 1) (by decide) dX0_whyNoExchange_5 ?_
  refine V.ixor (pc := 6) C dX0_whyNoExchange_6 ?_
  refine V.iand (pc := 7) C dX0_whyNoExchange_7 ?_
  rcases it_some hf with ⟨h1, hf⟩ | ⟨h1, hf⟩
  · refine V.if_eqT (pc := 8) C 13 h1 (by decide) dX0_whyNoExchange_8 ?_
    refine V.iload_n (pc := 13) C 2 rfl dX0_whyNoExchange_13 ?_
    rcases it_some hf with ⟨h2, hf⟩ | ⟨h2, hf⟩
    · refine V.if_eqT (pc := 14) C 19 h2 (by decide) dX0_whyNoExchange_14 ?_
      refine V.iload_n (pc := 19) C 1 rfl dX0_whyNoExchange_19 ?_
      refine V.aload_n (pc := 20) C 0 rfl dX0_whyNoExchange_20 ?_
      refine V.bipush (pc := 21) C (nI 7) (by decide) dX0_whyNoExchange_21 ?_
      obtain ⟨r3, M3, h3, hf⟩ := bd_some hf
      refine V.callVi (pc := 23) (As := [.int (nI 7)]) (rest := [.int x1]) C (mX0_crowdIn X.2.1 hG hB0 h3) mf_X0_crowdIn clX0 hB0.1 wM_X0_43 rfl rfl ⟨by decide, by decide⟩ (Nat.le_of_ble_eq_true rfl) dX0_whyNoExchange_23 ?_
      refine V.iconst (pc := 26) C (mI 1) (by decide) dX0_whyNoExchange_26 ?_
      refine V.ixor (pc := 27) C dX0_whyNoExchange_27 ?_
      refine V.iand (pc := 28) C dX0_whyNoExchange_28 ?_
      rcases it_some hf with ⟨h4, hf⟩ | ⟨h4, hf⟩
      · refine V.if_eqT (pc := 29) C 34 h4 (by decide) dX0_whyNoExchange_29 ?_
        refine V.aload_n (pc := 34) C 0 rfl dX0_whyNoExchange_34 ?_
        refine V.getI (pc := 35) C clX0 inX0 hB0.1 1 (by decide) wF_X0_9 rfl dX0_whyNoExchange_35 ?_
        rcases it_some hf with ⟨h5, hf⟩ | ⟨h5, hf⟩
        · refine V.if_neF (pc := 38) C 43 h5 (by decide) dX0_whyNoExchange_38 ?_
          refine V.iconst (pc := 41) C (nI 5) (by decide) dX0_whyNoExchange_41 ?_
          exact V.retI (pc := 42) C hf dX0_whyNoExchange_42
        · refine V.if_neT (pc := 38) C 43 h5 (by decide) dX0_whyNoExchange_38 ?_
          refine V.aload_n (pc := 43) C 0 rfl dX0_whyNoExchange_43 ?_
          refine V.iload_n (pc := 44) C 1 rfl dX0_whyNoExchange_44 ?_
          obtain ⟨r6, M6, h6, hf⟩ := bd_some hf
          refine V.callVi (pc := 45) (As := [.int x1]) (rest := []) C (mX0_lead X.2.1 hG hB0 h6) mf_X0_lead clX0 hB0.1 wM_X0_57 rfl rfl ⟨by decide, by decide⟩ (Nat.le_of_ble_eq_true rfl) dX0_whyNoExchange_45 ?_
          rcases it_some hf with ⟨h7, hf⟩ | ⟨h7, hf⟩
          · refine V.if_neF (pc := 48) C 55 h7 (by decide) dX0_whyNoExchange_48 ?_
            refine V.iconst (pc := 51) C (nI 0) (by decide) dX0_whyNoExchange_51 ?_
            refine V.goto (pc := 52) C 57 (by decide) dX0_whyNoExchange_52 ?_
            exact V.retI (pc := 57) C hf dX0_whyNoExchange_57
          · refine V.if_neT (pc := 48) C 55 h7 (by decide) dX0_whyNoExchange_48 ?_
            refine V.bipush (pc := 55) C (nI 6) (by decide) dX0_whyNoExchange_55 ?_
            exact V.retI (pc := 57) C hf dX0_whyNoExchange_57
      · refine V.if_eqF (pc := 29) C 34 h4 (by decide) dX0_whyNoExchange_29 ?_
        refine V.iconst (pc := 32) C (nI 3) (by decide) dX0_whyNoExchange_32 ?_
        exact V.retI (pc := 33) C hf dX0_whyNoExchange_33
    · refine V.if_eqF (pc := 14) C 19 h2 (by decide) dX0_whyNoExchange_14 ?_
      refine V.iconst (pc := 17) C (nI 2) (by decide) dX0_whyNoExchange_17 ?_
      exact V.retI (pc := 18) C hf dX0_whyNoExchange_18
  · refine V.if_eqF (pc := 8) C 13 h1 (by decide) dX0_whyNoExchange_8 ?_
    refine V.iconst (pc := 11) C (nI 1) (by decide) dX0_whyNoExchange_11 ?_
    exact V.retI (pc := 12) C hf dX0_whyNoExchange_12
theorem dX0_setFree_0 : decode cX0_setFree 0 = .ok (.iconst 0, 1) := by decide +kernel
theorem dX0_setFree_1 : decode cX0_setFree 1 = .ok (.istore_n 2, 1) := by decide +kernel
theorem dX0_setFree_2 : decode cX0_setFree 2 = .ok (.iload_n 2, 1) := by decide +kernel
theorem dX0_setFree_3 : decode cX0_setFree 3 = .ok (.bipush 12, 2) := by decide +kernel
theorem dX0_setFree_5 : decode cX0_setFree 5 = .ok (.if_icmp .ge 24, 3) := by decide +kernel
theorem dX0_setFree_8 : decode cX0_setFree 8 = .ok (.iload_n 1, 1) := by decide +kernel
theorem dX0_setFree_9 : decode cX0_setFree 9 = .ok (.iconst 1, 1) := by decide +kernel
theorem dX0_setFree_10 : decode cX0_setFree 10 = .ok (.iload_n 2, 1) := by decide +kernel
theorem dX0_setFree_11 : decode cX0_setFree 11 = .ok (.ishl, 1) := by decide +kernel
theorem dX0_setFree_12 : decode cX0_setFree 12 = .ok (.iand, 1) := by decide +kernel
theorem dX0_setFree_13 : decode cX0_setFree 13 = .ok (.ifCond .eq 10, 3) := by decide +kernel
theorem dX0_setFree_16 : decode cX0_setFree 16 = .ok (.aload_n 0, 1) := by decide +kernel
theorem dX0_setFree_17 : decode cX0_setFree 17 = .ok (.getfield 19, 3) := by decide +kernel
theorem dX0_setFree_20 : decode cX0_setFree 20 = .ok (.iload_n 2, 1) := by decide +kernel
theorem dX0_setFree_21 : decode cX0_setFree 21 = .ok (.iconst 3, 1) := by decide +kernel
theorem dX0_setFree_22 : decode cX0_setFree 22 = .ok (.iastore, 1) := by decide +kernel
theorem dX0_setFree_23 : decode cX0_setFree 23 = .ok (.iinc 2 1, 3) := by decide +kernel
theorem dX0_setFree_26 : decode cX0_setFree 26 = .ok (.goto (-24), 3) := by decide +kernel
theorem dX0_setFree_29 : decode cX0_setFree 29 = .ok (.aload_n 0, 1) := by decide +kernel
theorem dX0_setFree_30 : decode cX0_setFree 30 = .ok (.bipush 9, 2) := by decide +kernel
theorem dX0_setFree_32 : decode cX0_setFree 32 = .ok (.aload_n 0, 1) := by decide +kernel
theorem dX0_setFree_33 : decode cX0_setFree 33 = .ok (.getfield 9, 3) := by decide +kernel
theorem dX0_setFree_36 : decode cX0_setFree 36 = .ok (.iconst 1, 1) := by decide +kernel
theorem dX0_setFree_37 : decode cX0_setFree 37 = .ok (.iadd, 1) := by decide +kernel
theorem dX0_setFree_38 : decode cX0_setFree 38 = .ok (.invokestatic 66, 3) := by decide +kernel
theorem dX0_setFree_41 : decode cX0_setFree 41 = .ok (.putfield 9, 3) := by decide +kernel
theorem dX0_setFree_44 : decode cX0_setFree 44 = .ok (.return_, 1) := by decide +kernel
abbrev cxX0_setFree (G : Rg) (X : Ct) : Prop := Cx G X cX0_setFree 3 RX0 (none) 1 40 (Cond.code yX0_setFree cX0_setFree 3 (none))
def fX0_setFree_b29  (c0 : Nat) (M : Mm) : Option (Unit × Mm) :=
some ((), (sI M c0 1 (jmin (nI 9) ((M.1 c0 1) + (nI 1)))))
set_option maxHeartbeats 4000000 in
set_option maxRecDepth 100000 in
theorem vX0_setFree_b29 {G : Rg} {X : Ct} {r : Unit} {Mf : Mm} {c0 : Nat}  (C : cxX0_setFree G X) (hG : gS G = shX) (hB0 : isB G c0)  (M : Mm) (hf : fX0_setFree_b29 c0 M = some (r, Mf)) : V G X 3 none Mf 29 [(0, .ref (gA G c0))] [] M := by
  rw [fX0_setFree_b29] at hf
  refine V.aload_n (pc := 29) C 0 rfl dX0_setFree_29 ?_
  refine V.bipush (pc := 30) C (nI 9) (by decide) dX0_setFree_30 ?_
  refine V.aload_n (pc := 32) C 0 rfl dX0_setFree_32 ?_
  refine V.getI (pc := 33) C clX0 inX0 hB0.1 1 (by decide) wF_X0_9 rfl dX0_setFree_33 ?_
  refine V.iconst (pc := 36) C (nI 1) (by decide) dX0_setFree_36 ?_
  refine V.iadd (pc := 37) C dX0_setFree_37 ?_
  refine V.mmin (pc := 38) C mm_min wM_X0_66 (by decide) (Nat.le_of_ble_eq_true rfl) dX0_setFree_38 ?_
  refine V.putI (pc := 41) C clX0 inX0 hB0.1 1 (by decide) wF_X0_9 tyX0 tyX0_ok nmX0 rfl (tyX0_ok 1 (by decide)) rfl dX0_setFree_41 ?_
  exact V.retV (pc := 44) C hf dX0_setFree_44
def fX0_setFree_b2  (c0 : Nat) : Nat → Int32 → Int32 → Mm → Option (Unit × Mm)
  | 0, _, _, _ => none
  | n + 1, v1, v2, M =>
    if (nI 12) ≤ v2 then
    (fX0_setFree_b29 c0 M)
    else
    (if (v1 &&& (jshl (nI 1) v2)) = (nI 0) then
    (fX0_setFree_b2 c0 n v1 (v2 + (nI 1)) M)
    else
    (gd (inb v2 12) (
    fX0_setFree_b2 c0 n v1 (v2 + (nI 1)) (sI M (c0 + 2) v2.toNatClampNeg (nI 3)))))
set_option maxHeartbeats 4000000 in
set_option maxRecDepth 100000 in
theorem vX0_setFree_b2 {G : Rg} {X : Ct} {r : Unit} {Mf : Mm} {c0 : Nat}  (C : cxX0_setFree G X) (hG : gS G = shX) (hB0 : isB G c0)  : ∀ (n : Nat) (v1 : Int32) (v2 : Int32) (M : Mm), fX0_setFree_b2 c0 n v1 v2 M = some (r, Mf) → V G X 3 none Mf 2 [(0, .ref (gA G c0)), (1, .int v1), (2, .int v2)] [] M := by
  intro n
  induction n with
  | zero => intro v1 v2 M hf; rw [fX0_setFree_b2] at hf; cases hf
  | succ n ih =>
    intro v1 v2 M hf
    rw [fX0_setFree_b2] at hf
    refine V.iload_n (pc := 2) C 2 rfl dX0_setFree_2 ?_
    refine V.bipush (pc := 3) C (nI 12) (by decide) dX0_setFree_3 ?_
    rcases it_some hf with ⟨h1, hf⟩ | ⟨h1, hf⟩
    · refine V.ic_geT (pc := 5) C 29 h1 (by decide) dX0_setFree_5 ?_
      refine V.sub C [0] (lv' := [(0, .ref (gA G c0))]) rfl ?_
      exact vX0_setFree_b29 C hG hB0   _ hf
    · refine V.ic_geF (pc := 5) C 29 h1 (by decide) dX0_setFree_5 ?_
      refine V.iload_n (pc := 8) C 1 rfl dX0_setFree_8 ?_
      refine V.iconst (pc := 9) C (nI 1) (by decide) dX0_setFree_9 ?_
      refine V.iload_n (pc := 10) C 2 rfl dX0_setFree_10 ?_
      refine V.ishl (pc := 11) C dX0_setFree_11 ?_
      refine V.iand (pc := 12) C dX0_setFree_12 ?_
      rcases it_some hf with ⟨h2, hf⟩ | ⟨h2, hf⟩
      · refine V.if_eqT (pc := 13) C 23 h2 (by decide) dX0_setFree_13 ?_
        refine V.iinc (pc := 23) (lv' := [(2, .int (v2 + (nI 1))), (0, .ref (gA G c0)), (1, .int v1)]) C (v2 + (nI 1)) 2 rfl rfl (by decide) rfl dX0_setFree_23 ?_
        refine V.goto (pc := 26) C 2 (by decide) dX0_setFree_26 ?_
        refine V.sub C [1, 2, 0] (lv' := [(0, .ref (gA G c0)), (1, .int v1), (2, .int (v2 + (nI 1)))]) rfl ?_
        exact ih _ _ _ hf
      · refine V.if_eqF (pc := 13) C 23 h2 (by decide) dX0_setFree_13 ?_
        refine V.aload_n (pc := 16) C 0 rfl dX0_setFree_16 ?_
        refine V.getR (pc := 17) C clX0 inX0 hB0.1 5 (by decide) wF_X0_19 rfl dX0_setFree_17 ?_
        refine V.iload_n (pc := 20) C 2 rfl dX0_setFree_20 ?_
        refine V.iconst (pc := 21) C (nI 3) (by decide) dX0_setFree_21 ?_
        obtain ⟨g3, hf⟩ := gd_some hf
        refine V.iast (pc := 22) C hB0.2.2.1 (inb_in g3) dX0_setFree_22 ?_
        refine V.iinc (pc := 23) (lv' := [(2, .int (v2 + (nI 1))), (0, .ref (gA G c0)), (1, .int v1)]) C (v2 + (nI 1)) 2 rfl rfl (by decide) rfl dX0_setFree_23 ?_
        refine V.goto (pc := 26) C 2 (by decide) dX0_setFree_26 ?_
        refine V.sub C [1, 2, 0] (lv' := [(0, .ref (gA G c0)), (1, .int v1), (2, .int (v2 + (nI 1)))]) rfl ?_
        exact ih _ _ _ hf
def fX0_setFree (c0 : Nat) (x1 : Int32) (M : Mm) : Option (Unit × Mm) :=
fX0_setFree_b2 c0 fu x1 (nI 0) M
set_option maxHeartbeats 4000000 in
set_option maxRecDepth 100000 in
theorem mX0_setFree (l : Launch) {G : Rg} (hG : gS G = shX) {c0 : Nat} {x1 : Int32} (hB0 : isB G c0) {M Mf : Mm} {r : Unit} (hf : fX0_setFree c0 x1 M = some (r, Mf)) : Mt l G yX0_setFree cX0_setFree 3 (none) 1 40 [.ref (gA G c0), .int x1] M none Mf := by
  refine Mt.of (by decide) (Nat.le_of_ble_eq_true rfl) ?_
  intro X C hX
  subst hX
  have C : cxX0_setFree G X := C
  show V G X 3 none Mf 0 [(0, .ref (gA G c0)), (1, .int x1)] [] M
  rw [fX0_setFree] at hf
  refine V.iconst (pc := 0) C (nI 0) (by decide) dX0_setFree_0 ?_
  refine V.istore_n (pc := 1) (lv' := [(2, .int (nI 0)), (0, .ref (gA G c0)), (1, .int x1)]) C (by decide) rfl dX0_setFree_1 ?_
  refine V.sub C [1, 2, 0] (lv' := [(0, .ref (gA G c0)), (1, .int x1), (2, .int (nI 0))]) rfl ?_
  exact vX0_setFree_b2 C hG hB0  fu _ _ _ hf
theorem dX3_endExchange_0 : decode cX3_endExchange 0 = .ok (.aload_n 0, 1) := by decide +kernel
theorem dX3_endExchange_1 : decode cX3_endExchange 1 = .ok (.aload_n 0, 1) := by decide +kernel
theorem dX3_endExchange_2 : decode cX3_endExchange 2 = .ok (.getfield 12, 3) := by decide +kernel
theorem dX3_endExchange_5 : decode cX3_endExchange 5 = .ok (.aload_n 0, 1) := by decide +kernel
theorem dX3_endExchange_6 : decode cX3_endExchange 6 = .ok (.getfield 52, 3) := by decide +kernel
theorem dX3_endExchange_9 : decode cX3_endExchange 9 = .ok (.aload_n 0, 1) := by decide +kernel
theorem dX3_endExchange_10 : decode cX3_endExchange 10 = .ok (.getfield 55, 3) := by decide +kernel
theorem dX3_endExchange_13 : decode cX3_endExchange 13 = .ok (.invokevirtual 74, 3) := by decide +kernel
theorem dX3_endExchange_16 : decode cX3_endExchange 16 = .ok (.putfield 29, 3) := by decide +kernel
theorem dX3_endExchange_19 : decode cX3_endExchange 19 = .ok (.aload_n 0, 1) := by decide +kernel
theorem dX3_endExchange_20 : decode cX3_endExchange 20 = .ok (.getfield 29, 3) := by decide +kernel
theorem dX3_endExchange_23 : decode cX3_endExchange 23 = .ok (.ifCond .ne 34, 3) := by decide +kernel
theorem dX3_endExchange_26 : decode cX3_endExchange 26 = .ok (.aload_n 0, 1) := by decide +kernel
theorem dX3_endExchange_27 : decode cX3_endExchange 27 = .ok (.getfield 12, 3) := by decide +kernel
theorem dX3_endExchange_30 : decode cX3_endExchange 30 = .ok (.aload_n 0, 1) := by decide +kernel
theorem dX3_endExchange_31 : decode cX3_endExchange 31 = .ok (.getfield 52, 3) := by decide +kernel
theorem dX3_endExchange_34 : decode cX3_endExchange 34 = .ok (.invokevirtual 78, 3) := by decide +kernel
theorem dX3_endExchange_37 : decode cX3_endExchange 37 = .ok (.aload_n 0, 1) := by decide +kernel
theorem dX3_endExchange_38 : decode cX3_endExchange 38 = .ok (.dup, 1) := by decide +kernel
theorem dX3_endExchange_39 : decode cX3_endExchange 39 = .ok (.getfield 26, 3) := by decide +kernel
theorem dX3_endExchange_42 : decode cX3_endExchange 42 = .ok (.iconst 1, 1) := by decide +kernel
theorem dX3_endExchange_43 : decode cX3_endExchange 43 = .ok (.iadd, 1) := by decide +kernel
theorem dX3_endExchange_44 : decode cX3_endExchange 44 = .ok (.putfield 26, 3) := by decide +kernel
theorem dX3_endExchange_47 : decode cX3_endExchange 47 = .ok (.aload_n 0, 1) := by decide +kernel
theorem dX3_endExchange_48 : decode cX3_endExchange 48 = .ok (.dup, 1) := by decide +kernel
theorem dX3_endExchange_49 : decode cX3_endExchange 49 = .ok (.getfield 22, 3) := by decide +kernel
theorem dX3_endExchange_52 : decode cX3_endExchange 52 = .ok (.iconst 1, 1) := by decide +kernel
theorem dX3_endExchange_53 : decode cX3_endExchange 53 = .ok (.iadd, 1) := by decide +kernel
theorem dX3_endExchange_54 : decode cX3_endExchange 54 = .ok (.putfield 22, 3) := by decide +kernel
theorem dX3_endExchange_57 : decode cX3_endExchange 57 = .ok (.return_, 1) := by decide +kernel
abbrev cxX3_endExchange (G : Rg) (X : Ct) : Prop := Cx G X cX3_endExchange 1 RX3 (none) 3 66 (Cond.code yX3_endExchange cX3_endExchange 1 (none))
def fX3_endExchange  (M : Mm) : Option (Unit × Mm) :=
bd (fX0_whyNoExchange 9 (M.1 8 6) (M.1 8 7) M) fun r1 M1 =>
if ((sI M1 8 3 r1).1 8 3) = (nI 0) then
(bd (fX0_setFree 9 ((sI M1 8 3 r1).1 8 6) (sI M1 8 3 r1)) fun _ M3 =>
some ((), (sI (sI M3 8 2 ((M3.1 8 2) + (nI 1))) 8 1 (((sI M3 8 2 ((M3.1 8 2) + (nI 1))).1 8 1) + (nI 1)))))
else
(some ((), (sI M1 8 3 r1)))
set_option maxHeartbeats 4000000 in
set_option maxRecDepth 100000 in
theorem mX3_endExchange (l : Launch) {G : Rg} (hG : gS G = shX)   {M Mf : Mm} {r : Unit} (hf : fX3_endExchange  M = some (r, Mf)) : Mt l G yX3_endExchange cX3_endExchange 1 (none) 3 66 [.ref (gA G 8)] M none Mf := by
  refine Mt.of (by decide) (Nat.le_of_ble_eq_true rfl) ?_
  intro X C hX
  subst hX
  have C : cxX3_endExchange G X := C
  show V G X 1 none Mf 0 [(0, .ref (gA G 8))] [] M
  rw [fX3_endExchange] at hf
  refine V.aload_n (pc := 0) C 0 rfl dX3_endExchange_0 ?_
  refine V.aload_n (pc := 1) C 0 rfl dX3_endExchange_1 ?_
  refine V.getR (pc := 2) C clX3 inX3 (sx_8 hG) 0 (by decide) wF_X3_12 rfl dX3_endExchange_2 ?_
  refine V.aload_n (pc := 5) C 0 rfl dX3_endExchange_5 ?_
  refine V.getI (pc := 6) C clX3 inX3 (sx_8 hG) 6 (by decide) wF_X3_52 rfl dX3_endExchange_6 ?_
  refine V.aload_n (pc := 9) C 0 rfl dX3_endExchange_9 ?_
  refine V.getI (pc := 10) C clX3 inX3 (sx_8 hG) 7 (by decide) wF_X3_55 rfl dX3_endExchange_10 ?_
  obtain ⟨r1, M1, h1, hf⟩ := bd_some hf
  refine V.callVi (pc := 13) (As := [.int (M.1 8 6), .int (M.1 8 7)]) (rest := [.ref (gA G 8)]) C (mX0_whyNoExchange X.2.1 hG (bx_9 hG) h1) mf_X0_whyNoExchange clX0 (sx_9 hG) wM_X3_74 rfl rfl ⟨by decide, by decide⟩ (Nat.le_of_ble_eq_true rfl) dX3_endExchange_13 ?_
  refine V.putI (pc := 16) C clX3 inX3 (sx_8 hG) 3 (by decide) wF_X3_29 tyX3 tyX3_ok nmX3 rfl (tyX3_ok 3 (by decide)) rfl dX3_endExchange_16 ?_
  refine V.aload_n (pc := 19) C 0 rfl dX3_endExchange_19 ?_
  refine V.getI (pc := 20) C clX3 inX3 (sx_8 hG) 3 (by decide) wF_X3_29 rfl dX3_endExchange_20 ?_
  rcases it_some hf with ⟨h2, hf⟩ | ⟨h2, hf⟩
  · refine V.if_neF (pc := 23) C 57 h2 (by decide) dX3_endExchange_23 ?_
    refine V.aload_n (pc := 26) C 0 rfl dX3_endExchange_26 ?_
    refine V.getR (pc := 27) C clX3 inX3 (sx_8 hG) 0 (by decide) wF_X3_12 rfl dX3_endExchange_27 ?_
    refine V.aload_n (pc := 30) C 0 rfl dX3_endExchange_30 ?_
    refine V.getI (pc := 31) C clX3 inX3 (sx_8 hG) 6 (by decide) wF_X3_52 rfl dX3_endExchange_31 ?_
    obtain ⟨_, M3, h3, hf⟩ := bd_some hf
    refine V.callVv (pc := 34) (As := [.int ((sI M1 8 3 r1).1 8 6)]) (rest := []) C (mX0_setFree X.2.1 hG (bx_9 hG) h3) mf_X0_setFree clX0 (sx_9 hG) wM_X3_78 rfl rfl ⟨by decide, by decide⟩ (Nat.le_of_ble_eq_true rfl) dX3_endExchange_34 ?_
    refine V.aload_n (pc := 37) C 0 rfl dX3_endExchange_37 ?_
    refine V.dup (pc := 38) C rfl dX3_endExchange_38 ?_
    refine V.getI (pc := 39) C clX3 inX3 (sx_8 hG) 2 (by decide) wF_X3_26 rfl dX3_endExchange_39 ?_
    refine V.iconst (pc := 42) C (nI 1) (by decide) dX3_endExchange_42 ?_
    refine V.iadd (pc := 43) C dX3_endExchange_43 ?_
    refine V.putI (pc := 44) C clX3 inX3 (sx_8 hG) 2 (by decide) wF_X3_26 tyX3 tyX3_ok nmX3 rfl (tyX3_ok 2 (by decide)) rfl dX3_endExchange_44 ?_
    refine V.aload_n (pc := 47) C 0 rfl dX3_endExchange_47 ?_
    refine V.dup (pc := 48) C rfl dX3_endExchange_48 ?_
    refine V.getI (pc := 49) C clX3 inX3 (sx_8 hG) 1 (by decide) wF_X3_22 rfl dX3_endExchange_49 ?_
    refine V.iconst (pc := 52) C (nI 1) (by decide) dX3_endExchange_52 ?_
    refine V.iadd (pc := 53) C dX3_endExchange_53 ?_
    refine V.putI (pc := 54) C clX3 inX3 (sx_8 hG) 1 (by decide) wF_X3_22 tyX3 tyX3_ok nmX3 rfl (tyX3_ok 1 (by decide)) rfl dX3_endExchange_54 ?_
    exact V.retV (pc := 57) C hf dX3_endExchange_57
  · refine V.if_neT (pc := 23) C 57 h2 (by decide) dX3_endExchange_23 ?_
    exact V.retV (pc := 57) C hf dX3_endExchange_57
theorem dX3_gather_0 : decode cX3_gather 0 = .ok (.iload_n 1, 1) := by decide +kernel
theorem dX3_gather_1 : decode cX3_gather 1 = .ok (.ifCond .lt 40, 3) := by decide +kernel
theorem dX3_gather_4 : decode cX3_gather 4 = .ok (.aload_n 0, 1) := by decide +kernel
theorem dX3_gather_5 : decode cX3_gather 5 = .ok (.dup, 1) := by decide +kernel
theorem dX3_gather_6 : decode cX3_gather 6 = .ok (.getfield 55, 3) := by decide +kernel
theorem dX3_gather_9 : decode cX3_gather 9 = .ok (.aload_n 0, 1) := by decide +kernel
theorem dX3_gather_10 : decode cX3_gather 10 = .ok (.getfield 52, 3) := by decide +kernel
theorem dX3_gather_13 : decode cX3_gather 13 = .ok (.iconst 1, 1) := by decide +kernel
theorem dX3_gather_14 : decode cX3_gather 14 = .ok (.iload_n 1, 1) := by decide +kernel
theorem dX3_gather_15 : decode cX3_gather 15 = .ok (.ishl, 1) := by decide +kernel
theorem dX3_gather_16 : decode cX3_gather 16 = .ok (.iand, 1) := by decide +kernel
theorem dX3_gather_17 : decode cX3_gather 17 = .ok (.ifCond .eq 7, 3) := by decide +kernel
theorem dX3_gather_20 : decode cX3_gather 20 = .ok (.iconst 1, 1) := by decide +kernel
theorem dX3_gather_21 : decode cX3_gather 21 = .ok (.goto 4, 3) := by decide +kernel
theorem dX3_gather_24 : decode cX3_gather 24 = .ok (.iconst 0, 1) := by decide +kernel
theorem dX3_gather_25 : decode cX3_gather 25 = .ok (.ior, 1) := by decide +kernel
theorem dX3_gather_26 : decode cX3_gather 26 = .ok (.putfield 55, 3) := by decide +kernel
theorem dX3_gather_29 : decode cX3_gather 29 = .ok (.aload_n 0, 1) := by decide +kernel
theorem dX3_gather_30 : decode cX3_gather 30 = .ok (.dup, 1) := by decide +kernel
theorem dX3_gather_31 : decode cX3_gather 31 = .ok (.getfield 52, 3) := by decide +kernel
theorem dX3_gather_34 : decode cX3_gather 34 = .ok (.iconst 1, 1) := by decide +kernel
theorem dX3_gather_35 : decode cX3_gather 35 = .ok (.iload_n 1, 1) := by decide +kernel
theorem dX3_gather_36 : decode cX3_gather 36 = .ok (.ishl, 1) := by decide +kernel
theorem dX3_gather_37 : decode cX3_gather 37 = .ok (.ior, 1) := by decide +kernel
theorem dX3_gather_38 : decode cX3_gather 38 = .ok (.putfield 52, 3) := by decide +kernel
theorem dX3_gather_41 : decode cX3_gather 41 = .ok (.return_, 1) := by decide +kernel
abbrev cxX3_gather (G : Rg) (X : Ct) : Prop := Cx G X cX3_gather 2 RX3 (none) 0 0 (Cond.code yX3_gather cX3_gather 2 (none))
def fX3_gather_b25   (v1 : Int32) (s1 : Int32) (s2 : Int32) (M : Mm) : Option (Unit × Mm) :=
gd (decide ((s1 ||| s2) = nI 0 ∨ (s1 ||| s2) = nI 1)) (
some ((), (sI (sI M 8 7 (s1 ||| s2)) 8 6 (((sI M 8 7 (s1 ||| s2)).1 8 6) ||| (jshl (nI 1) v1)))))
set_option maxHeartbeats 4000000 in
set_option maxRecDepth 100000 in
theorem vX3_gather_b25 {G : Rg} {X : Ct} {r : Unit} {Mf : Mm}   (C : cxX3_gather G X) (hG : gS G = shX)   (v1 : Int32) (s1 : Int32) (s2 : Int32) (M : Mm) (hf : fX3_gather_b25 v1 s1 s2 M = some (r, Mf)) : V G X 2 none Mf 25 [(0, .ref (gA G 8)), (1, .int v1)] [.int s2, .int s1, .ref (gA G 8)] M := by
  rw [fX3_gather_b25] at hf
  refine V.ior (pc := 25) C dX3_gather_25 ?_
  obtain ⟨g1, hf⟩ := gd_some hf
  refine V.putZ (pc := 26) C clX3 inX3 (sx_8 hG) 7 (by decide) wF_X3_55 tyX3 tyX3_ok nmX3 rfl (tyX3_ok 7 (by decide)) (dec_some g1) rfl dX3_gather_26 ?_
  refine V.aload_n (pc := 29) C 0 rfl dX3_gather_29 ?_
  refine V.dup (pc := 30) C rfl dX3_gather_30 ?_
  refine V.getI (pc := 31) C clX3 inX3 (sx_8 hG) 6 (by decide) wF_X3_52 rfl dX3_gather_31 ?_
  refine V.iconst (pc := 34) C (nI 1) (by decide) dX3_gather_34 ?_
  refine V.iload_n (pc := 35) C 1 rfl dX3_gather_35 ?_
  refine V.ishl (pc := 36) C dX3_gather_36 ?_
  refine V.ior (pc := 37) C dX3_gather_37 ?_
  refine V.putI (pc := 38) C clX3 inX3 (sx_8 hG) 6 (by decide) wF_X3_52 tyX3 tyX3_ok nmX3 rfl (tyX3_ok 6 (by decide)) rfl dX3_gather_38 ?_
  exact V.retV (pc := 41) C hf dX3_gather_41
def fX3_gather (x1 : Int32) (M : Mm) : Option (Unit × Mm) :=
if x1 < (nI 0) then
(some ((), M))
else
(if ((M.1 8 6) &&& (jshl (nI 1) x1)) = (nI 0) then
(fX3_gather_b25 x1 (M.1 8 7) (nI 0) M)
else
(fX3_gather_b25 x1 (M.1 8 7) (nI 1) M))
set_option maxHeartbeats 4000000 in
set_option maxRecDepth 100000 in
theorem mX3_gather (l : Launch) {G : Rg} (hG : gS G = shX) {x1 : Int32}  {M Mf : Mm} {r : Unit} (hf : fX3_gather x1 M = some (r, Mf)) : Mt l G yX3_gather cX3_gather 2 (none) 0 0 [.ref (gA G 8), .int x1] M none Mf := by
  refine Mt.of (by decide) (Nat.le_of_ble_eq_true rfl) ?_
  intro X C hX
  subst hX
  have C : cxX3_gather G X := C
  show V G X 2 none Mf 0 [(0, .ref (gA G 8)), (1, .int x1)] [] M
  rw [fX3_gather] at hf
  refine V.iload_n (pc := 0) C 1 rfl dX3_gather_0 ?_
  rcases it_some hf with ⟨h1, hf⟩ | ⟨h1, hf⟩
  · refine V.if_ltT (pc := 1) C 41 h1 (by decide) dX3_gather_1 ?_
    exact V.retV (pc := 41) C hf dX3_gather_41
  · refine V.if_ltF (pc := 1) C 41 h1 (by decide) dX3_gather_1 ?_
    refine V.aload_n (pc := 4) C 0 rfl dX3_gather_4 ?_
    refine V.dup (pc := 5) C rfl dX3_gather_5 ?_
    refine V.getI (pc := 6) C clX3 inX3 (sx_8 hG) 7 (by decide) wF_X3_55 rfl dX3_gather_6 ?_
    refine V.aload_n (pc := 9) C 0 rfl dX3_gather_9 ?_
    refine V.getI (pc := 10) C clX3 inX3 (sx_8 hG) 6 (by decide) wF_X3_52 rfl dX3_gather_10 ?_
    refine V.iconst (pc := 13) C (nI 1) (by decide) dX3_gather_13 ?_
    refine V.iload_n (pc := 14) C 1 rfl dX3_gather_14 ?_
    refine V.ishl (pc := 15) C dX3_gather_15 ?_
    refine V.iand (pc := 16) C dX3_gather_16 ?_
    rcases it_some hf with ⟨h2, hf⟩ | ⟨h2, hf⟩
    · refine V.if_eqT (pc := 17) C 24 h2 (by decide) dX3_gather_17 ?_
      refine V.iconst (pc := 24) C (nI 0) (by decide) dX3_gather_24 ?_
      exact vX3_gather_b25 C hG    _ _ _ _ hf
    · refine V.if_eqF (pc := 17) C 24 h2 (by decide) dX3_gather_17 ?_
      refine V.iconst (pc := 20) C (nI 1) (by decide) dX3_gather_20 ?_
      refine V.goto (pc := 21) C 25 (by decide) dX3_gather_21 ?_
      exact vX3_gather_b25 C hG    _ _ _ _ hf
theorem dX0_statesFor_0 : decode cX0_statesFor 0 = .ok (.iload_n 0, 1) := by decide +kernel
theorem dX0_statesFor_1 : decode cX0_statesFor 1 = .ok (.tableswitch 34 0 2 #[27, 29, 31], 27) := by decide +kernel
theorem dX0_statesFor_28 : decode cX0_statesFor 28 = .ok (.iconst 1, 1) := by decide +kernel
theorem dX0_statesFor_29 : decode cX0_statesFor 29 = .ok (.ireturn, 1) := by decide +kernel
theorem dX0_statesFor_30 : decode cX0_statesFor 30 = .ok (.iconst 2, 1) := by decide +kernel
theorem dX0_statesFor_31 : decode cX0_statesFor 31 = .ok (.ireturn, 1) := by decide +kernel
theorem dX0_statesFor_32 : decode cX0_statesFor 32 = .ok (.bipush 6, 2) := by decide +kernel
theorem dX0_statesFor_34 : decode cX0_statesFor 34 = .ok (.ireturn, 1) := by decide +kernel
theorem dX0_statesFor_35 : decode cX0_statesFor 35 = .ok (.bipush 7, 2) := by decide +kernel
theorem dX0_statesFor_37 : decode cX0_statesFor 37 = .ok (.ireturn, 1) := by decide +kernel
abbrev cxX0_statesFor (G : Rg) (X : Ct) : Prop := Cx G X cX0_statesFor 1 RX0 (some .int) 0 0 (Cond.code yX0_statesFor cX0_statesFor 1 (some .int))
def fX0_statesFor (x0 : Int32) (M : Mm) : Option (Int32 × Mm) :=
if x0 = (nI 0) then
(some ((nI 1), M))
else
if x0 = (nI 1) then
(some ((nI 2), M))
else
if x0 = (nI 2) then
(some ((nI 6), M))
else
(some ((nI 7), M))
set_option maxHeartbeats 4000000 in
set_option maxRecDepth 100000 in
theorem mX0_statesFor (l : Launch) {G : Rg} (hG : gS G = shX) {x0 : Int32}  {M Mf : Mm} {r : Int32} (hf : fX0_statesFor x0 M = some (r, Mf)) : Mt l G yX0_statesFor cX0_statesFor 1 (some .int) 0 0 [.int x0] M (some (.int r)) Mf := by
  refine Mt.of (by decide) (Nat.le_of_ble_eq_true rfl) ?_
  intro X C hX
  subst hX
  have C : cxX0_statesFor G X := C
  show V G X 1 (some (.int r)) Mf 0 [(0, .int x0)] [] M
  rw [fX0_statesFor] at hf
  refine V.iload_n (pc := 0) C 0 rfl dX0_statesFor_0 ?_
  rcases it_some hf with ⟨h1, hf⟩ | ⟨h1, hf⟩
  · refine V.tabIn (pc := 1) (off := 27) C (nI 0) 28 h1 (by decide) (by decide) (by decide) (by decide) dX0_statesFor_1 ?_
    refine V.iconst (pc := 28) C (nI 1) (by decide) dX0_statesFor_28 ?_
    exact V.retI (pc := 29) C hf dX0_statesFor_29
  · skip
    rcases it_some hf with ⟨h2, hf⟩ | ⟨h2, hf⟩
    · refine V.tabIn (pc := 1) (off := 29) C (nI 1) 30 h2 (by decide) (by decide) (by decide) (by decide) dX0_statesFor_1 ?_
      refine V.iconst (pc := 30) C (nI 2) (by decide) dX0_statesFor_30 ?_
      exact V.retI (pc := 31) C hf dX0_statesFor_31
    · skip
      rcases it_some hf with ⟨h3, hf⟩ | ⟨h3, hf⟩
      · refine V.tabIn (pc := 1) (off := 31) C (nI 2) 32 h3 (by decide) (by decide) (by decide) (by decide) dX0_statesFor_1 ?_
        refine V.bipush (pc := 32) C (nI 6) (by decide) dX0_statesFor_32 ?_
        exact V.retI (pc := 34) C hf dX0_statesFor_34
      · skip
        refine V.tabOut (pc := 1) C 35 (sw3 h1 h2 h3) (by decide) dX0_statesFor_1 ?_
        refine V.bipush (pc := 35) C (nI 7) (by decide) dX0_statesFor_35 ?_
        exact V.retI (pc := 37) C hf dX0_statesFor_37
theorem dX0_whyNot_0 : decode cX0_whyNot 0 = .ok (.aload_n 0, 1) := by decide +kernel
theorem dX0_whyNot_1 : decode cX0_whyNot 1 = .ok (.iload_n 1, 1) := by decide +kernel
theorem dX0_whyNot_2 : decode cX0_whyNot 2 = .ok (.invokevirtual 50, 3) := by decide +kernel
theorem dX0_whyNot_5 : decode cX0_whyNot 5 = .ok (.ifCond .ne 5, 3) := by decide +kernel
theorem dX0_whyNot_8 : decode cX0_whyNot 8 = .ok (.iconst 1, 1) := by decide +kernel
theorem dX0_whyNot_9 : decode cX0_whyNot 9 = .ok (.ireturn, 1) := by decide +kernel
theorem dX0_whyNot_10 : decode cX0_whyNot 10 = .ok (.iload_n 2, 1) := by decide +kernel
theorem dX0_whyNot_11 : decode cX0_whyNot 11 = .ok (.invokestatic 54, 3) := by decide +kernel
theorem dX0_whyNot_14 : decode cX0_whyNot 14 = .ok (.aload_n 0, 1) := by decide +kernel
theorem dX0_whyNot_15 : decode cX0_whyNot 15 = .ok (.getfield 19, 3) := by decide +kernel
theorem dX0_whyNot_18 : decode cX0_whyNot 18 = .ok (.iload_n 1, 1) := by decide +kernel
theorem dX0_whyNot_19 : decode cX0_whyNot 19 = .ok (.iaload, 1) := by decide +kernel
theorem dX0_whyNot_20 : decode cX0_whyNot 20 = .ok (.ishr, 1) := by decide +kernel
theorem dX0_whyNot_21 : decode cX0_whyNot 21 = .ok (.iconst 1, 1) := by decide +kernel
theorem dX0_whyNot_22 : decode cX0_whyNot 22 = .ok (.iand, 1) := by decide +kernel
theorem dX0_whyNot_23 : decode cX0_whyNot 23 = .ok (.ifCond .ne 5, 3) := by decide +kernel
theorem dX0_whyNot_26 : decode cX0_whyNot 26 = .ok (.iconst 3, 1) := by decide +kernel
theorem dX0_whyNot_27 : decode cX0_whyNot 27 = .ok (.ireturn, 1) := by decide +kernel
theorem dX0_whyNot_28 : decode cX0_whyNot 28 = .ok (.iload_n 2, 1) := by decide +kernel
theorem dX0_whyNot_29 : decode cX0_whyNot 29 = .ok (.iconst 3, 1) := by decide +kernel
theorem dX0_whyNot_30 : decode cX0_whyNot 30 = .ok (.if_icmp .ne 15, 3) := by decide +kernel
theorem dX0_whyNot_33 : decode cX0_whyNot 33 = .ok (.aload_n 0, 1) := by decide +kernel
theorem dX0_whyNot_34 : decode cX0_whyNot 34 = .ok (.getfield 15, 3) := by decide +kernel
theorem dX0_whyNot_37 : decode cX0_whyNot 37 = .ok (.iload_n 1, 1) := by decide +kernel
theorem dX0_whyNot_38 : decode cX0_whyNot 38 = .ok (.iaload, 1) := by decide +kernel
theorem dX0_whyNot_39 : decode cX0_whyNot 39 = .ok (.iconst 5, 1) := by decide +kernel
theorem dX0_whyNot_40 : decode cX0_whyNot 40 = .ok (.if_icmp .lt 5, 3) := by decide +kernel
theorem dX0_whyNot_43 : decode cX0_whyNot 43 = .ok (.iconst 4, 1) := by decide +kernel
theorem dX0_whyNot_44 : decode cX0_whyNot 44 = .ok (.ireturn, 1) := by decide +kernel
theorem dX0_whyNot_45 : decode cX0_whyNot 45 = .ok (.iload_n 2, 1) := by decide +kernel
theorem dX0_whyNot_46 : decode cX0_whyNot 46 = .ok (.ifCond .ne 14, 3) := by decide +kernel
theorem dX0_whyNot_49 : decode cX0_whyNot 49 = .ok (.aload_n 0, 1) := by decide +kernel
theorem dX0_whyNot_50 : decode cX0_whyNot 50 = .ok (.getfield 9, 3) := by decide +kernel
theorem dX0_whyNot_53 : decode cX0_whyNot 53 = .ok (.ifCond .ne 7, 3) := by decide +kernel
theorem dX0_whyNot_56 : decode cX0_whyNot 56 = .ok (.iconst 5, 1) := by decide +kernel
theorem dX0_whyNot_57 : decode cX0_whyNot 57 = .ok (.goto 4, 3) := by decide +kernel
theorem dX0_whyNot_60 : decode cX0_whyNot 60 = .ok (.iconst 0, 1) := by decide +kernel
theorem dX0_whyNot_61 : decode cX0_whyNot 61 = .ok (.ireturn, 1) := by decide +kernel
abbrev cxX0_whyNot (G : Rg) (X : Ct) : Prop := Cx G X cX0_whyNot 3 RX0 (some .int) 1 21 (Cond.code yX0_whyNot cX0_whyNot 3 (some .int))
def fX0_whyNot_b45  (c0 : Nat) (v2 : Int32) (M : Mm) : Option (Int32 × Mm) :=
if v2 = (nI 0) then
(if (M.1 c0 1) = (nI 0) then
(some ((nI 5), M))
else
(some ((nI 0), M)))
else
(some ((nI 0), M))
set_option maxHeartbeats 4000000 in
set_option maxRecDepth 100000 in
theorem vX0_whyNot_b45 {G : Rg} {X : Ct} {r : Int32} {Mf : Mm} {c0 : Nat}  (C : cxX0_whyNot G X) (hG : gS G = shX) (hB0 : isB G c0)  (v2 : Int32) (M : Mm) (hf : fX0_whyNot_b45 c0 v2 M = some (r, Mf)) : V G X 3 (some (.int r)) Mf 45 [(0, .ref (gA G c0)), (2, .int v2)] [] M := by
  rw [fX0_whyNot_b45] at hf
  refine V.iload_n (pc := 45) C 1 rfl dX0_whyNot_45 ?_
  rcases it_some hf with ⟨h1, hf⟩ | ⟨h1, hf⟩
  · refine V.if_neF (pc := 46) C 60 h1 (by decide) dX0_whyNot_46 ?_
    refine V.aload_n (pc := 49) C 0 rfl dX0_whyNot_49 ?_
    refine V.getI (pc := 50) C clX0 inX0 hB0.1 1 (by decide) wF_X0_9 rfl dX0_whyNot_50 ?_
    rcases it_some hf with ⟨h2, hf⟩ | ⟨h2, hf⟩
    · refine V.if_neF (pc := 53) C 60 h2 (by decide) dX0_whyNot_53 ?_
      refine V.iconst (pc := 56) C (nI 5) (by decide) dX0_whyNot_56 ?_
      refine V.goto (pc := 57) C 61 (by decide) dX0_whyNot_57 ?_
      exact V.retI (pc := 61) C hf dX0_whyNot_61
    · refine V.if_neT (pc := 53) C 60 h2 (by decide) dX0_whyNot_53 ?_
      refine V.iconst (pc := 60) C (nI 0) (by decide) dX0_whyNot_60 ?_
      exact V.retI (pc := 61) C hf dX0_whyNot_61
  · refine V.if_neT (pc := 46) C 60 h1 (by decide) dX0_whyNot_46 ?_
    refine V.iconst (pc := 60) C (nI 0) (by decide) dX0_whyNot_60 ?_
    exact V.retI (pc := 61) C hf dX0_whyNot_61
def fX0_whyNot (c0 : Nat) (x1 : Int32) (x2 : Int32) (M : Mm) : Option (Int32 × Mm) :=
bd (fX0_isThere c0 x1 M) fun r1 M1 =>
if r1 = (nI 0) then
(some ((nI 1), M1))
else
(bd (fX0_statesFor x2 M1) fun r3 M3 =>
gd (inb x1 12) (
if ((jshr r3 (M3.1 (c0 + 2) x1.toNatClampNeg)) &&& (nI 1)) = (nI 0) then
(some ((nI 3), M3))
else
(if x2 = (nI 3) then
(gd (inb x1 12) (
if (M3.1 (c0 + 1) x1.toNatClampNeg) < (nI 5) then
(fX0_whyNot_b45 c0 x2 M3)
else
(some ((nI 4), M3))))
else
(fX0_whyNot_b45 c0 x2 M3))))
set_option maxHeartbeats 4000000 in
set_option maxRecDepth 100000 in
theorem mX0_whyNot (l : Launch) {G : Rg} (hG : gS G = shX) {c0 : Nat} {x1 : Int32} {x2 : Int32} (hB0 : isB G c0) {M Mf : Mm} {r : Int32} (hf : fX0_whyNot c0 x1 x2 M = some (r, Mf)) : Mt l G yX0_whyNot cX0_whyNot 3 (some .int) 1 21 [.ref (gA G c0), .int x1, .int x2] M (some (.int r)) Mf := by
  refine Mt.of (by decide) (Nat.le_of_ble_eq_true rfl) ?_
  intro X C hX
  subst hX
  have C : cxX0_whyNot G X := C
  show V G X 3 (some (.int r)) Mf 0 [(0, .ref (gA G c0)), (1, .int x1), (2, .int x2)] [] M
  rw [fX0_whyNot] at hf
  refine V.aload_n (pc := 0) C 0 rfl dX0_whyNot_0 ?_
  refine V.iload_n (pc := 1) C 1 rfl dX0_whyNot_1 ?_
  obtain ⟨r1, M1, h1, hf⟩ := bd_some hf
  refine V.callVi (pc := 2) (As := [.int x1]) (rest := []) C (mX0_isThere X.2.1 hG hB0 h1) mf_X0_isThere clX0 hB0.1 wM_X0_50 rfl rfl ⟨by decide, by decide⟩ (Nat.le_of_ble_eq_true rfl) dX0_whyNot_2 ?_
  rcases it_some hf with ⟨h2, hf⟩ | ⟨h2, hf⟩
  · refine V.if_neF (pc := 5) C 10 h2 (by decide) dX0_whyNot_5 ?_
    refine V.iconst (pc := 8) C (nI 1) (by decide) dX0_whyNot_8 ?_
    exact V.retI (pc := 9) C hf dX0_whyNot_9
  · refine V.if_neT (pc := 5) C 10 h2 (by decide) dX0_whyNot_5 ?_
    refine V.iload_n (pc := 10) C 2 rfl dX0_whyNot_10 ?_
    obtain ⟨r3, M3, h3, hf⟩ := bd_some hf
    refine V.callSi (pc := 11) (As := [.int x2]) (rest := []) C (mX0_statesFor X.2.1 hG  h3) mf_X0_statesFor wM_X0_54 rfl rfl ⟨by decide, by decide⟩ (Nat.le_of_ble_eq_true rfl) dX0_whyNot_11 ?_
    refine V.aload_n (pc := 14) C 0 rfl dX0_whyNot_14 ?_
    refine V.getR (pc := 15) C clX0 inX0 hB0.1 5 (by decide) wF_X0_19 rfl dX0_whyNot_15 ?_
    refine V.iload_n (pc := 18) C 1 rfl dX0_whyNot_18 ?_
    obtain ⟨g4, hf⟩ := gd_some hf
    refine V.iald (pc := 19) C hB0.2.2.1 (inb_in g4) dX0_whyNot_19 ?_
    refine V.ishr (pc := 20) C dX0_whyNot_20 ?_
    refine V.iconst (pc := 21) C (nI 1) (by decide) dX0_whyNot_21 ?_
    refine V.iand (pc := 22) C dX0_whyNot_22 ?_
    rcases it_some hf with ⟨h5, hf⟩ | ⟨h5, hf⟩
    · refine V.if_neF (pc := 23) C 28 h5 (by decide) dX0_whyNot_23 ?_
      refine V.iconst (pc := 26) C (nI 3) (by decide) dX0_whyNot_26 ?_
      exact V.retI (pc := 27) C hf dX0_whyNot_27
    · refine V.if_neT (pc := 23) C 28 h5 (by decide) dX0_whyNot_23 ?_
      refine V.iload_n (pc := 28) C 2 rfl dX0_whyNot_28 ?_
      refine V.iconst (pc := 29) C (nI 3) (by decide) dX0_whyNot_29 ?_
      rcases it_some hf with ⟨h6, hf⟩ | ⟨h6, hf⟩
      · refine V.ic_neF (pc := 30) C 45 h6 (by decide) dX0_whyNot_30 ?_
        refine V.aload_n (pc := 33) C 0 rfl dX0_whyNot_33 ?_
        refine V.getR (pc := 34) C clX0 inX0 hB0.1 4 (by decide) wF_X0_15 rfl dX0_whyNot_34 ?_
        refine V.iload_n (pc := 37) C 1 rfl dX0_whyNot_37 ?_
        obtain ⟨g7, hf⟩ := gd_some hf
        refine V.iald (pc := 38) C hB0.2.1 (inb_in g7) dX0_whyNot_38 ?_
        refine V.iconst (pc := 39) C (nI 5) (by decide) dX0_whyNot_39 ?_
        rcases it_some hf with ⟨h8, hf⟩ | ⟨h8, hf⟩
        · refine V.ic_ltT (pc := 40) C 45 h8 (by decide) dX0_whyNot_40 ?_
          refine V.sub C [0, 2] (lv' := [(0, .ref (gA G c0)), (2, .int x2)]) rfl ?_
          exact vX0_whyNot_b45 C hG hB0   _ _ hf
        · refine V.ic_ltF (pc := 40) C 45 h8 (by decide) dX0_whyNot_40 ?_
          refine V.iconst (pc := 43) C (nI 4) (by decide) dX0_whyNot_43 ?_
          exact V.retI (pc := 44) C hf dX0_whyNot_44
      · refine V.ic_neT (pc := 30) C 45 h6 (by decide) dX0_whyNot_30 ?_
        refine V.sub C [0, 2] (lv' := [(0, .ref (gA G c0)), (2, .int x2)]) rfl ?_
        exact vX0_whyNot_b45 C hG hB0   _ _ hf
