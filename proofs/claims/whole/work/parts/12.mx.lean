theorem dJ7_fill_d0a16_0 : decode cJ7_fill_d0a16 0 = .ok (.iconst 0, 1) := by decide +kernel
theorem dJ7_fill_d0a16_1 : decode cJ7_fill_d0a16 1 = .ok (.istore_n 3, 1) := by decide +kernel
theorem dJ7_fill_d0a16_2 : decode cJ7_fill_d0a16 2 = .ok (.aload_n 0, 1) := by decide +kernel
theorem dJ7_fill_d0a16_3 : decode cJ7_fill_d0a16 3 = .ok (.arraylength, 1) := by decide +kernel
theorem dJ7_fill_d0a16_4 : decode cJ7_fill_d0a16 4 = .ok (.istore 4, 2) := by decide +kernel
theorem dJ7_fill_d0a16_6 : decode cJ7_fill_d0a16 6 = .ok (.iload_n 3, 1) := by decide +kernel
theorem dJ7_fill_d0a16_7 : decode cJ7_fill_d0a16 7 = .ok (.iload 4, 2) := by decide +kernel
theorem dJ7_fill_d0a16_9 : decode cJ7_fill_d0a16 9 = .ok (.if_icmp .ge 13, 3) := by decide +kernel
theorem dJ7_fill_d0a16_12 : decode cJ7_fill_d0a16 12 = .ok (.aload_n 0, 1) := by decide +kernel
theorem dJ7_fill_d0a16_13 : decode cJ7_fill_d0a16 13 = .ok (.iload_n 3, 1) := by decide +kernel
theorem dJ7_fill_d0a16_14 : decode cJ7_fill_d0a16 14 = .ok (.lload_n 1, 1) := by decide +kernel
theorem dJ7_fill_d0a16_15 : decode cJ7_fill_d0a16 15 = .ok (.lastore, 1) := by decide +kernel
theorem dJ7_fill_d0a16_16 : decode cJ7_fill_d0a16 16 = .ok (.iinc 3 1, 3) := by decide +kernel
theorem dJ7_fill_d0a16_19 : decode cJ7_fill_d0a16 19 = .ok (.goto (-13), 3) := by decide +kernel
theorem dJ7_fill_d0a16_22 : decode cJ7_fill_d0a16 22 = .ok (.return_, 1) := by decide +kernel
abbrev cxJ7_fill_d0a16 (G : Rg) (X : Ct) : Prop := Cx G X cJ7_fill_d0a16 5 RJ7 (none) 0 0 (Cond.code yJ7_fill_d0a16 cJ7_fill_d0a16 5 (none))
def fJ7_fill_d0a16_b6  (c0 : Nat) (n0 : Nat) : Nat → Int64 → Int32 → Int32 → Mm → Option (Unit × Mm)
  | 0, _, _, _, _ => none
  | n + 1, v1, v3, v4, M =>
    if v4 ≤ v3 then
    (some ((), M))
    else
    (gd (inb v3 n0) (
    fJ7_fill_d0a16_b6 c0 n0 n v1 (v3 + (nI 1)) v4 (sL M c0 v3.toNatClampNeg v1)))
set_option maxHeartbeats 4000000 in
set_option maxRecDepth 100000 in
theorem vJ7_fill_d0a16_b6 {G : Rg} {X : Ct} {r : Unit} {Mf : Mm} {c0 : Nat} {n0 : Nat}  (C : cxJ7_fill_d0a16 G X) (hA0 : (gS G)[c0]? = some (.inl (1, n0)))  : ∀ (n : Nat) (v1 : Int64) (v3 : Int32) (v4 : Int32) (M : Mm), fJ7_fill_d0a16_b6 c0 n0 n v1 v3 v4 M = some (r, Mf) → V G X 5 none Mf 6 [(0, .ref (gA G c0)), (1, .long v1), (3, .int v3), (4, .int v4)] [] M := by
  intro n
  induction n with
  | zero => intro v1 v3 v4 M hf; rw [fJ7_fill_d0a16_b6] at hf; cases hf
  | succ n ih =>
    intro v1 v3 v4 M hf
    rw [fJ7_fill_d0a16_b6] at hf
    refine V.iload_n (pc := 6) C 2 rfl dJ7_fill_d0a16_6 ?_
    refine V.iload (pc := 7) C 3 rfl dJ7_fill_d0a16_7 ?_
    rcases it_some hf with ⟨h1, hf⟩ | ⟨h1, hf⟩
    · refine V.ic_geT (pc := 9) C 22 h1 (by decide) dJ7_fill_d0a16_9 ?_
      exact V.retV (pc := 22) C hf dJ7_fill_d0a16_22
    · refine V.ic_geF (pc := 9) C 22 h1 (by decide) dJ7_fill_d0a16_9 ?_
      refine V.aload_n (pc := 12) C 0 rfl dJ7_fill_d0a16_12 ?_
      refine V.iload_n (pc := 13) C 2 rfl dJ7_fill_d0a16_13 ?_
      refine V.lload_n (pc := 14) C 1 rfl dJ7_fill_d0a16_14 ?_
      obtain ⟨g2, hf⟩ := gd_some hf
      refine V.last (pc := 15) C hA0 (inb_in g2) dJ7_fill_d0a16_15 ?_
      refine V.iinc (pc := 16) (lv' := [(3, .int (v3 + (nI 1))), (0, .ref (gA G c0)), (1, .long v1), (4, .int v4)]) C (v3 + (nI 1)) 2 rfl rfl (by decide) rfl dJ7_fill_d0a16_16 ?_
      refine V.goto (pc := 19) C 6 (by decide) dJ7_fill_d0a16_19 ?_
      refine V.sub C [1, 2, 0, 3] (lv' := [(0, .ref (gA G c0)), (1, .long v1), (3, .int (v3 + (nI 1))), (4, .int v4)]) rfl ?_
      exact ih _ _ _ _ hf
def fJ7_fill_d0a16 (c0 : Nat) (n0 : Nat) (x1 : Int64) (M : Mm) : Option (Unit × Mm) :=
fJ7_fill_d0a16_b6 c0 n0 fu x1 (nI 0) (Int32.ofNat n0) M
set_option maxHeartbeats 4000000 in
set_option maxRecDepth 100000 in
theorem mJ7_fill_d0a16 (l : Launch) {G : Rg} {c0 : Nat} {n0 : Nat} {x1 : Int64} (hA0 : (gS G)[c0]? = some (.inl (1, n0))) {M Mf : Mm} {r : Unit} (hf : fJ7_fill_d0a16 c0 n0 x1 M = some (r, Mf)) : Mt l G yJ7_fill_d0a16 cJ7_fill_d0a16 5 (none) 0 0 [.ref (gA G c0), .long x1] M none Mf := by
  refine Mt.of (by decide) (Nat.le_of_ble_eq_true rfl) ?_
  intro X C hX
  subst hX
  have C : cxJ7_fill_d0a16 G X := C
  show V G X 5 none Mf 0 [(0, .ref (gA G c0)), (1, .long x1)] [] M
  rw [fJ7_fill_d0a16] at hf
  refine V.iconst (pc := 0) C (nI 0) (by decide) dJ7_fill_d0a16_0 ?_
  refine V.istore_n (pc := 1) (lv' := [(3, .int (nI 0)), (0, .ref (gA G c0)), (1, .long x1)]) C (by decide) rfl dJ7_fill_d0a16_1 ?_
  refine V.aload_n (pc := 2) C 1 rfl dJ7_fill_d0a16_2 ?_
  refine V.alen (pc := 3) C (Int32.ofNat n0) hA0 (by decide) rfl dJ7_fill_d0a16_3 ?_
  refine V.istore (pc := 4) (lv' := [(4, .int (Int32.ofNat n0)), (3, .int (nI 0)), (0, .ref (gA G c0)), (1, .long x1)]) C (by decide) rfl dJ7_fill_d0a16_4 ?_
  refine V.sub C [2, 3, 1, 0] (lv' := [(0, .ref (gA G c0)), (1, .long x1), (3, .int (nI 0)), (4, .int (Int32.ofNat n0))]) rfl ?_
  exact vJ7_fill_d0a16_b6 C hA0  fu _ _ _ _ hf
theorem dX2_withGreaterLots_0 : decode cX2_withGreaterLots 0 = .ok (.lload_n 0, 1) := by decide +kernel
theorem dX2_withGreaterLots_1 : decode cX2_withGreaterLots 1 = .ok (.lstore_n 2, 1) := by decide +kernel
theorem dX2_withGreaterLots_2 : decode cX2_withGreaterLots 2 = .ok (.iconst 0, 1) := by decide +kernel
theorem dX2_withGreaterLots_3 : decode cX2_withGreaterLots 3 = .ok (.istore 4, 2) := by decide +kernel
theorem dX2_withGreaterLots_5 : decode cX2_withGreaterLots 5 = .ok (.iload 4, 2) := by decide +kernel
theorem dX2_withGreaterLots_7 : decode cX2_withGreaterLots 7 = .ok (.bipush 6, 2) := by decide +kernel
theorem dX2_withGreaterLots_9 : decode cX2_withGreaterLots 9 = .ok (.if_icmp .ge 25, 3) := by decide +kernel
theorem dX2_withGreaterLots_12 : decode cX2_withGreaterLots 12 = .ok (.lload_n 2, 1) := by decide +kernel
theorem dX2_withGreaterLots_13 : decode cX2_withGreaterLots 13 = .ok (.lload_n 2, 1) := by decide +kernel
theorem dX2_withGreaterLots_14 : decode cX2_withGreaterLots 14 = .ok (.getstatic 110, 3) := by decide +kernel
theorem dX2_withGreaterLots_17 : decode cX2_withGreaterLots 17 = .ok (.iload 4, 2) := by decide +kernel
theorem dX2_withGreaterLots_19 : decode cX2_withGreaterLots 19 = .ok (.laload, 1) := by decide +kernel
theorem dX2_withGreaterLots_20 : decode cX2_withGreaterLots 20 = .ok (.land, 1) := by decide +kernel
theorem dX2_withGreaterLots_21 : decode cX2_withGreaterLots 21 = .ok (.iconst 1, 1) := by decide +kernel
theorem dX2_withGreaterLots_22 : decode cX2_withGreaterLots 22 = .ok (.iload 4, 2) := by decide +kernel
theorem dX2_withGreaterLots_24 : decode cX2_withGreaterLots 24 = .ok (.ishl, 1) := by decide +kernel
theorem dX2_withGreaterLots_25 : decode cX2_withGreaterLots 25 = .ok (.lshl, 1) := by decide +kernel
theorem dX2_withGreaterLots_26 : decode cX2_withGreaterLots 26 = .ok (.lor, 1) := by decide +kernel
theorem dX2_withGreaterLots_27 : decode cX2_withGreaterLots 27 = .ok (.lstore_n 2, 1) := by decide +kernel
theorem dX2_withGreaterLots_28 : decode cX2_withGreaterLots 28 = .ok (.iinc 4 1, 3) := by decide +kernel
theorem dX2_withGreaterLots_31 : decode cX2_withGreaterLots 31 = .ok (.goto (-26), 3) := by decide +kernel
theorem dX2_withGreaterLots_34 : decode cX2_withGreaterLots 34 = .ok (.lload_n 2, 1) := by decide +kernel
theorem dX2_withGreaterLots_35 : decode cX2_withGreaterLots 35 = .ok (.lreturn, 1) := by decide +kernel
abbrev cxX2_withGreaterLots (G : Rg) (X : Ct) : Prop := Cx G X cX2_withGreaterLots 5 RX2 (some .long) 0 0 (Cond.code yX2_withGreaterLots cX2_withGreaterLots 5 (some .long))
def fX2_withGreaterLots_b5   : Nat → Int64 → Int32 → Mm → Option (Int64 × Mm)
  | 0, _, _, _ => none
  | n + 1, v2, v4, M =>
    if (nI 6) ≤ v4 then
    (some (v2, M))
    else
    (gd (inb v4 6) (
    fX2_withGreaterLots_b5  n (v2 ||| (jlshl (v2 &&& (lkF v4.toNatClampNeg)) (jshl (nI 1) v4))) (v4 + (nI 1)) M))
set_option maxHeartbeats 4000000 in
set_option maxRecDepth 100000 in
theorem vX2_withGreaterLots_b5 {G : Rg} {X : Ct} {r : Int64} {Mf : Mm}   (C : cxX2_withGreaterLots G X) (hG : gS G = shX)   : ∀ (n : Nat) (v2 : Int64) (v4 : Int32) (M : Mm), fX2_withGreaterLots_b5 n v2 v4 M = some (r, Mf) → V G X 5 (some (.long r)) Mf 5 [(2, .long v2), (4, .int v4)] [] M := by
  intro n
  induction n with
  | zero => intro v2 v4 M hf; rw [fX2_withGreaterLots_b5] at hf; cases hf
  | succ n ih =>
    intro v2 v4 M hf
    rw [fX2_withGreaterLots_b5] at hf
    refine V.iload (pc := 5) C 1 rfl dX2_withGreaterLots_5 ?_
    refine V.bipush (pc := 7) C (nI 6) (by decide) dX2_withGreaterLots_7 ?_
    rcases it_some hf with ⟨h1, hf⟩ | ⟨h1, hf⟩
    · refine V.ic_geT (pc := 9) C 34 h1 (by decide) dX2_withGreaterLots_9 ?_
      refine V.lload_n (pc := 34) C 0 rfl dX2_withGreaterLots_34 ?_
      exact V.retL (pc := 35) C hf dX2_withGreaterLots_35
    · refine V.ic_geF (pc := 9) C 34 h1 (by decide) dX2_withGreaterLots_9 ?_
      refine V.lload_n (pc := 12) C 0 rfl dX2_withGreaterLots_12 ?_
      refine V.lload_n (pc := 13) C 0 rfl dX2_withGreaterLots_13 ?_
      refine V.getLk (pc := 14) C wF_X2_110 dX2_withGreaterLots_14 ?_
      refine V.iload (pc := 17) C 1 rfl dX2_withGreaterLots_17 ?_
      obtain ⟨g2, hf⟩ := gd_some hf
      refine V.ldLk (pc := 19) C (inb_in g2) dX2_withGreaterLots_19 ?_
      refine V.land (pc := 20) C dX2_withGreaterLots_20 ?_
      refine V.iconst (pc := 21) C (nI 1) (by decide) dX2_withGreaterLots_21 ?_
      refine V.iload (pc := 22) C 1 rfl dX2_withGreaterLots_22 ?_
      refine V.ishl (pc := 24) C dX2_withGreaterLots_24 ?_
      refine V.lshl (pc := 25) C dX2_withGreaterLots_25 ?_
      refine V.lor (pc := 26) C dX2_withGreaterLots_26 ?_
      refine V.lstore_n (pc := 27) (lv' := [(2, .long (v2 ||| (jlshl (v2 &&& (lkF v4.toNatClampNeg)) (jshl (nI 1) v4)))), (4, .int v4)]) C (by decide) rfl dX2_withGreaterLots_27 ?_
      refine V.iinc (pc := 28) (lv' := [(4, .int (v4 + (nI 1))), (2, .long (v2 ||| (jlshl (v2 &&& (lkF v4.toNatClampNeg)) (jshl (nI 1) v4))))]) C (v4 + (nI 1)) 1 rfl rfl (by decide) rfl dX2_withGreaterLots_28 ?_
      refine V.goto (pc := 31) C 5 (by decide) dX2_withGreaterLots_31 ?_
      refine V.sub C [1, 0] (lv' := [(2, .long (v2 ||| (jlshl (v2 &&& (lkF v4.toNatClampNeg)) (jshl (nI 1) v4)))), (4, .int (v4 + (nI 1)))]) rfl ?_
      exact ih _ _ _ hf
def fX2_withGreaterLots (x0 : Int64) (M : Mm) : Option (Int64 × Mm) :=
fX2_withGreaterLots_b5 fu x0 (nI 0) M
set_option maxHeartbeats 4000000 in
set_option maxRecDepth 100000 in
theorem mX2_withGreaterLots (l : Launch) {G : Rg} (hG : gS G = shX) {x0 : Int64}  {M Mf : Mm} {r : Int64} (hf : fX2_withGreaterLots x0 M = some (r, Mf)) : Mt l G yX2_withGreaterLots cX2_withGreaterLots 5 (some .long) 0 0 [.long x0] M (some (.long r)) Mf := by
  refine Mt.of (by decide) (Nat.le_of_ble_eq_true rfl) ?_
  intro X C hX
  subst hX
  have C : cxX2_withGreaterLots G X := C
  show V G X 5 (some (.long r)) Mf 0 [(0, .long x0)] [] M
  rw [fX2_withGreaterLots] at hf
  refine V.lload_n (pc := 0) C 0 rfl dX2_withGreaterLots_0 ?_
  refine V.lstore_n (pc := 1) (lv' := [(2, .long x0), (0, .long x0)]) C (by decide) rfl dX2_withGreaterLots_1 ?_
  refine V.iconst (pc := 2) C (nI 0) (by decide) dX2_withGreaterLots_2 ?_
  refine V.istore (pc := 3) (lv' := [(4, .int (nI 0)), (2, .long x0), (0, .long x0)]) C (by decide) rfl dX2_withGreaterLots_3 ?_
  refine V.sub C [1, 0] (lv' := [(2, .long x0), (4, .int (nI 0))]) rfl ?_
  exact vX2_withGreaterLots_b5 C hG   fu _ _ _ hf
theorem dX2_makeRoomForOneMore_0 : decode cX2_makeRoomForOneMore 0 = .ok (.iconst 0, 1) := by decide +kernel
theorem dX2_makeRoomForOneMore_1 : decode cX2_makeRoomForOneMore 1 = .ok (.istore_n 1, 1) := by decide +kernel
theorem dX2_makeRoomForOneMore_2 : decode cX2_makeRoomForOneMore 2 = .ok (.iload_n 1, 1) := by decide +kernel
theorem dX2_makeRoomForOneMore_3 : decode cX2_makeRoomForOneMore 3 = .ok (.bipush 64, 2) := by decide +kernel
theorem dX2_makeRoomForOneMore_5 : decode cX2_makeRoomForOneMore 5 = .ok (.if_icmp .ge 88, 3) := by decide +kernel
theorem dX2_makeRoomForOneMore_8 : decode cX2_makeRoomForOneMore 8 = .ok (.lconst 0, 1) := by decide +kernel
theorem dX2_makeRoomForOneMore_9 : decode cX2_makeRoomForOneMore 9 = .ok (.lstore_n 2, 1) := by decide +kernel
theorem dX2_makeRoomForOneMore_10 : decode cX2_makeRoomForOneMore 10 = .ok (.lconst 0, 1) := by decide +kernel
theorem dX2_makeRoomForOneMore_11 : decode cX2_makeRoomForOneMore 11 = .ok (.lstore 4, 2) := by decide +kernel
theorem dX2_makeRoomForOneMore_13 : decode cX2_makeRoomForOneMore 13 = .ok (.iconst 0, 1) := by decide +kernel
theorem dX2_makeRoomForOneMore_14 : decode cX2_makeRoomForOneMore 14 = .ok (.istore 6, 2) := by decide +kernel
theorem dX2_makeRoomForOneMore_16 : decode cX2_makeRoomForOneMore 16 = .ok (.iload 6, 2) := by decide +kernel
theorem dX2_makeRoomForOneMore_18 : decode cX2_makeRoomForOneMore 18 = .ok (.bipush 6, 2) := by decide +kernel
theorem dX2_makeRoomForOneMore_20 : decode cX2_makeRoomForOneMore 20 = .ok (.if_icmp .ge 47, 3) := by decide +kernel
theorem dX2_makeRoomForOneMore_23 : decode cX2_makeRoomForOneMore 23 = .ok (.iload_n 1, 1) := by decide +kernel
theorem dX2_makeRoomForOneMore_24 : decode cX2_makeRoomForOneMore 24 = .ok (.iconst 1, 1) := by decide +kernel
theorem dX2_makeRoomForOneMore_25 : decode cX2_makeRoomForOneMore 25 = .ok (.iload 6, 2) := by decide +kernel
theorem dX2_makeRoomForOneMore_27 : decode cX2_makeRoomForOneMore 27 = .ok (.ishl, 1) := by decide +kernel
theorem dX2_makeRoomForOneMore_28 : decode cX2_makeRoomForOneMore 28 = .ok (.iconst (-1), 1) := by decide +kernel
theorem dX2_makeRoomForOneMore_29 : decode cX2_makeRoomForOneMore 29 = .ok (.ixor, 1) := by decide +kernel
theorem dX2_makeRoomForOneMore_30 : decode cX2_makeRoomForOneMore 30 = .ok (.iand, 1) := by decide +kernel
theorem dX2_makeRoomForOneMore_31 : decode cX2_makeRoomForOneMore 31 = .ok (.istore 7, 2) := by decide +kernel
theorem dX2_makeRoomForOneMore_33 : decode cX2_makeRoomForOneMore 33 = .ok (.iload 7, 2) := by decide +kernel
theorem dX2_makeRoomForOneMore_35 : decode cX2_makeRoomForOneMore 35 = .ok (.iload_n 1, 1) := by decide +kernel
theorem dX2_makeRoomForOneMore_36 : decode cX2_makeRoomForOneMore 36 = .ok (.if_icmp .eq 25, 3) := by decide +kernel
theorem dX2_makeRoomForOneMore_39 : decode cX2_makeRoomForOneMore 39 = .ok (.lload_n 2, 1) := by decide +kernel
theorem dX2_makeRoomForOneMore_40 : decode cX2_makeRoomForOneMore 40 = .ok (.aload_n 0, 1) := by decide +kernel
theorem dX2_makeRoomForOneMore_41 : decode cX2_makeRoomForOneMore 41 = .ok (.getfield 22, 3) := by decide +kernel
theorem dX2_makeRoomForOneMore_44 : decode cX2_makeRoomForOneMore 44 = .ok (.iload 7, 2) := by decide +kernel
theorem dX2_makeRoomForOneMore_46 : decode cX2_makeRoomForOneMore 46 = .ok (.laload, 1) := by decide +kernel
theorem dX2_makeRoomForOneMore_47 : decode cX2_makeRoomForOneMore 47 = .ok (.lor, 1) := by decide +kernel
theorem dX2_makeRoomForOneMore_48 : decode cX2_makeRoomForOneMore 48 = .ok (.lstore_n 2, 1) := by decide +kernel
theorem dX2_makeRoomForOneMore_49 : decode cX2_makeRoomForOneMore 49 = .ok (.lload 4, 2) := by decide +kernel
theorem dX2_makeRoomForOneMore_51 : decode cX2_makeRoomForOneMore 51 = .ok (.aload_n 0, 1) := by decide +kernel
theorem dX2_makeRoomForOneMore_52 : decode cX2_makeRoomForOneMore 52 = .ok (.getfield 25, 3) := by decide +kernel
theorem dX2_makeRoomForOneMore_55 : decode cX2_makeRoomForOneMore 55 = .ok (.iload 7, 2) := by decide +kernel
theorem dX2_makeRoomForOneMore_57 : decode cX2_makeRoomForOneMore 57 = .ok (.laload, 1) := by decide +kernel
theorem dX2_makeRoomForOneMore_58 : decode cX2_makeRoomForOneMore 58 = .ok (.lor, 1) := by decide +kernel
theorem dX2_makeRoomForOneMore_59 : decode cX2_makeRoomForOneMore 59 = .ok (.lstore 4, 2) := by decide +kernel
theorem dX2_makeRoomForOneMore_61 : decode cX2_makeRoomForOneMore 61 = .ok (.iinc 6 1, 3) := by decide +kernel
theorem dX2_makeRoomForOneMore_64 : decode cX2_makeRoomForOneMore 64 = .ok (.goto (-48), 3) := by decide +kernel
theorem dX2_makeRoomForOneMore_67 : decode cX2_makeRoomForOneMore 67 = .ok (.aload_n 0, 1) := by decide +kernel
theorem dX2_makeRoomForOneMore_68 : decode cX2_makeRoomForOneMore 68 = .ok (.getfield 25, 3) := by decide +kernel
theorem dX2_makeRoomForOneMore_71 : decode cX2_makeRoomForOneMore 71 = .ok (.iload_n 1, 1) := by decide +kernel
theorem dX2_makeRoomForOneMore_72 : decode cX2_makeRoomForOneMore 72 = .ok (.lload 4, 2) := by decide +kernel
theorem dX2_makeRoomForOneMore_74 : decode cX2_makeRoomForOneMore 74 = .ok (.aload_n 0, 1) := by decide +kernel
theorem dX2_makeRoomForOneMore_75 : decode cX2_makeRoomForOneMore 75 = .ok (.getfield 18, 3) := by decide +kernel
theorem dX2_makeRoomForOneMore_78 : decode cX2_makeRoomForOneMore 78 = .ok (.iload_n 1, 1) := by decide +kernel
theorem dX2_makeRoomForOneMore_79 : decode cX2_makeRoomForOneMore 79 = .ok (.laload, 1) := by decide +kernel
theorem dX2_makeRoomForOneMore_80 : decode cX2_makeRoomForOneMore 80 = .ok (.lload_n 2, 1) := by decide +kernel
theorem dX2_makeRoomForOneMore_81 : decode cX2_makeRoomForOneMore 81 = .ok (.land, 1) := by decide +kernel
theorem dX2_makeRoomForOneMore_82 : decode cX2_makeRoomForOneMore 82 = .ok (.lor, 1) := by decide +kernel
theorem dX2_makeRoomForOneMore_83 : decode cX2_makeRoomForOneMore 83 = .ok (.invokestatic 100, 3) := by decide +kernel
theorem dX2_makeRoomForOneMore_86 : decode cX2_makeRoomForOneMore 86 = .ok (.lastore, 1) := by decide +kernel
theorem dX2_makeRoomForOneMore_87 : decode cX2_makeRoomForOneMore 87 = .ok (.iinc 1 1, 3) := by decide +kernel
theorem dX2_makeRoomForOneMore_90 : decode cX2_makeRoomForOneMore 90 = .ok (.goto (-88), 3) := by decide +kernel
theorem dX2_makeRoomForOneMore_93 : decode cX2_makeRoomForOneMore 93 = .ok (.aload_n 0, 1) := by decide +kernel
theorem dX2_makeRoomForOneMore_94 : decode cX2_makeRoomForOneMore 94 = .ok (.getfield 25, 3) := by decide +kernel
theorem dX2_makeRoomForOneMore_97 : decode cX2_makeRoomForOneMore 97 = .ok (.iconst 0, 1) := by decide +kernel
theorem dX2_makeRoomForOneMore_98 : decode cX2_makeRoomForOneMore 98 = .ok (.aload_n 0, 1) := by decide +kernel
theorem dX2_makeRoomForOneMore_99 : decode cX2_makeRoomForOneMore 99 = .ok (.getfield 22, 3) := by decide +kernel
theorem dX2_makeRoomForOneMore_102 : decode cX2_makeRoomForOneMore 102 = .ok (.iconst 0, 1) := by decide +kernel
theorem dX2_makeRoomForOneMore_103 : decode cX2_makeRoomForOneMore 103 = .ok (.bipush 64, 2) := by decide +kernel
theorem dX2_makeRoomForOneMore_105 : decode cX2_makeRoomForOneMore 105 = .ok (.invokestatic 104, 3) := by decide +kernel
theorem dX2_makeRoomForOneMore_108 : decode cX2_makeRoomForOneMore 108 = .ok (.return_, 1) := by decide +kernel
abbrev cxX2_makeRoomForOneMore (G : Rg) (X : Ct) : Prop := Cx G X cX2_makeRoomForOneMore 8 RX2 (none) 1 40 (Cond.code yX2_makeRoomForOneMore cX2_makeRoomForOneMore 8 (none))
def fX2_makeRoomForOneMore_b93   (M : Mm) : Option (Unit × Mm) :=
some ((), (cpL M 19 18 (nI 64).toNatClampNeg))
set_option maxHeartbeats 4000000 in
set_option maxRecDepth 100000 in
theorem vX2_makeRoomForOneMore_b93 {G : Rg} {X : Ct} {r : Unit} {Mf : Mm}   (C : cxX2_makeRoomForOneMore G X) (hG : gS G = shX)   (M : Mm) (hf : fX2_makeRoomForOneMore_b93 M = some (r, Mf)) : V G X 8 none Mf 93 [(0, .ref (gA G 14))] [] M := by
  rw [fX2_makeRoomForOneMore_b93] at hf
  refine V.aload_n (pc := 93) C 0 rfl dX2_makeRoomForOneMore_93 ?_
  refine V.getR (pc := 94) C clX2 inX2 (sx_14 hG) 8 (by decide) wF_X2_25 rfl dX2_makeRoomForOneMore_94 ?_
  refine V.iconst (pc := 97) C (nI 0) (by decide) dX2_makeRoomForOneMore_97 ?_
  refine V.aload_n (pc := 98) C 0 rfl dX2_makeRoomForOneMore_98 ?_
  refine V.getR (pc := 99) C clX2 inX2 (sx_14 hG) 7 (by decide) wF_X2_22 rfl dX2_makeRoomForOneMore_99 ?_
  refine V.iconst (pc := 102) C (nI 0) (by decide) dX2_makeRoomForOneMore_102 ?_
  refine V.bipush (pc := 103) C (nI 64) (by decide) dX2_makeRoomForOneMore_103 ?_
  refine V.copyL (pc := 105) C mc_X2_104 (sx_19 hG) (sx_18 hG) (by decide) (by decide) (by decide) (by decide) (by decide) dX2_makeRoomForOneMore_105 ?_
  exact V.retV (pc := 108) C hf dX2_makeRoomForOneMore_108
def fX2_makeRoomForOneMore_b67 (nx2 : Int32 → Mm → Option (Unit × Mm))  (v1 : Int32) (v2 : Int64) (v4 : Int64) (M : Mm) : Option (Unit × Mm) :=
gd (inb v1 64) (
bd (fX2_withGreaterLots (v4 ||| ((M.2 17 v1.toNatClampNeg) &&& v2)) M) fun r2 M2 =>
gd (inb v1 64) (
nx2 (v1 + (nI 1)) (sL M2 19 v1.toNatClampNeg r2)))
set_option maxHeartbeats 4000000 in
set_option maxRecDepth 100000 in
theorem vX2_makeRoomForOneMore_b67 {G : Rg} {X : Ct} {r : Unit} {Mf : Mm}  {nx2 : Int32 → Mm → Option (Unit × Mm)} (C : cxX2_makeRoomForOneMore G X) (hG : gS G = shX)  (hx2 : ∀ (v1 : Int32) (M : Mm), nx2 v1 M = some (r, Mf) → V G X 8 none Mf 2 [(0, .ref (gA G 14)), (1, .int v1)] [] M) (v1 : Int32) (v2 : Int64) (v4 : Int64) (M : Mm) (hf : fX2_makeRoomForOneMore_b67 nx2 v1 v2 v4 M = some (r, Mf)) : V G X 8 none Mf 67 [(0, .ref (gA G 14)), (1, .int v1), (2, .long v2), (4, .long v4)] [] M := by
  rw [fX2_makeRoomForOneMore_b67] at hf
  refine V.aload_n (pc := 67) C 0 rfl dX2_makeRoomForOneMore_67 ?_
  refine V.getR (pc := 68) C clX2 inX2 (sx_14 hG) 8 (by decide) wF_X2_25 rfl dX2_makeRoomForOneMore_68 ?_
  refine V.iload_n (pc := 71) C 1 rfl dX2_makeRoomForOneMore_71 ?_
  refine V.lload (pc := 72) C 3 rfl dX2_makeRoomForOneMore_72 ?_
  refine V.aload_n (pc := 74) C 0 rfl dX2_makeRoomForOneMore_74 ?_
  refine V.getR (pc := 75) C clX2 inX2 (sx_14 hG) 6 (by decide) wF_X2_18 rfl dX2_makeRoomForOneMore_75 ?_
  refine V.iload_n (pc := 78) C 1 rfl dX2_makeRoomForOneMore_78 ?_
  obtain ⟨g1, hf⟩ := gd_some hf
  refine V.lald (pc := 79) C (sx_17 hG) (inb_in g1) dX2_makeRoomForOneMore_79 ?_
  refine V.lload_n (pc := 80) C 2 rfl dX2_makeRoomForOneMore_80 ?_
  refine V.land (pc := 81) C dX2_makeRoomForOneMore_81 ?_
  refine V.lor (pc := 82) C dX2_makeRoomForOneMore_82 ?_
  obtain ⟨r2, M2, h2, hf⟩ := bd_some hf
  refine V.callSl (pc := 83) (As := [.long (v4 ||| ((M.2 17 v1.toNatClampNeg) &&& v2))]) (rest := [.int v1, .ref (gA G 19)]) C (mX2_withGreaterLots X.2.1 hG  h2) mf_X2_withGreaterLots wM_X2_100 rfl rfl ⟨by decide, by decide⟩ (Nat.le_of_ble_eq_true rfl) dX2_makeRoomForOneMore_83 ?_
  obtain ⟨g3, hf⟩ := gd_some hf
  refine V.last (pc := 86) C (sx_19 hG) (inb_in g3) dX2_makeRoomForOneMore_86 ?_
  refine V.iinc (pc := 87) (lv' := [(1, .int (v1 + (nI 1))), (0, .ref (gA G 14)), (2, .long v2), (4, .long v4)]) C (v1 + (nI 1)) 1 rfl rfl (by decide) rfl dX2_makeRoomForOneMore_87 ?_
  refine V.goto (pc := 90) C 2 (by decide) dX2_makeRoomForOneMore_90 ?_
  refine V.sub C [1, 0] (lv' := [(0, .ref (gA G 14)), (1, .int (v1 + (nI 1)))]) rfl ?_
  exact hx2 _ _ hf
def fX2_makeRoomForOneMore_b16 (nx2 : Int32 → Mm → Option (Unit × Mm))  : Nat → Int32 → Int64 → Int64 → Int32 → Mm → Option (Unit × Mm)
  | 0, _, _, _, _, _ => none
  | n + 1, v1, v2, v4, v6, M =>
    if (nI 6) ≤ v6 then
    (fX2_makeRoomForOneMore_b67 nx2 v1 v2 v4 M)
    else
    (if (v1 &&& ((jshl (nI 1) v6) ^^^ (mI 1))) = v1 then
    (fX2_makeRoomForOneMore_b16 nx2 n v1 v2 v4 (v6 + (nI 1)) M)
    else
    (gd (inb (v1 &&& ((jshl (nI 1) v6) ^^^ (mI 1))) 64) (
    gd (inb (v1 &&& ((jshl (nI 1) v6) ^^^ (mI 1))) 64) (
    fX2_makeRoomForOneMore_b16 nx2 n v1 (v2 ||| (M.2 18 (v1 &&& ((jshl (nI 1) v6) ^^^ (mI 1))).toNatClampNeg)) (v4 ||| (M.2 19 (v1 &&& ((jshl (nI 1) v6) ^^^ (mI 1))).toNatClampNeg)) (v6 + (nI 1)) M))))
set_option maxHeartbeats 4000000 in
set_option maxRecDepth 100000 in
theorem vX2_makeRoomForOneMore_b16 {G : Rg} {X : Ct} {r : Unit} {Mf : Mm}  {nx2 : Int32 → Mm → Option (Unit × Mm)} (C : cxX2_makeRoomForOneMore G X) (hG : gS G = shX)  (hx2 : ∀ (v1 : Int32) (M : Mm), nx2 v1 M = some (r, Mf) → V G X 8 none Mf 2 [(0, .ref (gA G 14)), (1, .int v1)] [] M) : ∀ (n : Nat) (v1 : Int32) (v2 : Int64) (v4 : Int64) (v6 : Int32) (M : Mm), fX2_makeRoomForOneMore_b16 nx2 n v1 v2 v4 v6 M = some (r, Mf) → V G X 8 none Mf 16 [(0, .ref (gA G 14)), (1, .int v1), (2, .long v2), (4, .long v4), (6, .int v6)] [] M := by
  intro n
  induction n with
  | zero => intro v1 v2 v4 v6 M hf; rw [fX2_makeRoomForOneMore_b16] at hf; cases hf
  | succ n ih =>
    intro v1 v2 v4 v6 M hf
    rw [fX2_makeRoomForOneMore_b16] at hf
    refine V.iload (pc := 16) C 4 rfl dX2_makeRoomForOneMore_16 ?_
    refine V.bipush (pc := 18) C (nI 6) (by decide) dX2_makeRoomForOneMore_18 ?_
    rcases it_some hf with ⟨h1, hf⟩ | ⟨h1, hf⟩
    · refine V.ic_geT (pc := 20) C 67 h1 (by decide) dX2_makeRoomForOneMore_20 ?_
      refine V.sub C [0, 1, 2, 3] (lv' := [(0, .ref (gA G 14)), (1, .int v1), (2, .long v2), (4, .long v4)]) rfl ?_
      exact vX2_makeRoomForOneMore_b67 C hG  hx2  _ _ _ _ hf
    · refine V.ic_geF (pc := 20) C 67 h1 (by decide) dX2_makeRoomForOneMore_20 ?_
      refine V.iload_n (pc := 23) C 1 rfl dX2_makeRoomForOneMore_23 ?_
      refine V.iconst (pc := 24) C (nI 1) (by decide) dX2_makeRoomForOneMore_24 ?_
      refine V.iload (pc := 25) C 4 rfl dX2_makeRoomForOneMore_25 ?_
      refine V.ishl (pc := 27) C dX2_makeRoomForOneMore_27 ?_
      refine V.iconst (pc := 28) C (mI 1) (by decide) dX2_makeRoomForOneMore_28 ?_
      refine V.ixor (pc := 29) C dX2_makeRoomForOneMore_29 ?_
      refine V.iand (pc := 30) C dX2_makeRoomForOneMore_30 ?_
      refine V.istore (pc := 31) (lv' := [(7, .int (v1 &&& ((jshl (nI 1) v6) ^^^ (mI 1)))), (0, .ref (gA G 14)), (1, .int v1), (2, .long v2), (4, .long v4), (6, .int v6)]) C (by decide) rfl dX2_makeRoomForOneMore_31 ?_
      refine V.iload (pc := 33) C 0 rfl dX2_makeRoomForOneMore_33 ?_
      refine V.iload_n (pc := 35) C 2 rfl dX2_makeRoomForOneMore_35 ?_
      rcases it_some hf with ⟨h2, hf⟩ | ⟨h2, hf⟩
      · refine V.ic_eqT (pc := 36) C 61 h2 (by decide) dX2_makeRoomForOneMore_36 ?_
        refine V.iinc (pc := 61) (lv' := [(6, .int (v6 + (nI 1))), (7, .int (v1 &&& ((jshl (nI 1) v6) ^^^ (mI 1)))), (0, .ref (gA G 14)), (1, .int v1), (2, .long v2), (4, .long v4)]) C (v6 + (nI 1)) 5 rfl rfl (by decide) rfl dX2_makeRoomForOneMore_61 ?_
        refine V.goto (pc := 64) C 16 (by decide) dX2_makeRoomForOneMore_64 ?_
        refine V.sub C [2, 3, 4, 5, 0] (lv' := [(0, .ref (gA G 14)), (1, .int v1), (2, .long v2), (4, .long v4), (6, .int (v6 + (nI 1)))]) rfl ?_
        exact ih _ _ _ _ _ hf
      · refine V.ic_eqF (pc := 36) C 61 h2 (by decide) dX2_makeRoomForOneMore_36 ?_
        refine V.lload_n (pc := 39) C 3 rfl dX2_makeRoomForOneMore_39 ?_
        refine V.aload_n (pc := 40) C 1 rfl dX2_makeRoomForOneMore_40 ?_
        refine V.getR (pc := 41) C clX2 inX2 (sx_14 hG) 7 (by decide) wF_X2_22 rfl dX2_makeRoomForOneMore_41 ?_
        refine V.iload (pc := 44) C 0 rfl dX2_makeRoomForOneMore_44 ?_
        obtain ⟨g3, hf⟩ := gd_some hf
        refine V.lald (pc := 46) C (sx_18 hG) (inb_in g3) dX2_makeRoomForOneMore_46 ?_
        refine V.lor (pc := 47) C dX2_makeRoomForOneMore_47 ?_
        refine V.lstore_n (pc := 48) (lv' := [(2, .long (v2 ||| (M.2 18 (v1 &&& ((jshl (nI 1) v6) ^^^ (mI 1))).toNatClampNeg))), (7, .int (v1 &&& ((jshl (nI 1) v6) ^^^ (mI 1)))), (0, .ref (gA G 14)), (1, .int v1), (4, .long v4), (6, .int v6)]) C (by decide) rfl dX2_makeRoomForOneMore_48 ?_
        refine V.lload (pc := 49) C 4 rfl dX2_makeRoomForOneMore_49 ?_
        refine V.aload_n (pc := 51) C 2 rfl dX2_makeRoomForOneMore_51 ?_
        refine V.getR (pc := 52) C clX2 inX2 (sx_14 hG) 8 (by decide) wF_X2_25 rfl dX2_makeRoomForOneMore_52 ?_
        refine V.iload (pc := 55) C 1 rfl dX2_makeRoomForOneMore_55 ?_
        obtain ⟨g4, hf⟩ := gd_some hf
        refine V.lald (pc := 57) C (sx_19 hG) (inb_in g4) dX2_makeRoomForOneMore_57 ?_
        refine V.lor (pc := 58) C dX2_makeRoomForOneMore_58 ?_
        refine V.lstore (pc := 59) (lv' := [(4, .long (v4 ||| (M.2 19 (v1 &&& ((jshl (nI 1) v6) ^^^ (mI 1))).toNatClampNeg))), (2, .long (v2 ||| (M.2 18 (v1 &&& ((jshl (nI 1) v6) ^^^ (mI 1))).toNatClampNeg))), (7, .int (v1 &&& ((jshl (nI 1) v6) ^^^ (mI 1)))), (0, .ref (gA G 14)), (1, .int v1), (6, .int v6)]) C (by decide) rfl dX2_makeRoomForOneMore_59 ?_
        refine V.iinc (pc := 61) (lv' := [(6, .int (v6 + (nI 1))), (4, .long (v4 ||| (M.2 19 (v1 &&& ((jshl (nI 1) v6) ^^^ (mI 1))).toNatClampNeg))), (2, .long (v2 ||| (M.2 18 (v1 &&& ((jshl (nI 1) v6) ^^^ (mI 1))).toNatClampNeg))), (7, .int (v1 &&& ((jshl (nI 1) v6) ^^^ (mI 1)))), (0, .ref (gA G 14)), (1, .int v1)]) C (v6 + (nI 1)) 5 rfl rfl (by decide) rfl dX2_makeRoomForOneMore_61 ?_
        refine V.goto (pc := 64) C 16 (by decide) dX2_makeRoomForOneMore_64 ?_
        refine V.sub C [4, 5, 2, 1, 0] (lv' := [(0, .ref (gA G 14)), (1, .int v1), (2, .long (v2 ||| (M.2 18 (v1 &&& ((jshl (nI 1) v6) ^^^ (mI 1))).toNatClampNeg))), (4, .long (v4 ||| (M.2 19 (v1 &&& ((jshl (nI 1) v6) ^^^ (mI 1))).toNatClampNeg))), (6, .int (v6 + (nI 1)))]) rfl ?_
        exact ih _ _ _ _ _ hf
def fX2_makeRoomForOneMore_b2   : Nat → Int32 → Mm → Option (Unit × Mm)
  | 0, _, _ => none
  | n + 1, v1, M =>
    if (nI 64) ≤ v1 then
    (fX2_makeRoomForOneMore_b93 M)
    else
    (fX2_makeRoomForOneMore_b16 (fX2_makeRoomForOneMore_b2  n) fu v1 (lN 0) (lN 0) (nI 0) M)
set_option maxHeartbeats 4000000 in
set_option maxRecDepth 100000 in
theorem vX2_makeRoomForOneMore_b2 {G : Rg} {X : Ct} {r : Unit} {Mf : Mm}   (C : cxX2_makeRoomForOneMore G X) (hG : gS G = shX)   : ∀ (n : Nat) (v1 : Int32) (M : Mm), fX2_makeRoomForOneMore_b2 n v1 M = some (r, Mf) → V G X 8 none Mf 2 [(0, .ref (gA G 14)), (1, .int v1)] [] M := by
  intro n
  induction n with
  | zero => intro v1 M hf; rw [fX2_makeRoomForOneMore_b2] at hf; cases hf
  | succ n ih =>
    intro v1 M hf
    rw [fX2_makeRoomForOneMore_b2] at hf
    refine V.iload_n (pc := 2) C 1 rfl dX2_makeRoomForOneMore_2 ?_
    refine V.bipush (pc := 3) C (nI 64) (by decide) dX2_makeRoomForOneMore_3 ?_
    rcases it_some hf with ⟨h1, hf⟩ | ⟨h1, hf⟩
    · refine V.ic_geT (pc := 5) C 93 h1 (by decide) dX2_makeRoomForOneMore_5 ?_
      refine V.sub C [0] (lv' := [(0, .ref (gA G 14))]) rfl ?_
      exact vX2_makeRoomForOneMore_b93 C hG    _ hf
    · refine V.ic_geF (pc := 5) C 93 h1 (by decide) dX2_makeRoomForOneMore_5 ?_
      refine V.lconst (pc := 8) C (lN 0) (by decide) dX2_makeRoomForOneMore_8 ?_
      refine V.lstore_n (pc := 9) (lv' := [(2, .long (lN 0)), (0, .ref (gA G 14)), (1, .int v1)]) C (by decide) rfl dX2_makeRoomForOneMore_9 ?_
      refine V.lconst (pc := 10) C (lN 0) (by decide) dX2_makeRoomForOneMore_10 ?_
      refine V.lstore (pc := 11) (lv' := [(4, .long (lN 0)), (2, .long (lN 0)), (0, .ref (gA G 14)), (1, .int v1)]) C (by decide) rfl dX2_makeRoomForOneMore_11 ?_
      refine V.iconst (pc := 13) C (nI 0) (by decide) dX2_makeRoomForOneMore_13 ?_
      refine V.istore (pc := 14) (lv' := [(6, .int (nI 0)), (4, .long (lN 0)), (2, .long (lN 0)), (0, .ref (gA G 14)), (1, .int v1)]) C (by decide) rfl dX2_makeRoomForOneMore_14 ?_
      refine V.sub C [3, 4, 2, 1, 0] (lv' := [(0, .ref (gA G 14)), (1, .int v1), (2, .long (lN 0)), (4, .long (lN 0)), (6, .int (nI 0))]) rfl ?_
      exact vX2_makeRoomForOneMore_b16 C hG  ih fu _ _ _ _ _ hf
def fX2_makeRoomForOneMore  (M : Mm) : Option (Unit × Mm) :=
fX2_makeRoomForOneMore_b2 fu (nI 0) M
set_option maxHeartbeats 4000000 in
set_option maxRecDepth 100000 in
theorem mX2_makeRoomForOneMore (l : Launch) {G : Rg} (hG : gS G = shX)   {M Mf : Mm} {r : Unit} (hf : fX2_makeRoomForOneMore  M = some (r, Mf)) : Mt l G yX2_makeRoomForOneMore cX2_makeRoomForOneMore 8 (none) 1 40 [.ref (gA G 14)] M none Mf := by
  refine Mt.of (by decide) (Nat.le_of_ble_eq_true rfl) ?_
  intro X C hX
  subst hX
  have C : cxX2_makeRoomForOneMore G X := C
  show V G X 8 none Mf 0 [(0, .ref (gA G 14))] [] M
  rw [fX2_makeRoomForOneMore] at hf
  refine V.iconst (pc := 0) C (nI 0) (by decide) dX2_makeRoomForOneMore_0 ?_
  refine V.istore_n (pc := 1) (lv' := [(1, .int (nI 0)), (0, .ref (gA G 14))]) C (by decide) rfl dX2_makeRoomForOneMore_1 ?_
  refine V.sub C [1, 0] (lv' := [(0, .ref (gA G 14)), (1, .int (nI 0))]) rfl ?_
  exact vX2_makeRoomForOneMore_b2 C hG   fu _ _ hf
theorem dX2_mostInARow_0 : decode cX2_mostInARow 0 = .ok (.aload_n 0, 1) := by decide +kernel
theorem dX2_mostInARow_1 : decode cX2_mostInARow 1 = .ok (.aload_n 1, 1) := by decide +kernel
theorem dX2_mostInARow_2 : decode cX2_mostInARow 2 = .ok (.invokevirtual 45, 3) := by decide +kernel
theorem dX2_mostInARow_5 : decode cX2_mostInARow 5 = .ok (.aload_n 0, 1) := by decide +kernel
theorem dX2_mostInARow_6 : decode cX2_mostInARow 6 = .ok (.invokevirtual 82, 3) := by decide +kernel
theorem dX2_mostInARow_9 : decode cX2_mostInARow 9 = .ok (.aload_n 0, 1) := by decide +kernel
theorem dX2_mostInARow_10 : decode cX2_mostInARow 10 = .ok (.getfield 22, 3) := by decide +kernel
theorem dX2_mostInARow_13 : decode cX2_mostInARow 13 = .ok (.ldc2_w 85, 3) := by decide +kernel
theorem dX2_mostInARow_16 : decode cX2_mostInARow 16 = .ok (.invokestatic 87, 3) := by decide +kernel
theorem dX2_mostInARow_19 : decode cX2_mostInARow 19 = .ok (.iconst 0, 1) := by decide +kernel
theorem dX2_mostInARow_20 : decode cX2_mostInARow 20 = .ok (.istore_n 2, 1) := by decide +kernel
theorem dX2_mostInARow_21 : decode cX2_mostInARow 21 = .ok (.iconst 1, 1) := by decide +kernel
theorem dX2_mostInARow_22 : decode cX2_mostInARow 22 = .ok (.istore_n 3, 1) := by decide +kernel
theorem dX2_mostInARow_23 : decode cX2_mostInARow 23 = .ok (.iload_n 3, 1) := by decide +kernel
theorem dX2_mostInARow_24 : decode cX2_mostInARow 24 = .ok (.bipush 6, 2) := by decide +kernel
theorem dX2_mostInARow_26 : decode cX2_mostInARow 26 = .ok (.if_icmp .gt 36, 3) := by decide +kernel
theorem dX2_mostInARow_29 : decode cX2_mostInARow 29 = .ok (.aload_n 0, 1) := by decide +kernel
theorem dX2_mostInARow_30 : decode cX2_mostInARow 30 = .ok (.invokevirtual 93, 3) := by decide +kernel
theorem dX2_mostInARow_33 : decode cX2_mostInARow 33 = .ok (.aload_n 0, 1) := by decide +kernel
theorem dX2_mostInARow_34 : decode cX2_mostInARow 34 = .ok (.getfield 22, 3) := by decide +kernel
theorem dX2_mostInARow_37 : decode cX2_mostInARow 37 = .ok (.aload_n 0, 1) := by decide +kernel
theorem dX2_mostInARow_38 : decode cX2_mostInARow 38 = .ok (.getfield 50, 3) := by decide +kernel
theorem dX2_mostInARow_41 : decode cX2_mostInARow 41 = .ok (.laload, 1) := by decide +kernel
theorem dX2_mostInARow_42 : decode cX2_mostInARow 42 = .ok (.aload_n 0, 1) := by decide +kernel
theorem dX2_mostInARow_43 : decode cX2_mostInARow 43 = .ok (.getfield 63, 3) := by decide +kernel
theorem dX2_mostInARow_46 : decode cX2_mostInARow 46 = .ok (.lushr, 1) := by decide +kernel
theorem dX2_mostInARow_47 : decode cX2_mostInARow 47 = .ok (.lconst 1, 1) := by decide +kernel
theorem dX2_mostInARow_48 : decode cX2_mostInARow 48 = .ok (.land, 1) := by decide +kernel
theorem dX2_mostInARow_49 : decode cX2_mostInARow 49 = .ok (.lconst 1, 1) := by decide +kernel
theorem dX2_mostInARow_50 : decode cX2_mostInARow 50 = .ok (.lcmp, 1) := by decide +kernel
theorem dX2_mostInARow_51 : decode cX2_mostInARow 51 = .ok (.ifCond .ne 5, 3) := by decide +kernel
theorem dX2_mostInARow_54 : decode cX2_mostInARow 54 = .ok (.iload_n 3, 1) := by decide +kernel
theorem dX2_mostInARow_55 : decode cX2_mostInARow 55 = .ok (.istore_n 2, 1) := by decide +kernel
theorem dX2_mostInARow_56 : decode cX2_mostInARow 56 = .ok (.iinc 3 1, 3) := by decide +kernel
theorem dX2_mostInARow_59 : decode cX2_mostInARow 59 = .ok (.goto (-36), 3) := by decide +kernel
theorem dX2_mostInARow_62 : decode cX2_mostInARow 62 = .ok (.iload_n 2, 1) := by decide +kernel
theorem dX2_mostInARow_63 : decode cX2_mostInARow 63 = .ok (.ireturn, 1) := by decide +kernel
abbrev cxX2_mostInARow (G : Rg) (X : Ct) : Prop := Cx G X cX2_mostInARow 4 RX2 (some .int) 3 68 (Cond.code yX2_mostInARow cX2_mostInARow 4 (some .int))
def fX2_mostInARow_b23  (c1 : Nat) : Nat → Int32 → Int32 → Mm → Option (Int32 × Mm)
  | 0, _, _, _ => none
  | n + 1, v2, v3, M =>
    if (nI 6) < v3 then
    (some (v2, M))
    else
    (bd (fX2_makeRoomForOneMore M) fun _ M2 =>
    gd (inb (M2.1 14 2) 64) (
    if (lg_cmp ((jlushr (M2.2 18 (M2.1 14 2).toNatClampNeg) (M2.1 14 3)) &&& (lN 1)) (lN 1)) = (nI 0) then
    (fX2_mostInARow_b23 c1 n v3 (v3 + (nI 1)) M2)
    else
    (fX2_mostInARow_b23 c1 n v2 (v3 + (nI 1)) M2)))
set_option maxHeartbeats 4000000 in
set_option maxRecDepth 100000 in
theorem vX2_mostInARow_b23 {G : Rg} {X : Ct} {r : Int32} {Mf : Mm} {c1 : Nat}  (C : cxX2_mostInARow G X) (hG : gS G = shX) (hB1 : isB G c1)  : ∀ (n : Nat) (v2 : Int32) (v3 : Int32) (M : Mm), fX2_mostInARow_b23 c1 n v2 v3 M = some (r, Mf) → V G X 4 (some (.int r)) Mf 23 [(0, .ref (gA G 14)), (2, .int v2), (3, .int v3)] [] M := by
  intro n
  induction n with
  | zero => intro v2 v3 M hf; rw [fX2_mostInARow_b23] at hf; cases hf
  | succ n ih =>
    intro v2 v3 M hf
    rw [fX2_mostInARow_b23] at hf
    refine V.iload_n (pc := 23) C 2 rfl dX2_mostInARow_23 ?_
    refine V.bipush (pc := 24) C (nI 6) (by decide) dX2_mostInARow_24 ?_
    rcases it_some hf with ⟨h1, hf⟩ | ⟨h1, hf⟩
    · refine V.ic_gtT (pc := 26) C 62 h1 (by decide) dX2_mostInARow_26 ?_
      refine V.iload_n (pc := 62) C 1 rfl dX2_mostInARow_62 ?_
      exact V.retI (pc := 63) C hf dX2_mostInARow_63
    · refine V.ic_gtF (pc := 26) C 62 h1 (by decide) dX2_mostInARow_26 ?_
      refine V.aload_n (pc := 29) C 0 rfl dX2_mostInARow_29 ?_
      obtain ⟨_, M2, h2, hf⟩ := bd_some hf
      refine V.callVv (pc := 30) (As := []) (rest := []) C (mX2_makeRoomForOneMore X.2.1 hG  h2) mf_X2_makeRoomForOneMore clX2 (sx_14 hG) wM_X2_93 rfl rfl ⟨by decide, by decide⟩ (Nat.le_of_ble_eq_true rfl) dX2_mostInARow_30 ?_
      refine V.aload_n (pc := 33) C 0 rfl dX2_mostInARow_33 ?_
      refine V.getR (pc := 34) C clX2 inX2 (sx_14 hG) 7 (by decide) wF_X2_22 rfl dX2_mostInARow_34 ?_
      refine V.aload_n (pc := 37) C 0 rfl dX2_mostInARow_37 ?_
      refine V.getI (pc := 38) C clX2 inX2 (sx_14 hG) 2 (by decide) wF_X2_50 rfl dX2_mostInARow_38 ?_
      obtain ⟨g3, hf⟩ := gd_some hf
      refine V.lald (pc := 41) C (sx_18 hG) (inb_in g3) dX2_mostInARow_41 ?_
      refine V.aload_n (pc := 42) C 0 rfl dX2_mostInARow_42 ?_
      refine V.getI (pc := 43) C clX2 inX2 (sx_14 hG) 3 (by decide) wF_X2_63 rfl dX2_mostInARow_43 ?_
      refine V.lushr (pc := 46) C dX2_mostInARow_46 ?_
      refine V.lconst (pc := 47) C (lN 1) (by decide) dX2_mostInARow_47 ?_
      refine V.land (pc := 48) C dX2_mostInARow_48 ?_
      refine V.lconst (pc := 49) C (lN 1) (by decide) dX2_mostInARow_49 ?_
      refine V.lcmp (pc := 50) C dX2_mostInARow_50 ?_
      rcases it_some hf with ⟨h4, hf⟩ | ⟨h4, hf⟩
      · refine V.if_neF (pc := 51) C 56 h4 (by decide) dX2_mostInARow_51 ?_
        refine V.iload_n (pc := 54) C 2 rfl dX2_mostInARow_54 ?_
        refine V.istore_n (pc := 55) (lv' := [(2, .int v3), (0, .ref (gA G 14)), (3, .int v3)]) C (by decide) rfl dX2_mostInARow_55 ?_
        refine V.iinc (pc := 56) (lv' := [(3, .int (v3 + (nI 1))), (2, .int v3), (0, .ref (gA G 14))]) C (v3 + (nI 1)) 2 rfl rfl (by decide) rfl dX2_mostInARow_56 ?_
        refine V.goto (pc := 59) C 23 (by decide) dX2_mostInARow_59 ?_
        refine V.sub C [2, 1, 0] (lv' := [(0, .ref (gA G 14)), (2, .int v3), (3, .int (v3 + (nI 1)))]) rfl ?_
        exact ih _ _ _ hf
      · refine V.if_neT (pc := 51) C 56 h4 (by decide) dX2_mostInARow_51 ?_
        refine V.iinc (pc := 56) (lv' := [(3, .int (v3 + (nI 1))), (0, .ref (gA G 14)), (2, .int v2)]) C (v3 + (nI 1)) 2 rfl rfl (by decide) rfl dX2_mostInARow_56 ?_
        refine V.goto (pc := 59) C 23 (by decide) dX2_mostInARow_59 ?_
        refine V.sub C [1, 2, 0] (lv' := [(0, .ref (gA G 14)), (2, .int v2), (3, .int (v3 + (nI 1)))]) rfl ?_
        exact ih _ _ _ hf
def fX2_mostInARow (c1 : Nat) (M : Mm) : Option (Int32 × Mm) :=
bd (fX2_weighLots c1 M) fun _ M1 =>
bd (fX2_markEven M1) fun _ M2 =>
bd (fJ7_fill_d0a16 18 64 (-1 : Int64) M2) fun _ M3 =>
fX2_mostInARow_b23 c1 fu (nI 0) (nI 1) M3
set_option maxHeartbeats 4000000 in
set_option maxRecDepth 100000 in
theorem mX2_mostInARow (l : Launch) {G : Rg} (hG : gS G = shX) {c1 : Nat} (hB1 : isB G c1) {M Mf : Mm} {r : Int32} (hf : fX2_mostInARow c1 M = some (r, Mf)) : Mt l G yX2_mostInARow cX2_mostInARow 4 (some .int) 3 68 [.ref (gA G 14), .ref (gA G c1)] M (some (.int r)) Mf := by
  refine Mt.of (by decide) (Nat.le_of_ble_eq_true rfl) ?_
  intro X C hX
  subst hX
  have C : cxX2_mostInARow G X := C
  show V G X 4 (some (.int r)) Mf 0 [(0, .ref (gA G 14)), (1, .ref (gA G c1))] [] M
  rw [fX2_mostInARow] at hf
  refine V.aload_n (pc := 0) C 0 rfl dX2_mostInARow_0 ?_
  refine V.aload_n (pc := 1) C 1 rfl dX2_mostInARow_1 ?_
  obtain ⟨_, M1, h1, hf⟩ := bd_some hf
  refine V.callVv (pc := 2) (As := [.ref (gA G c1)]) (rest := []) C (mX2_weighLots X.2.1 hG hB1 h1) mf_X2_weighLots clX2 (sx_14 hG) wM_X2_45 rfl rfl ⟨by decide, by decide⟩ (Nat.le_of_ble_eq_true rfl) dX2_mostInARow_2 ?_
  refine V.aload_n (pc := 5) C 0 rfl dX2_mostInARow_5 ?_
  obtain ⟨_, M2, h2, hf⟩ := bd_some hf
  refine V.callVv (pc := 6) (As := []) (rest := []) C (mX2_markEven X.2.1 hG  h2) mf_X2_markEven clX2 (sx_14 hG) wM_X2_82 rfl rfl ⟨by decide, by decide⟩ (Nat.le_of_ble_eq_true rfl) dX2_mostInARow_6 ?_
  refine V.aload_n (pc := 9) C 0 rfl dX2_mostInARow_9 ?_
  refine V.getR (pc := 10) C clX2 inX2 (sx_14 hG) 7 (by decide) wF_X2_22 rfl dX2_mostInARow_10 ?_
  refine V.ldc2 (pc := 13) C wL_X2_85 dX2_mostInARow_13 ?_
  obtain ⟨_, M3, h3, hf⟩ := bd_some hf
  refine V.callSv (pc := 16) (As := [.ref (gA G 18), .long (-1 : Int64)]) (rest := []) C (mJ7_fill_d0a16 X.2.1 (sx_18 hG) h3) mf_J7_fill_d0a16 wM_X2_87 rfl rfl ⟨by decide, by decide⟩ (Nat.le_of_ble_eq_true rfl) dX2_mostInARow_16 ?_
  refine V.iconst (pc := 19) C (nI 0) (by decide) dX2_mostInARow_19 ?_
  refine V.istore_n (pc := 20) (lv' := [(2, .int (nI 0)), (0, .ref (gA G 14)), (1, .ref (gA G c1))]) C (by decide) rfl dX2_mostInARow_20 ?_
  refine V.iconst (pc := 21) C (nI 1) (by decide) dX2_mostInARow_21 ?_
  refine V.istore_n (pc := 22) (lv' := [(3, .int (nI 1)), (2, .int (nI 0)), (0, .ref (gA G 14)), (1, .ref (gA G c1))]) C (by decide) rfl dX2_mostInARow_22 ?_
  refine V.sub C [2, 1, 0] (lv' := [(0, .ref (gA G 14)), (2, .int (nI 0)), (3, .int (nI 1))]) rfl ?_
  exact vX2_mostInARow_b23 C hG hB1  fu _ _ _ hf
theorem dX8_lots_0 : decode cX8_lots 0 = .ok (.aload_n 0, 1) := by decide +kernel
theorem dX8_lots_1 : decode cX8_lots 1 = .ok (.getfield 33, 3) := by decide +kernel
theorem dX8_lots_4 : decode cX8_lots 4 = .ok (.aload_n 0, 1) := by decide +kernel
theorem dX8_lots_5 : decode cX8_lots 5 = .ok (.getfield 12, 3) := by decide +kernel
theorem dX8_lots_8 : decode cX8_lots 8 = .ok (.invokevirtual 169, 3) := by decide +kernel
theorem dX8_lots_11 : decode cX8_lots 11 = .ok (.ireturn, 1) := by decide +kernel
abbrev cxX8_lots (G : Rg) (X : Ct) : Prop := Cx G X cX8_lots 1 RX8 (some .int) 4 91 (Cond.code yX8_lots cX8_lots 1 (some .int))
def fX8_lots  (M : Mm) : Option (Int32 × Mm) :=
bd (fX2_mostInARow 1 M) fun r1 M1 =>
some (r1, M1)
set_option maxHeartbeats 4000000 in
set_option maxRecDepth 100000 in
theorem mX8_lots (l : Launch) {G : Rg} (hG : gS G = shX)   {M Mf : Mm} {r : Int32} (hf : fX8_lots  M = some (r, Mf)) : Mt l G yX8_lots cX8_lots 1 (some .int) 4 91 [.ref (gA G 0)] M (some (.int r)) Mf := by
  refine Mt.of (by decide) (Nat.le_of_ble_eq_true rfl) ?_
  intro X C hX
  subst hX
  have C : cxX8_lots G X := C
  show V G X 1 (some (.int r)) Mf 0 [(0, .ref (gA G 0))] [] M
  rw [fX8_lots] at hf
  refine V.aload_n (pc := 0) C 0 rfl dX8_lots_0 ?_
  refine V.getR (pc := 1) C clX8 inX8 (sx_0 hG) 3 (by decide) wF_X8_33 rfl dX8_lots_1 ?_
  refine V.aload_n (pc := 4) C 0 rfl dX8_lots_4 ?_
  refine V.getR (pc := 5) C clX8 inX8 (sx_0 hG) 0 (by decide) wF_X8_12 rfl dX8_lots_5 ?_
  obtain ⟨r1, M1, h1, hf⟩ := bd_some hf
  refine V.callVi (pc := 8) (As := [.ref (gA G 1)]) (rest := []) C (mX2_mostInARow X.2.1 hG (bx_1 hG) h1) mf_X2_mostInARow clX2 (sx_14 hG) wM_X8_169 rfl rfl ⟨by decide, by decide⟩ (Nat.le_of_ble_eq_true rfl) dX8_lots_8 ?_
  exact V.retI (pc := 11) C hf dX8_lots_11
theorem dX8_bothSidesOpen_0 : decode cX8_bothSidesOpen 0 = .ok (.aload_n 0, 1) := by decide +kernel
theorem dX8_bothSidesOpen_1 : decode cX8_bothSidesOpen 1 = .ok (.getfield 12, 3) := by decide +kernel
theorem dX8_bothSidesOpen_4 : decode cX8_bothSidesOpen 4 = .ok (.bipush 7, 2) := by decide +kernel
theorem dX8_bothSidesOpen_6 : decode cX8_bothSidesOpen 6 = .ok (.iconst 0, 1) := by decide +kernel
theorem dX8_bothSidesOpen_7 : decode cX8_bothSidesOpen 7 = .ok (.invokevirtual 227, 3) := by decide +kernel
theorem dX8_bothSidesOpen_10 : decode cX8_bothSidesOpen 10 = .ok (.ifCond .eq 20, 3) := by decide +kernel
theorem dX8_bothSidesOpen_13 : decode cX8_bothSidesOpen 13 = .ok (.aload_n 0, 1) := by decide +kernel
theorem dX8_bothSidesOpen_14 : decode cX8_bothSidesOpen 14 = .ok (.getfield 12, 3) := by decide +kernel
theorem dX8_bothSidesOpen_17 : decode cX8_bothSidesOpen 17 = .ok (.bipush 7, 2) := by decide +kernel
theorem dX8_bothSidesOpen_19 : decode cX8_bothSidesOpen 19 = .ok (.iconst 1, 1) := by decide +kernel
theorem dX8_bothSidesOpen_20 : decode cX8_bothSidesOpen 20 = .ok (.invokevirtual 227, 3) := by decide +kernel
theorem dX8_bothSidesOpen_23 : decode cX8_bothSidesOpen 23 = .ok (.ifCond .eq 7, 3) := by decide +kernel
theorem dX8_bothSidesOpen_26 : decode cX8_bothSidesOpen 26 = .ok (.iconst 1, 1) := by decide +kernel
theorem dX8_bothSidesOpen_27 : decode cX8_bothSidesOpen 27 = .ok (.goto 4, 3) := by decide +kernel
theorem dX8_bothSidesOpen_30 : decode cX8_bothSidesOpen 30 = .ok (.iconst 0, 1) := by decide +kernel
theorem dX8_bothSidesOpen_31 : decode cX8_bothSidesOpen 31 = .ok (.ireturn, 1) := by decide +kernel
abbrev cxX8_bothSidesOpen (G : Rg) (X : Ct) : Prop := Cx G X cX8_bothSidesOpen 1 RX8 (some .boolean) 2 45 (Cond.code yX8_bothSidesOpen cX8_bothSidesOpen 1 (some .boolean))
def fX8_bothSidesOpen  (M : Mm) : Option (Int32 × Mm) :=
bd (fX0_lotIn 1 (nI 7) (nI 0) M) fun r1 M1 =>
if r1 = (nI 0) then
(some ((nI 0), M1))
else
(bd (fX0_lotIn 1 (nI 7) (nI 1) M1) fun r3 M3 =>
if r3 = (nI 0) then
(some ((nI 0), M3))
else
(some ((nI 1), M3)))
set_option maxHeartbeats 4000000 in
set_option maxRecDepth 100000 in
theorem mX8_bothSidesOpen (l : Launch) {G : Rg} (hG : gS G = shX)   {M Mf : Mm} {r : Int32} (hf : fX8_bothSidesOpen  M = some (r, Mf)) : Mt l G yX8_bothSidesOpen cX8_bothSidesOpen 1 (some .boolean) 2 45 [.ref (gA G 0)] M (some (.int r)) Mf := by
  refine Mt.of (by decide) (Nat.le_of_ble_eq_true rfl) ?_
  intro X C hX
  subst hX
  have C : cxX8_bothSidesOpen G X := C
  show V G X 1 (some (.int r)) Mf 0 [(0, .ref (gA G 0))] [] M
  rw [fX8_bothSidesOpen] at hf
  refine V.aload_n (pc := 0) C 0 rfl dX8_bothSidesOpen_0 ?_
  refine V.getR (pc := 1) C clX8 inX8 (sx_0 hG) 0 (by decide) wF_X8_12 rfl dX8_bothSidesOpen_1 ?_
  refine V.bipush (pc := 4) C (nI 7) (by decide) dX8_bothSidesOpen_4 ?_
  refine V.iconst (pc := 6) C (nI 0) (by decide) dX8_bothSidesOpen_6 ?_
  obtain ⟨r1, M1, h1, hf⟩ := bd_some hf
  refine V.callVi (pc := 7) (As := [.int (nI 7), .int (nI 0)]) (rest := []) C (mX0_lotIn X.2.1 hG (bx_1 hG) h1) mf_X0_lotIn clX0 (sx_1 hG) wM_X8_227 rfl rfl ⟨by decide, by decide⟩ (Nat.le_of_ble_eq_true rfl) dX8_bothSidesOpen_7 ?_
  rcases it_some hf with ⟨h2, hf⟩ | ⟨h2, hf⟩
  · refine V.if_eqT (pc := 10) C 30 h2 (by decide) dX8_bothSidesOpen_10 ?_
    refine V.iconst (pc := 30) C (nI 0) (by decide) dX8_bothSidesOpen_30 ?_
    exact V.retZ (pc := 31) C (Or.inl rfl) hf dX8_bothSidesOpen_31
  · refine V.if_eqF (pc := 10) C 30 h2 (by decide) dX8_bothSidesOpen_10 ?_
    refine V.aload_n (pc := 13) C 0 rfl dX8_bothSidesOpen_13 ?_
    refine V.getR (pc := 14) C clX8 inX8 (sx_0 hG) 0 (by decide) wF_X8_12 rfl dX8_bothSidesOpen_14 ?_
    refine V.bipush (pc := 17) C (nI 7) (by decide) dX8_bothSidesOpen_17 ?_
    refine V.iconst (pc := 19) C (nI 1) (by decide) dX8_bothSidesOpen_19 ?_
    obtain ⟨r3, M3, h3, hf⟩ := bd_some hf
    refine V.callVi (pc := 20) (As := [.int (nI 7), .int (nI 1)]) (rest := []) C (mX0_lotIn X.2.1 hG (bx_1 hG) h3) mf_X0_lotIn clX0 (sx_1 hG) wM_X8_227 rfl rfl ⟨by decide, by decide⟩ (Nat.le_of_ble_eq_true rfl) dX8_bothSidesOpen_20 ?_
    rcases it_some hf with ⟨h4, hf⟩ | ⟨h4, hf⟩
    · refine V.if_eqT (pc := 23) C 30 h4 (by decide) dX8_bothSidesOpen_23 ?_
      refine V.iconst (pc := 30) C (nI 0) (by decide) dX8_bothSidesOpen_30 ?_
      exact V.retZ (pc := 31) C (Or.inl rfl) hf dX8_bothSidesOpen_31
    · refine V.if_eqF (pc := 23) C 30 h4 (by decide) dX8_bothSidesOpen_23 ?_
      refine V.iconst (pc := 26) C (nI 1) (by decide) dX8_bothSidesOpen_26 ?_
      refine V.goto (pc := 27) C 31 (by decide) dX8_bothSidesOpen_27 ?_
      exact V.retZ (pc := 31) C (Or.inr rfl) hf dX8_bothSidesOpen_31
theorem dX8_even_0 : decode cX8_even 0 = .ok (.aload_n 0, 1) := by decide +kernel
theorem dX8_even_1 : decode cX8_even 1 = .ok (.invokevirtual 173, 3) := by decide +kernel
theorem dX8_even_4 : decode cX8_even 4 = .ok (.ifCond .eq 26, 3) := by decide +kernel
theorem dX8_even_7 : decode cX8_even 7 = .ok (.aload_n 0, 1) := by decide +kernel
theorem dX8_even_8 : decode cX8_even 8 = .ok (.getfield 12, 3) := by decide +kernel
theorem dX8_even_11 : decode cX8_even 11 = .ok (.aload_n 0, 1) := by decide +kernel
theorem dX8_even_12 : decode cX8_even 12 = .ok (.getfield 12, 3) := by decide +kernel
theorem dX8_even_15 : decode cX8_even 15 = .ok (.bipush 7, 2) := by decide +kernel
theorem dX8_even_17 : decode cX8_even 17 = .ok (.invokevirtual 134, 3) := by decide +kernel
theorem dX8_even_20 : decode cX8_even 20 = .ok (.invokevirtual 137, 3) := by decide +kernel
theorem dX8_even_23 : decode cX8_even 23 = .ok (.ifCond .ne 7, 3) := by decide +kernel
theorem dX8_even_26 : decode cX8_even 26 = .ok (.iconst 1, 1) := by decide +kernel
theorem dX8_even_27 : decode cX8_even 27 = .ok (.goto 4, 3) := by decide +kernel
theorem dX8_even_30 : decode cX8_even 30 = .ok (.iconst 0, 1) := by decide +kernel
theorem dX8_even_31 : decode cX8_even 31 = .ok (.ireturn, 1) := by decide +kernel
abbrev cxX8_even (G : Rg) (X : Ct) : Prop := Cx G X cX8_even 1 RX8 (some .int) 3 65 (Cond.code yX8_even cX8_even 1 (some .int))
def fX8_even  (M : Mm) : Option (Int32 × Mm) :=
bd (fX8_bothSidesOpen M) fun r1 M1 =>
if r1 = (nI 0) then
(some ((nI 0), M1))
else
(bd (fX0_crowdIn 1 (nI 7) M1) fun r3 M3 =>
bd (fX0_lead 1 r3 M3) fun r4 M4 =>
if r4 = (nI 0) then
(some ((nI 1), M4))
else
(some ((nI 0), M4)))
set_option maxHeartbeats 4000000 in
set_option maxRecDepth 100000 in
theorem mX8_even (l : Launch) {G : Rg} (hG : gS G = shX)   {M Mf : Mm} {r : Int32} (hf : fX8_even  M = some (r, Mf)) : Mt l G yX8_even cX8_even 1 (some .int) 3 65 [.ref (gA G 0)] M (some (.int r)) Mf := by
  refine Mt.of (by decide) (Nat.le_of_ble_eq_true rfl) ?_
  intro X C hX
  subst hX
  have C : cxX8_even G X := C
  show V G X 1 (some (.int r)) Mf 0 [(0, .ref (gA G 0))] [] M
  rw [fX8_even] at hf
  refine V.aload_n (pc := 0) C 0 rfl dX8_even_0 ?_
  obtain ⟨r1, M1, h1, hf⟩ := bd_some hf
  refine V.callVi (pc := 1) (As := []) (rest := []) C (mX8_bothSidesOpen X.2.1 hG  h1) mf_X8_bothSidesOpen clX8 (sx_0 hG) wM_X8_173 rfl rfl ⟨by decide, by decide⟩ (Nat.le_of_ble_eq_true rfl) dX8_even_1 ?_
  rcases it_some hf with ⟨h2, hf⟩ | ⟨h2, hf⟩
  · refine V.if_eqT (pc := 4) C 30 h2 (by decide) dX8_even_4 ?_
    refine V.iconst (pc := 30) C (nI 0) (by decide) dX8_even_30 ?_
    exact V.retI (pc := 31) C hf dX8_even_31
  · refine V.if_eqF (pc := 4) C 30 h2 (by decide) dX8_even_4 ?_
    refine V.aload_n (pc := 7) C 0 rfl dX8_even_7 ?_
    refine V.getR (pc := 8) C clX8 inX8 (sx_0 hG) 0 (by decide) wF_X8_12 rfl dX8_even_8 ?_
    refine V.aload_n (pc := 11) C 0 rfl dX8_even_11 ?_
    refine V.getR (pc := 12) C clX8 inX8 (sx_0 hG) 0 (by decide) wF_X8_12 rfl dX8_even_12 ?_
    refine V.bipush (pc := 15) C (nI 7) (by decide) dX8_even_15 ?_
    obtain ⟨r3, M3, h3, hf⟩ := bd_some hf
    refine V.callVi (pc := 17) (As := [.int (nI 7)]) (rest := [.ref (gA G 1)]) C (mX0_crowdIn X.2.1 hG (bx_1 hG) h3) mf_X0_crowdIn clX0 (sx_1 hG) wM_X8_134 rfl rfl ⟨by decide, by decide⟩ (Nat.le_of_ble_eq_true rfl) dX8_even_17 ?_
    obtain ⟨r4, M4, h4, hf⟩ := bd_some hf
    refine V.callVi (pc := 20) (As := [.int r3]) (rest := []) C (mX0_lead X.2.1 hG (bx_1 hG) h4) mf_X0_lead clX0 (sx_1 hG) wM_X8_137 rfl rfl ⟨by decide, by decide⟩ (Nat.le_of_ble_eq_true rfl) dX8_even_20 ?_
    rcases it_some hf with ⟨h5, hf⟩ | ⟨h5, hf⟩
    · refine V.if_neF (pc := 23) C 30 h5 (by decide) dX8_even_23 ?_
      refine V.iconst (pc := 26) C (nI 1) (by decide) dX8_even_26 ?_
      refine V.goto (pc := 27) C 31 (by decide) dX8_even_27 ?_
      exact V.retI (pc := 31) C hf dX8_even_31
    · refine V.if_neT (pc := 23) C 30 h5 (by decide) dX8_even_23 ?_
      refine V.iconst (pc := 30) C (nI 0) (by decide) dX8_even_30 ?_
      exact V.retI (pc := 31) C hf dX8_even_31
theorem dX0_evenRate_0 : decode cX0_evenRate 0 = .ok (.aload_n 0, 1) := by decide +kernel
theorem dX0_evenRate_1 : decode cX0_evenRate 1 = .ok (.bipush 7, 2) := by decide +kernel
theorem dX0_evenRate_3 : decode cX0_evenRate 3 = .ok (.invokevirtual 43, 3) := by decide +kernel
theorem dX0_evenRate_6 : decode cX0_evenRate 6 = .ok (.istore_n 2, 1) := by decide +kernel
theorem dX0_evenRate_7 : decode cX0_evenRate 7 = .ok (.iconst 0, 1) := by decide +kernel
theorem dX0_evenRate_8 : decode cX0_evenRate 8 = .ok (.istore_n 3, 1) := by decide +kernel
theorem dX0_evenRate_9 : decode cX0_evenRate 9 = .ok (.iconst 0, 1) := by decide +kernel
theorem dX0_evenRate_10 : decode cX0_evenRate 10 = .ok (.istore 4, 2) := by decide +kernel
theorem dX0_evenRate_12 : decode cX0_evenRate 12 = .ok (.iconst 0, 1) := by decide +kernel
theorem dX0_evenRate_13 : decode cX0_evenRate 13 = .ok (.istore 5, 2) := by decide +kernel
theorem dX0_evenRate_15 : decode cX0_evenRate 15 = .ok (.iload 5, 2) := by decide +kernel
theorem dX0_evenRate_17 : decode cX0_evenRate 17 = .ok (.bipush 12, 2) := by decide +kernel
theorem dX0_evenRate_19 : decode cX0_evenRate 19 = .ok (.if_icmp .ge 82, 3) := by decide +kernel
theorem dX0_evenRate_22 : decode cX0_evenRate 22 = .ok (.iload_n 2, 1) := by decide +kernel
theorem dX0_evenRate_23 : decode cX0_evenRate 23 = .ok (.iload 5, 2) := by decide +kernel
theorem dX0_evenRate_25 : decode cX0_evenRate 25 = .ok (.ishr, 1) := by decide +kernel
theorem dX0_evenRate_26 : decode cX0_evenRate 26 = .ok (.iconst 1, 1) := by decide +kernel
theorem dX0_evenRate_27 : decode cX0_evenRate 27 = .ok (.iand, 1) := by decide +kernel
theorem dX0_evenRate_28 : decode cX0_evenRate 28 = .ok (.iconst 1, 1) := by decide +kernel
theorem dX0_evenRate_29 : decode cX0_evenRate 29 = .ok (.if_icmp .ne 66, 3) := by decide +kernel
theorem dX0_evenRate_32 : decode cX0_evenRate 32 = .ok (.iload 5, 2) := by decide +kernel
theorem dX0_evenRate_34 : decode cX0_evenRate 34 = .ok (.bipush 6, 2) := by decide +kernel
theorem dX0_evenRate_36 : decode cX0_evenRate 36 = .ok (.if_icmp .ge 7, 3) := by decide +kernel
theorem dX0_evenRate_39 : decode cX0_evenRate 39 = .ok (.iconst 1, 1) := by decide +kernel
theorem dX0_evenRate_40 : decode cX0_evenRate 40 = .ok (.goto 4, 3) := by decide +kernel
theorem dX0_evenRate_43 : decode cX0_evenRate 43 = .ok (.iconst (-1), 1) := by decide +kernel
theorem dX0_evenRate_44 : decode cX0_evenRate 44 = .ok (.istore 6, 2) := by decide +kernel
theorem dX0_evenRate_46 : decode cX0_evenRate 46 = .ok (.iload 4, 2) := by decide +kernel
theorem dX0_evenRate_48 : decode cX0_evenRate 48 = .ok (.aload_n 0, 1) := by decide +kernel
theorem dX0_evenRate_49 : decode cX0_evenRate 49 = .ok (.getfield 15, 3) := by decide +kernel
theorem dX0_evenRate_52 : decode cX0_evenRate 52 = .ok (.iload 5, 2) := by decide +kernel
theorem dX0_evenRate_54 : decode cX0_evenRate 54 = .ok (.iaload, 1) := by decide +kernel
theorem dX0_evenRate_55 : decode cX0_evenRate 55 = .ok (.iload_n 1, 1) := by decide +kernel
theorem dX0_evenRate_56 : decode cX0_evenRate 56 = .ok (.if_icmp .ne 8, 3) := by decide +kernel
theorem dX0_evenRate_59 : decode cX0_evenRate 59 = .ok (.iload 6, 2) := by decide +kernel
theorem dX0_evenRate_61 : decode cX0_evenRate 61 = .ok (.goto 4, 3) := by decide +kernel
theorem dX0_evenRate_64 : decode cX0_evenRate 64 = .ok (.iconst 0, 1) := by decide +kernel
theorem dX0_evenRate_65 : decode cX0_evenRate 65 = .ok (.iadd, 1) := by decide +kernel
theorem dX0_evenRate_66 : decode cX0_evenRate 66 = .ok (.istore 4, 2) := by decide +kernel
theorem dX0_evenRate_68 : decode cX0_evenRate 68 = .ok (.iload_n 3, 1) := by decide +kernel
theorem dX0_evenRate_69 : decode cX0_evenRate 69 = .ok (.aload_n 0, 1) := by decide +kernel
theorem dX0_evenRate_70 : decode cX0_evenRate 70 = .ok (.getfield 15, 3) := by decide +kernel
theorem dX0_evenRate_73 : decode cX0_evenRate 73 = .ok (.iload 5, 2) := by decide +kernel
theorem dX0_evenRate_75 : decode cX0_evenRate 75 = .ok (.iaload, 1) := by decide +kernel
theorem dX0_evenRate_76 : decode cX0_evenRate 76 = .ok (.iload_n 1, 1) := by decide +kernel
theorem dX0_evenRate_77 : decode cX0_evenRate 77 = .ok (.if_icmp .ne 7, 3) := by decide +kernel
theorem dX0_evenRate_80 : decode cX0_evenRate 80 = .ok (.iconst 0, 1) := by decide +kernel
theorem dX0_evenRate_81 : decode cX0_evenRate 81 = .ok (.goto 12, 3) := by decide +kernel
theorem dX0_evenRate_84 : decode cX0_evenRate 84 = .ok (.iload 6, 2) := by decide +kernel
theorem dX0_evenRate_86 : decode cX0_evenRate 86 = .ok (.aload_n 0, 1) := by decide +kernel
theorem dX0_evenRate_87 : decode cX0_evenRate 87 = .ok (.iload 5, 2) := by decide +kernel
theorem dX0_evenRate_89 : decode cX0_evenRate 89 = .ok (.invokevirtual 47, 3) := by decide +kernel
theorem dX0_evenRate_92 : decode cX0_evenRate 92 = .ok (.imul, 1) := by decide +kernel
theorem dX0_evenRate_93 : decode cX0_evenRate 93 = .ok (.iadd, 1) := by decide +kernel
theorem dX0_evenRate_94 : decode cX0_evenRate 94 = .ok (.istore_n 3, 1) := by decide +kernel
theorem dX0_evenRate_95 : decode cX0_evenRate 95 = .ok (.iinc 5 1, 3) := by decide +kernel
theorem dX0_evenRate_98 : decode cX0_evenRate 98 = .ok (.goto (-83), 3) := by decide +kernel
theorem dX0_evenRate_101 : decode cX0_evenRate 101 = .ok (.iconst 1, 1) := by decide +kernel
theorem dX0_evenRate_102 : decode cX0_evenRate 102 = .ok (.istore 5, 2) := by decide +kernel
theorem dX0_evenRate_104 : decode cX0_evenRate 104 = .ok (.iload 5, 2) := by decide +kernel
theorem dX0_evenRate_106 : decode cX0_evenRate 106 = .ok (.bipush 99, 2) := by decide +kernel
theorem dX0_evenRate_108 : decode cX0_evenRate 108 = .ok (.if_icmp .gt 22, 3) := by decide +kernel
theorem dX0_evenRate_111 : decode cX0_evenRate 111 = .ok (.iload_n 3, 1) := by decide +kernel
theorem dX0_evenRate_112 : decode cX0_evenRate 112 = .ok (.iload 5, 2) := by decide +kernel
theorem dX0_evenRate_114 : decode cX0_evenRate 114 = .ok (.iload 4, 2) := by decide +kernel
theorem dX0_evenRate_116 : decode cX0_evenRate 116 = .ok (.imul, 1) := by decide +kernel
theorem dX0_evenRate_117 : decode cX0_evenRate 117 = .ok (.iadd, 1) := by decide +kernel
theorem dX0_evenRate_118 : decode cX0_evenRate 118 = .ok (.ifCond .ne 6, 3) := by decide +kernel
theorem dX0_evenRate_121 : decode cX0_evenRate 121 = .ok (.iload 5, 2) := by decide +kernel
theorem dX0_evenRate_123 : decode cX0_evenRate 123 = .ok (.ireturn, 1) := by decide +kernel
theorem dX0_evenRate_124 : decode cX0_evenRate 124 = .ok (.iinc 5 1, 3) := by decide +kernel
theorem dX0_evenRate_127 : decode cX0_evenRate 127 = .ok (.goto (-23), 3) := by decide +kernel
theorem dX0_evenRate_130 : decode cX0_evenRate 130 = .ok (.bipush (-6), 2) := by decide +kernel
theorem dX0_evenRate_132 : decode cX0_evenRate 132 = .ok (.ireturn, 1) := by decide +kernel
abbrev cxX0_evenRate (G : Rg) (X : Ct) : Prop := Cx G X cX0_evenRate 7 RX0 (some .int) 1 23 (Cond.code yX0_evenRate cX0_evenRate 7 (some .int))
def fX0_evenRate_b104  (c0 : Nat) : Nat → Int32 → Int32 → Int32 → Mm → Option (Int32 × Mm)
  | 0, _, _, _, _ => none
  | n + 1, v3, v4, v5, M =>
    if (nI 99) < v5 then
    (some ((mI 6), M))
    else
    (if (v3 + (v5 * v4)) = (nI 0) then
    (some (v5, M))
    else
    (fX0_evenRate_b104 c0 n v3 v4 (v5 + (nI 1)) M))
set_option maxHeartbeats 4000000 in
set_option maxRecDepth 100000 in
theorem vX0_evenRate_b104 {G : Rg} {X : Ct} {r : Int32} {Mf : Mm} {c0 : Nat}  (C : cxX0_evenRate G X) (hG : gS G = shX) (hB0 : isB G c0)  : ∀ (n : Nat) (v3 : Int32) (v4 : Int32) (v5 : Int32) (M : Mm), fX0_evenRate_b104 c0 n v3 v4 v5 M = some (r, Mf) → V G X 7 (some (.int r)) Mf 104 [(3, .int v3), (4, .int v4), (5, .int v5)] [] M := by
  intro n
  induction n with
  | zero => intro v3 v4 v5 M hf; rw [fX0_evenRate_b104] at hf; cases hf
  | succ n ih =>
    intro v3 v4 v5 M hf
    rw [fX0_evenRate_b104] at hf
    refine V.iload (pc := 104) C 2 rfl dX0_evenRate_104 ?_
    refine V.bipush (pc := 106) C (nI 99) (by decide) dX0_evenRate_106 ?_
    rcases it_some hf with ⟨h1, hf⟩ | ⟨h1, hf⟩
    · refine V.ic_gtT (pc := 108) C 130 h1 (by decide) dX0_evenRate_108 ?_
      refine V.bipush (pc := 130) C (mI 6) (by decide) dX0_evenRate_130 ?_
      exact V.retI (pc := 132) C hf dX0_evenRate_132
    · refine V.ic_gtF (pc := 108) C 130 h1 (by decide) dX0_evenRate_108 ?_
      refine V.iload_n (pc := 111) C 0 rfl dX0_evenRate_111 ?_
      refine V.iload (pc := 112) C 2 rfl dX0_evenRate_112 ?_
      refine V.iload (pc := 114) C 1 rfl dX0_evenRate_114 ?_
      refine V.imul (pc := 116) C dX0_evenRate_116 ?_
      refine V.iadd (pc := 117) C dX0_evenRate_117 ?_
      rcases it_some hf with ⟨h2, hf⟩ | ⟨h2, hf⟩
      · refine V.if_neF (pc := 118) C 124 h2 (by decide) dX0_evenRate_118 ?_
        refine V.iload (pc := 121) C 2 rfl dX0_evenRate_121 ?_
        exact V.retI (pc := 123) C hf dX0_evenRate_123
      · refine V.if_neT (pc := 118) C 124 h2 (by decide) dX0_evenRate_118 ?_
        refine V.iinc (pc := 124) (lv' := [(5, .int (v5 + (nI 1))), (3, .int v3), (4, .int v4)]) C (v5 + (nI 1)) 2 rfl rfl (by decide) rfl dX0_evenRate_124 ?_
        refine V.goto (pc := 127) C 104 (by decide) dX0_evenRate_127 ?_
        refine V.sub C [1, 2, 0] (lv' := [(3, .int v3), (4, .int v4), (5, .int (v5 + (nI 1)))]) rfl ?_
        exact ih _ _ _ _ hf
def fX0_evenRate_b65 (nx15 : Int32 → Int32 → Int32 → Int32 → Int32 → Mm → Option (Int32 × Mm)) (c0 : Nat) (v1 : Int32) (v2 : Int32) (v3 : Int32) (v5 : Int32) (v6 : Int32) (s0 : Int32) (s1 : Int32) (M : Mm) : Option (Int32 × Mm) :=
gd (inb v5 12) (
if (M.1 (c0 + 1) v5.toNatClampNeg) = v1 then
(nx15 v1 v2 (v3 + (nI 0)) (s0 + s1) (v5 + (nI 1)) M)
else
(bd (fX0_worth c0 v5 M) fun r3 M3 =>
nx15 v1 v2 (v3 + (v6 * r3)) (s0 + s1) (v5 + (nI 1)) M3))
set_option maxHeartbeats 4000000 in
set_option maxRecDepth 100000 in
theorem vX0_evenRate_b65 {G : Rg} {X : Ct} {r : Int32} {Mf : Mm} {c0 : Nat} {nx15 : Int32 → Int32 → Int32 → Int32 → Int32 → Mm → Option (Int32 × Mm)} (C : cxX0_evenRate G X) (hG : gS G = shX) (hB0 : isB G c0) (hx15 : ∀ (v1 : Int32) (v2 : Int32) (v3 : Int32) (v4 : Int32) (v5 : Int32) (M : Mm), nx15 v1 v2 v3 v4 v5 M = some (r, Mf) → V G X 7 (some (.int r)) Mf 15 [(0, .ref (gA G c0)), (1, .int v1), (2, .int v2), (3, .int v3), (4, .int v4), (5, .int v5)] [] M) (v1 : Int32) (v2 : Int32) (v3 : Int32) (v5 : Int32) (v6 : Int32) (s0 : Int32) (s1 : Int32) (M : Mm) (hf : fX0_evenRate_b65 nx15 c0 v1 v2 v3 v5 v6 s0 s1 M = some (r, Mf)) : V G X 7 (some (.int r)) Mf 65 [(0, .ref (gA G c0)), (1, .int v1), (2, .int v2), (3, .int v3), (5, .int v5), (6, .int v6)] [.int s1, .int s0] M := by
  rw [fX0_evenRate_b65] at hf
  refine V.iadd (pc := 65) C dX0_evenRate_65 ?_
  refine V.istore (pc := 66) (lv' := [(4, .int (s0 + s1)), (0, .ref (gA G c0)), (1, .int v1), (2, .int v2), (3, .int v3), (5, .int v5), (6, .int v6)]) C (by decide) rfl dX0_evenRate_66 ?_
  refine V.iload_n (pc := 68) C 4 rfl dX0_evenRate_68 ?_
  refine V.aload_n (pc := 69) C 1 rfl dX0_evenRate_69 ?_
  refine V.getR (pc := 70) C clX0 inX0 hB0.1 4 (by decide) wF_X0_15 rfl dX0_evenRate_70 ?_
  refine V.iload (pc := 73) C 5 rfl dX0_evenRate_73 ?_
  obtain ⟨g1, hf⟩ := gd_some hf
  refine V.iald (pc := 75) C hB0.2.1 (inb_in g1) dX0_evenRate_75 ?_
  refine V.iload_n (pc := 76) C 2 rfl dX0_evenRate_76 ?_
  rcases it_some hf with ⟨h2, hf⟩ | ⟨h2, hf⟩
  · refine V.ic_neF (pc := 77) C 84 h2 (by decide) dX0_evenRate_77 ?_
    refine V.iconst (pc := 80) C (nI 0) (by decide) dX0_evenRate_80 ?_
    refine V.goto (pc := 81) C 93 (by decide) dX0_evenRate_81 ?_
    refine V.iadd (pc := 93) C dX0_evenRate_93 ?_
    refine V.istore_n (pc := 94) (lv' := [(3, .int (v3 + (nI 0))), (4, .int (s0 + s1)), (0, .ref (gA G c0)), (1, .int v1), (2, .int v2), (5, .int v5), (6, .int v6)]) C (by decide) rfl dX0_evenRate_94 ?_
    refine V.iinc (pc := 95) (lv' := [(5, .int (v5 + (nI 1))), (3, .int (v3 + (nI 0))), (4, .int (s0 + s1)), (0, .ref (gA G c0)), (1, .int v1), (2, .int v2), (6, .int v6)]) C (v5 + (nI 1)) 5 rfl rfl (by decide) rfl dX0_evenRate_95 ?_
    refine V.goto (pc := 98) C 15 (by decide) dX0_evenRate_98 ?_
    refine V.sub C [3, 4, 5, 1, 2, 0] (lv' := [(0, .ref (gA G c0)), (1, .int v1), (2, .int v2), (3, .int (v3 + (nI 0))), (4, .int (s0 + s1)), (5, .int (v5 + (nI 1)))]) rfl ?_
    exact hx15 _ _ _ _ _ _ hf
  · refine V.ic_neT (pc := 77) C 84 h2 (by decide) dX0_evenRate_77 ?_
    refine V.iload (pc := 84) C 6 rfl dX0_evenRate_84 ?_
    refine V.aload_n (pc := 86) C 1 rfl dX0_evenRate_86 ?_
    refine V.iload (pc := 87) C 5 rfl dX0_evenRate_87 ?_
    obtain ⟨r3, M3, h3, hf⟩ := bd_some hf
    refine V.callVi (pc := 89) (As := [.int v5]) (rest := [.int v6, .int v3]) C (mX0_worth X.2.1 hG hB0 h3) mf_X0_worth clX0 hB0.1 wM_X0_47 rfl rfl ⟨by decide, by decide⟩ (Nat.le_of_ble_eq_true rfl) dX0_evenRate_89 ?_
    refine V.imul (pc := 92) C dX0_evenRate_92 ?_
    refine V.iadd (pc := 93) C dX0_evenRate_93 ?_
    refine V.istore_n (pc := 94) (lv' := [(3, .int (v3 + (v6 * r3))), (4, .int (s0 + s1)), (0, .ref (gA G c0)), (1, .int v1), (2, .int v2), (5, .int v5), (6, .int v6)]) C (by decide) rfl dX0_evenRate_94 ?_
    refine V.iinc (pc := 95) (lv' := [(5, .int (v5 + (nI 1))), (3, .int (v3 + (v6 * r3))), (4, .int (s0 + s1)), (0, .ref (gA G c0)), (1, .int v1), (2, .int v2), (6, .int v6)]) C (v5 + (nI 1)) 5 rfl rfl (by decide) rfl dX0_evenRate_95 ?_
    refine V.goto (pc := 98) C 15 (by decide) dX0_evenRate_98 ?_
    refine V.sub C [3, 4, 5, 1, 2, 0] (lv' := [(0, .ref (gA G c0)), (1, .int v1), (2, .int v2), (3, .int (v3 + (v6 * r3))), (4, .int (s0 + s1)), (5, .int (v5 + (nI 1)))]) rfl ?_
    exact hx15 _ _ _ _ _ _ hf
def fX0_evenRate_b44 (nx15 : Int32 → Int32 → Int32 → Int32 → Int32 → Mm → Option (Int32 × Mm)) (c0 : Nat) (v1 : Int32) (v2 : Int32) (v3 : Int32) (v4 : Int32) (v5 : Int32) (s0 : Int32) (M : Mm) : Option (Int32 × Mm) :=
gd (inb v5 12) (
if (M.1 (c0 + 1) v5.toNatClampNeg) = v1 then
(fX0_evenRate_b65 nx15 c0 v1 v2 v3 v5 s0 v4 s0 M)
else
(fX0_evenRate_b65 nx15 c0 v1 v2 v3 v5 s0 v4 (nI 0) M))
set_option maxHeartbeats 4000000 in
set_option maxRecDepth 100000 in
theorem vX0_evenRate_b44 {G : Rg} {X : Ct} {r : Int32} {Mf : Mm} {c0 : Nat} {nx15 : Int32 → Int32 → Int32 → Int32 → Int32 → Mm → Option (Int32 × Mm)} (C : cxX0_evenRate G X) (hG : gS G = shX) (hB0 : isB G c0) (hx15 : ∀ (v1 : Int32) (v2 : Int32) (v3 : Int32) (v4 : Int32) (v5 : Int32) (M : Mm), nx15 v1 v2 v3 v4 v5 M = some (r, Mf) → V G X 7 (some (.int r)) Mf 15 [(0, .ref (gA G c0)), (1, .int v1), (2, .int v2), (3, .int v3), (4, .int v4), (5, .int v5)] [] M) (v1 : Int32) (v2 : Int32) (v3 : Int32) (v4 : Int32) (v5 : Int32) (s0 : Int32) (M : Mm) (hf : fX0_evenRate_b44 nx15 c0 v1 v2 v3 v4 v5 s0 M = some (r, Mf)) : V G X 7 (some (.int r)) Mf 44 [(0, .ref (gA G c0)), (1, .int v1), (2, .int v2), (3, .int v3), (4, .int v4), (5, .int v5)] [.int s0] M := by
  rw [fX0_evenRate_b44] at hf
  refine V.istore (pc := 44) (lv' := [(6, .int s0), (0, .ref (gA G c0)), (1, .int v1), (2, .int v2), (3, .int v3), (4, .int v4), (5, .int v5)]) C (by decide) rfl dX0_evenRate_44 ?_
  refine V.iload (pc := 46) C 5 rfl dX0_evenRate_46 ?_
  refine V.aload_n (pc := 48) C 1 rfl dX0_evenRate_48 ?_
  refine V.getR (pc := 49) C clX0 inX0 hB0.1 4 (by decide) wF_X0_15 rfl dX0_evenRate_49 ?_
  refine V.iload (pc := 52) C 6 rfl dX0_evenRate_52 ?_
  obtain ⟨g1, hf⟩ := gd_some hf
  refine V.iald (pc := 54) C hB0.2.1 (inb_in g1) dX0_evenRate_54 ?_
  refine V.iload_n (pc := 55) C 2 rfl dX0_evenRate_55 ?_
  rcases it_some hf with ⟨h2, hf⟩ | ⟨h2, hf⟩
  · refine V.ic_neF (pc := 56) C 64 h2 (by decide) dX0_evenRate_56 ?_
    refine V.iload (pc := 59) C 0 rfl dX0_evenRate_59 ?_
    refine V.goto (pc := 61) C 65 (by decide) dX0_evenRate_61 ?_
    refine V.sub C [1, 2, 3, 4, 6, 0] (lv' := [(0, .ref (gA G c0)), (1, .int v1), (2, .int v2), (3, .int v3), (5, .int v5), (6, .int s0)]) rfl ?_
    exact vX0_evenRate_b65 C hG hB0 hx15  _ _ _ _ _ _ _ _ hf
  · refine V.ic_neT (pc := 56) C 64 h2 (by decide) dX0_evenRate_56 ?_
    refine V.iconst (pc := 64) C (nI 0) (by decide) dX0_evenRate_64 ?_
    refine V.sub C [1, 2, 3, 4, 6, 0] (lv' := [(0, .ref (gA G c0)), (1, .int v1), (2, .int v2), (3, .int v3), (5, .int v5), (6, .int s0)]) rfl ?_
    exact vX0_evenRate_b65 C hG hB0 hx15  _ _ _ _ _ _ _ _ hf
def fX0_evenRate_b15  (c0 : Nat) : Nat → Int32 → Int32 → Int32 → Int32 → Int32 → Mm → Option (Int32 × Mm)
  | 0, _, _, _, _, _, _ => none
  | n + 1, v1, v2, v3, v4, v5, M =>
    if (nI 12) ≤ v5 then
    (fX0_evenRate_b104 c0 fu v3 v4 (nI 1) M)
    else
    (if ((jshr v2 v5) &&& (nI 1)) = (nI 1) then
    (if (nI 6) ≤ v5 then
    (fX0_evenRate_b44 (fX0_evenRate_b15 c0 n) c0 v1 v2 v3 v4 v5 (mI 1) M)
    else
    (fX0_evenRate_b44 (fX0_evenRate_b15 c0 n) c0 v1 v2 v3 v4 v5 (nI 1) M))
    else
    (fX0_evenRate_b15 c0 n v1 v2 v3 v4 (v5 + (nI 1)) M))
set_option maxHeartbeats 4000000 in
set_option maxRecDepth 100000 in
theorem vX0_evenRate_b15 {G : Rg} {X : Ct} {r : Int32} {Mf : Mm} {c0 : Nat}  (C : cxX0_evenRate G X) (hG : gS G = shX) (hB0 : isB G c0)  : ∀ (n : Nat) (v1 : Int32) (v2 : Int32) (v3 : Int32) (v4 : Int32) (v5 : Int32) (M : Mm), fX0_evenRate_b15 c0 n v1 v2 v3 v4 v5 M = some (r, Mf) → V G X 7 (some (.int r)) Mf 15 [(0, .ref (gA G c0)), (1, .int v1), (2, .int v2), (3, .int v3), (4, .int v4), (5, .int v5)] [] M := by
  intro n
  induction n with
  | zero => intro v1 v2 v3 v4 v5 M hf; rw [fX0_evenRate_b15] at hf; cases hf
  | succ n ih =>
    intro v1 v2 v3 v4 v5 M hf
    rw [fX0_evenRate_b15] at hf
    refine V.iload (pc := 15) C 5 rfl dX0_evenRate_15 ?_
    refine V.bipush (pc := 17) C (nI 12) (by decide) dX0_evenRate_17 ?_
    rcases it_some hf with ⟨h1, hf⟩ | ⟨h1, hf⟩
    · refine V.ic_geT (pc := 19) C 101 h1 (by decide) dX0_evenRate_19 ?_
      refine V.iconst (pc := 101) C (nI 1) (by decide) dX0_evenRate_101 ?_
      refine V.istore (pc := 102) (lv' := [(5, .int (nI 1)), (0, .ref (gA G c0)), (1, .int v1), (2, .int v2), (3, .int v3), (4, .int v4)]) C (by decide) rfl dX0_evenRate_102 ?_
      refine V.sub C [4, 5, 0] (lv' := [(3, .int v3), (4, .int v4), (5, .int (nI 1))]) rfl ?_
      exact vX0_evenRate_b104 C hG hB0  fu _ _ _ _ hf
    · refine V.ic_geF (pc := 19) C 101 h1 (by decide) dX0_evenRate_19 ?_
      refine V.iload_n (pc := 22) C 2 rfl dX0_evenRate_22 ?_
      refine V.iload (pc := 23) C 5 rfl dX0_evenRate_23 ?_
      refine V.ishr (pc := 25) C dX0_evenRate_25 ?_
      refine V.iconst (pc := 26) C (nI 1) (by decide) dX0_evenRate_26 ?_
      refine V.iand (pc := 27) C dX0_evenRate_27 ?_
      refine V.iconst (pc := 28) C (nI 1) (by decide) dX0_evenRate_28 ?_
      rcases it_some hf with ⟨h2, hf⟩ | ⟨h2, hf⟩
      · refine V.ic_neF (pc := 29) C 95 h2 (by decide) dX0_evenRate_29 ?_
        refine V.iload (pc := 32) C 5 rfl dX0_evenRate_32 ?_
        refine V.bipush (pc := 34) C (nI 6) (by decide) dX0_evenRate_34 ?_
        rcases it_some hf with ⟨h3, hf⟩ | ⟨h3, hf⟩
        · refine V.ic_geT (pc := 36) C 43 h3 (by decide) dX0_evenRate_36 ?_
          refine V.iconst (pc := 43) C (mI 1) (by decide) dX0_evenRate_43 ?_
          exact vX0_evenRate_b44 C hG hB0 ih  _ _ _ _ _ _ _ hf
        · refine V.ic_geF (pc := 36) C 43 h3 (by decide) dX0_evenRate_36 ?_
          refine V.iconst (pc := 39) C (nI 1) (by decide) dX0_evenRate_39 ?_
          refine V.goto (pc := 40) C 44 (by decide) dX0_evenRate_40 ?_
          exact vX0_evenRate_b44 C hG hB0 ih  _ _ _ _ _ _ _ hf
      · refine V.ic_neT (pc := 29) C 95 h2 (by decide) dX0_evenRate_29 ?_
        refine V.iinc (pc := 95) (lv' := [(5, .int (v5 + (nI 1))), (0, .ref (gA G c0)), (1, .int v1), (2, .int v2), (3, .int v3), (4, .int v4)]) C (v5 + (nI 1)) 5 rfl rfl (by decide) rfl dX0_evenRate_95 ?_
        refine V.goto (pc := 98) C 15 (by decide) dX0_evenRate_98 ?_
        refine V.sub C [1, 2, 3, 4, 5, 0] (lv' := [(0, .ref (gA G c0)), (1, .int v1), (2, .int v2), (3, .int v3), (4, .int v4), (5, .int (v5 + (nI 1)))]) rfl ?_
        exact ih _ _ _ _ _ _ hf
def fX0_evenRate (c0 : Nat) (x1 : Int32) (M : Mm) : Option (Int32 × Mm) :=
bd (fX0_crowdIn c0 (nI 7) M) fun r1 M1 =>
fX0_evenRate_b15 c0 fu x1 r1 (nI 0) (nI 0) (nI 0) M1
set_option maxHeartbeats 4000000 in
set_option maxRecDepth 100000 in
theorem mX0_evenRate (l : Launch) {G : Rg} (hG : gS G = shX) {c0 : Nat} {x1 : Int32} (hB0 : isB G c0) {M Mf : Mm} {r : Int32} (hf : fX0_evenRate c0 x1 M = some (r, Mf)) : Mt l G yX0_evenRate cX0_evenRate 7 (some .int) 1 23 [.ref (gA G c0), .int x1] M (some (.int r)) Mf := by
  refine Mt.of (by decide) (Nat.le_of_ble_eq_true rfl) ?_
  intro X C hX
  subst hX
  have C : cxX0_evenRate G X := C
  show V G X 7 (some (.int r)) Mf 0 [(0, .ref (gA G c0)), (1, .int x1)] [] M
  rw [fX0_evenRate] at hf
  refine V.aload_n (pc := 0) C 0 rfl dX0_evenRate_0 ?_
  refine V.bipush (pc := 1) C (nI 7) (by decide) dX0_evenRate_1 ?_
  obtain ⟨r1, M1, h1, hf⟩ := bd_some hf
  refine V.callVi (pc := 3) (As := [.int (nI 7)]) (rest := []) C (mX0_crowdIn X.2.1 hG hB0 h1) mf_X0_crowdIn clX0 hB0.1 wM_X0_43 rfl rfl ⟨by decide, by decide⟩ (Nat.le_of_ble_eq_true rfl) dX0_evenRate_3 ?_
  refine V.istore_n (pc := 6) (lv' := [(2, .int r1), (0, .ref (gA G c0)), (1, .int x1)]) C (by decide) rfl dX0_evenRate_6 ?_
  refine V.iconst (pc := 7) C (nI 0) (by decide) dX0_evenRate_7 ?_
  refine V.istore_n (pc := 8) (lv' := [(3, .int (nI 0)), (2, .int r1), (0, .ref (gA G c0)), (1, .int x1)]) C (by decide) rfl dX0_evenRate_8 ?_
  refine V.iconst (pc := 9) C (nI 0) (by decide) dX0_evenRate_9 ?_
  refine V.istore (pc := 10) (lv' := [(4, .int (nI 0)), (3, .int (nI 0)), (2, .int r1), (0, .ref (gA G c0)), (1, .int x1)]) C (by decide) rfl dX0_evenRate_10 ?_
  refine V.iconst (pc := 12) C (nI 0) (by decide) dX0_evenRate_12 ?_
  refine V.istore (pc := 13) (lv' := [(5, .int (nI 0)), (4, .int (nI 0)), (3, .int (nI 0)), (2, .int r1), (0, .ref (gA G c0)), (1, .int x1)]) C (by decide) rfl dX0_evenRate_13 ?_
  refine V.sub C [4, 5, 3, 2, 1, 0] (lv' := [(0, .ref (gA G c0)), (1, .int x1), (2, .int r1), (3, .int (nI 0)), (4, .int (nI 0)), (5, .int (nI 0))]) rfl ?_
  exact vX0_evenRate_b15 C hG hB0  fu _ _ _ _ _ _ hf
theorem dX8_fair_0 : decode cX8_fair 0 = .ok (.iload_n 1, 1) := by decide +kernel
theorem dX8_fair_1 : decode cX8_fair 1 = .ok (.iconst 0, 1) := by decide +kernel
theorem dX8_fair_2 : decode cX8_fair 2 = .ok (.iconst 5, 1) := by decide +kernel
theorem dX8_fair_3 : decode cX8_fair 3 = .ok (.invokestatic 73, 3) := by decide +kernel
theorem dX8_fair_6 : decode cX8_fair 6 = .ok (.ifCond .ne 6, 3) := by decide +kernel
theorem dX8_fair_9 : decode cX8_fair 9 = .ok (.bipush (-2), 2) := by decide +kernel
theorem dX8_fair_11 : decode cX8_fair 11 = .ok (.ireturn, 1) := by decide +kernel
theorem dX8_fair_12 : decode cX8_fair 12 = .ok (.aload_n 0, 1) := by decide +kernel
theorem dX8_fair_13 : decode cX8_fair 13 = .ok (.invokevirtual 173, 3) := by decide +kernel
theorem dX8_fair_16 : decode cX8_fair 16 = .ok (.ifCond .eq 14, 3) := by decide +kernel
theorem dX8_fair_19 : decode cX8_fair 19 = .ok (.aload_n 0, 1) := by decide +kernel
theorem dX8_fair_20 : decode cX8_fair 20 = .ok (.getfield 12, 3) := by decide +kernel
theorem dX8_fair_23 : decode cX8_fair 23 = .ok (.iload_n 1, 1) := by decide +kernel
theorem dX8_fair_24 : decode cX8_fair 24 = .ok (.invokevirtual 177, 3) := by decide +kernel
theorem dX8_fair_27 : decode cX8_fair 27 = .ok (.goto 5, 3) := by decide +kernel
theorem dX8_fair_30 : decode cX8_fair 30 = .ok (.bipush (-6), 2) := by decide +kernel
theorem dX8_fair_32 : decode cX8_fair 32 = .ok (.ireturn, 1) := by decide +kernel
abbrev cxX8_fair (G : Rg) (X : Ct) : Prop := Cx G X cX8_fair 2 RX8 (some .int) 3 65 (Cond.code yX8_fair cX8_fair 2 (some .int))
def fX8_fair (x1 : Int32) (M : Mm) : Option (Int32 × Mm) :=
bd (fX8_isWithin x1 (nI 0) (nI 5) M) fun r1 M1 =>
if r1 = (nI 0) then
(some ((mI 2), M1))
else
(bd (fX8_bothSidesOpen M1) fun r3 M3 =>
if r3 = (nI 0) then
(some ((mI 6), M3))
else
(bd (fX0_evenRate 1 x1 M3) fun r5 M5 =>
some (r5, M5)))
set_option maxHeartbeats 4000000 in
set_option maxRecDepth 100000 in
theorem mX8_fair (l : Launch) {G : Rg} (hG : gS G = shX) {x1 : Int32}  {M Mf : Mm} {r : Int32} (hf : fX8_fair x1 M = some (r, Mf)) : Mt l G yX8_fair cX8_fair 2 (some .int) 3 65 [.ref (gA G 0), .int x1] M (some (.int r)) Mf := by
  refine Mt.of (by decide) (Nat.le_of_ble_eq_true rfl) ?_
  intro X C hX
  subst hX
  have C : cxX8_fair G X := C
  show V G X 2 (some (.int r)) Mf 0 [(0, .ref (gA G 0)), (1, .int x1)] [] M
  rw [fX8_fair] at hf
  refine V.iload_n (pc := 0) C 1 rfl dX8_fair_0 ?_
  refine V.iconst (pc := 1) C (nI 0) (by decide) dX8_fair_1 ?_
  refine V.iconst (pc := 2) C (nI 5) (by decide) dX8_fair_2 ?_
  obtain ⟨r1, M1, h1, hf⟩ := bd_some hf
  refine V.callSi (pc := 3) (As := [.int x1, .int (nI 0), .int (nI 5)]) (rest := []) C (mX8_isWithin X.2.1 hG  h1) mf_X8_isWithin wM_X8_73 rfl rfl ⟨by decide, by decide⟩ (Nat.le_of_ble_eq_true rfl) dX8_fair_3 ?_
  rcases it_some hf with ⟨h2, hf⟩ | ⟨h2, hf⟩
  · refine V.if_neF (pc := 6) C 12 h2 (by decide) dX8_fair_6 ?_
    refine V.bipush (pc := 9) C (mI 2) (by decide) dX8_fair_9 ?_
    exact V.retI (pc := 11) C hf dX8_fair_11
  · refine V.if_neT (pc := 6) C 12 h2 (by decide) dX8_fair_6 ?_
    refine V.aload_n (pc := 12) C 0 rfl dX8_fair_12 ?_
    obtain ⟨r3, M3, h3, hf⟩ := bd_some hf
    refine V.callVi (pc := 13) (As := []) (rest := []) C (mX8_bothSidesOpen X.2.1 hG  h3) mf_X8_bothSidesOpen clX8 (sx_0 hG) wM_X8_173 rfl rfl ⟨by decide, by decide⟩ (Nat.le_of_ble_eq_true rfl) dX8_fair_13 ?_
    rcases it_some hf with ⟨h4, hf⟩ | ⟨h4, hf⟩
    · refine V.if_eqT (pc := 16) C 30 h4 (by decide) dX8_fair_16 ?_
      refine V.bipush (pc := 30) C (mI 6) (by decide) dX8_fair_30 ?_
      exact V.retI (pc := 32) C hf dX8_fair_32
    · refine V.if_eqF (pc := 16) C 30 h4 (by decide) dX8_fair_16 ?_
      refine V.aload_n (pc := 19) C 0 rfl dX8_fair_19 ?_
      refine V.getR (pc := 20) C clX8 inX8 (sx_0 hG) 0 (by decide) wF_X8_12 rfl dX8_fair_20 ?_
      refine V.iload_n (pc := 23) C 1 rfl dX8_fair_23 ?_
      obtain ⟨r5, M5, h5, hf⟩ := bd_some hf
      refine V.callVi (pc := 24) (As := [.int x1]) (rest := []) C (mX0_evenRate X.2.1 hG (bx_1 hG) h5) mf_X0_evenRate clX0 (sx_1 hG) wM_X8_177 rfl rfl ⟨by decide, by decide⟩ (Nat.le_of_ble_eq_true rfl) dX8_fair_24 ?_
      refine V.goto (pc := 27) C 32 (by decide) dX8_fair_27 ?_
      exact V.retI (pc := 32) C hf dX8_fair_32
theorem dX0_areThere_0 : decode cX0_areThere 0 = .ok (.aload_n 0, 1) := by decide +kernel
theorem dX0_areThere_1 : decode cX0_areThere 1 = .ok (.getfield 28, 3) := by decide +kernel
theorem dX0_areThere_4 : decode cX0_areThere 4 = .ok (.iload_n 2, 1) := by decide +kernel
theorem dX0_areThere_5 : decode cX0_areThere 5 = .ok (.bipush 6, 2) := by decide +kernel
theorem dX0_areThere_7 : decode cX0_areThere 7 = .ok (.imul, 1) := by decide +kernel
theorem dX0_areThere_8 : decode cX0_areThere 8 = .ok (.ishr, 1) := by decide +kernel
theorem dX0_areThere_9 : decode cX0_areThere 9 = .ok (.bipush 63, 2) := by decide +kernel
theorem dX0_areThere_11 : decode cX0_areThere 11 = .ok (.iand, 1) := by decide +kernel
theorem dX0_areThere_12 : decode cX0_areThere 12 = .ok (.istore_n 3, 1) := by decide +kernel
theorem dX0_areThere_13 : decode cX0_areThere 13 = .ok (.iload_n 1, 1) := by decide +kernel
theorem dX0_areThere_14 : decode cX0_areThere 14 = .ok (.ifCond .eq 15, 3) := by decide +kernel
theorem dX0_areThere_17 : decode cX0_areThere 17 = .ok (.iload_n 1, 1) := by decide +kernel
theorem dX0_areThere_18 : decode cX0_areThere 18 = .ok (.iload_n 3, 1) := by decide +kernel
theorem dX0_areThere_19 : decode cX0_areThere 19 = .ok (.iconst (-1), 1) := by decide +kernel
theorem dX0_areThere_20 : decode cX0_areThere 20 = .ok (.ixor, 1) := by decide +kernel
theorem dX0_areThere_21 : decode cX0_areThere 21 = .ok (.iand, 1) := by decide +kernel
theorem dX0_areThere_22 : decode cX0_areThere 22 = .ok (.ifCond .ne 7, 3) := by decide +kernel
theorem dX0_areThere_25 : decode cX0_areThere 25 = .ok (.iconst 1, 1) := by decide +kernel
theorem dX0_areThere_26 : decode cX0_areThere 26 = .ok (.goto 4, 3) := by decide +kernel
theorem dX0_areThere_29 : decode cX0_areThere 29 = .ok (.iconst 0, 1) := by decide +kernel
theorem dX0_areThere_30 : decode cX0_areThere 30 = .ok (.ireturn, 1) := by decide +kernel
abbrev cxX0_areThere (G : Rg) (X : Ct) : Prop := Cx G X cX0_areThere 4 RX0 (some .boolean) 0 0 (Cond.code yX0_areThere cX0_areThere 4 (some .boolean))
def fX0_areThere (c0 : Nat) (x1 : Int32) (x2 : Int32) (M : Mm) : Option (Int32 × Mm) :=
if x1 = (nI 0) then
(some ((nI 0), M))
else
(if (x1 &&& (((jshr (M.1 c0 0) (x2 * (nI 6))) &&& (nI 63)) ^^^ (mI 1))) = (nI 0) then
(some ((nI 1), M))
else
(some ((nI 0), M)))
set_option maxHeartbeats 4000000 in
set_option maxRecDepth 100000 in
theorem mX0_areThere (l : Launch) {G : Rg} (hG : gS G = shX) {c0 : Nat} {x1 : Int32} {x2 : Int32} (hB0 : isB G c0) {M Mf : Mm} {r : Int32} (hf : fX0_areThere c0 x1 x2 M = some (r, Mf)) : Mt l G yX0_areThere cX0_areThere 4 (some .boolean) 0 0 [.ref (gA G c0), .int x1, .int x2] M (some (.int r)) Mf := by
  refine Mt.of (by decide) (Nat.le_of_ble_eq_true rfl) ?_
  intro X C hX
  subst hX
  have C : cxX0_areThere G X := C
  show V G X 4 (some (.int r)) Mf 0 [(0, .ref (gA G c0)), (1, .int x1), (2, .int x2)] [] M
  rw [fX0_areThere] at hf
  refine V.aload_n (pc := 0) C 0 rfl dX0_areThere_0 ?_
  refine V.getI (pc := 1) C clX0 inX0 hB0.1 0 (by decide) wF_X0_28 rfl dX0_areThere_1 ?_
  refine V.iload_n (pc := 4) C 2 rfl dX0_areThere_4 ?_
  refine V.bipush (pc := 5) C (nI 6) (by decide) dX0_areThere_5 ?_
  refine V.imul (pc := 7) C dX0_areThere_7 ?_
  refine V.ishr (pc := 8) C dX0_areThere_8 ?_
  refine V.bipush (pc := 9) C (nI 63) (by decide) dX0_areThere_9 ?_
  refine V.iand (pc := 11) C dX0_areThere_11 ?_
  refine V.istore_n (pc := 12) (lv' := [(3, .int ((jshr (M.1 c0 0) (x2 * (nI 6))) &&& (nI 63))), (0, .ref (gA G c0)), (1, .int x1), (2, .int x2)]) C (by decide) rfl dX0_areThere_12 ?_
  refine V.iload_n (pc := 13) C 2 rfl dX0_areThere_13 ?_
  rcases it_some hf with ⟨h1, hf⟩ | ⟨h1, hf⟩
  · refine V.if_eqT (pc := 14) C 29 h1 (by decide) dX0_areThere_14 ?_
    refine V.iconst (pc := 29) C (nI 0) (by decide) dX0_areThere_29 ?_
    exact V.retZ (pc := 30) C (Or.inl rfl) hf dX0_areThere_30
  · refine V.if_eqF (pc := 14) C 29 h1 (by decide) dX0_areThere_14 ?_
    refine V.iload_n (pc := 17) C 2 rfl dX0_areThere_17 ?_
    refine V.iload_n (pc := 18) C 0 rfl dX0_areThere_18 ?_
    refine V.iconst (pc := 19) C (mI 1) (by decide) dX0_areThere_19 ?_
    refine V.ixor (pc := 20) C dX0_areThere_20 ?_
    refine V.iand (pc := 21) C dX0_areThere_21 ?_
    rcases it_some hf with ⟨h2, hf⟩ | ⟨h2, hf⟩
    · refine V.if_neF (pc := 22) C 29 h2 (by decide) dX0_areThere_22 ?_
      refine V.iconst (pc := 25) C (nI 1) (by decide) dX0_areThere_25 ?_
      refine V.goto (pc := 26) C 30 (by decide) dX0_areThere_26 ?_
      exact V.retZ (pc := 30) C (Or.inr rfl) hf dX0_areThere_30
    · refine V.if_neT (pc := 22) C 29 h2 (by decide) dX0_areThere_22 ?_
      refine V.iconst (pc := 29) C (nI 0) (by decide) dX0_areThere_29 ?_
      exact V.retZ (pc := 30) C (Or.inl rfl) hf dX0_areThere_30
theorem dX0_addSight_0 : decode cX0_addSight 0 = .ok (.aload_n 0, 1) := by decide +kernel
theorem dX0_addSight_1 : decode cX0_addSight 1 = .ok (.getfield 25, 3) := by decide +kernel
theorem dX0_addSight_4 : decode cX0_addSight 4 = .ok (.aload_n 0, 1) := by decide +kernel
theorem dX0_addSight_5 : decode cX0_addSight 5 = .ok (.getfield 31, 3) := by decide +kernel
theorem dX0_addSight_8 : decode cX0_addSight 8 = .ok (.iload_n 1, 1) := by decide +kernel
theorem dX0_addSight_9 : decode cX0_addSight 9 = .ok (.iastore, 1) := by decide +kernel
theorem dX0_addSight_10 : decode cX0_addSight 10 = .ok (.aload_n 0, 1) := by decide +kernel
theorem dX0_addSight_11 : decode cX0_addSight 11 = .ok (.aload_n 0, 1) := by decide +kernel
theorem dX0_addSight_12 : decode cX0_addSight 12 = .ok (.getfield 34, 3) := by decide +kernel
theorem dX0_addSight_15 : decode cX0_addSight 15 = .ok (.iconst 1, 1) := by decide +kernel
theorem dX0_addSight_16 : decode cX0_addSight 16 = .ok (.aload_n 0, 1) := by decide +kernel
theorem dX0_addSight_17 : decode cX0_addSight 17 = .ok (.getfield 31, 3) := by decide +kernel
theorem dX0_addSight_20 : decode cX0_addSight 20 = .ok (.ishl, 1) := by decide +kernel
theorem dX0_addSight_21 : decode cX0_addSight 21 = .ok (.iconst (-1), 1) := by decide +kernel
theorem dX0_addSight_22 : decode cX0_addSight 22 = .ok (.ixor, 1) := by decide +kernel
theorem dX0_addSight_23 : decode cX0_addSight 23 = .ok (.iand, 1) := by decide +kernel
theorem dX0_addSight_24 : decode cX0_addSight 24 = .ok (.iload_n 2, 1) := by decide +kernel
theorem dX0_addSight_25 : decode cX0_addSight 25 = .ok (.ifCond .eq 12, 3) := by decide +kernel
theorem dX0_addSight_28 : decode cX0_addSight 28 = .ok (.iconst 1, 1) := by decide +kernel
theorem dX0_addSight_29 : decode cX0_addSight 29 = .ok (.aload_n 0, 1) := by decide +kernel
theorem dX0_addSight_30 : decode cX0_addSight 30 = .ok (.getfield 31, 3) := by decide +kernel
theorem dX0_addSight_33 : decode cX0_addSight 33 = .ok (.ishl, 1) := by decide +kernel
theorem dX0_addSight_34 : decode cX0_addSight 34 = .ok (.goto 4, 3) := by decide +kernel
theorem dX0_addSight_37 : decode cX0_addSight 37 = .ok (.iconst 0, 1) := by decide +kernel
theorem dX0_addSight_38 : decode cX0_addSight 38 = .ok (.ior, 1) := by decide +kernel
theorem dX0_addSight_39 : decode cX0_addSight 39 = .ok (.putfield 34, 3) := by decide +kernel
theorem dX0_addSight_42 : decode cX0_addSight 42 = .ok (.aload_n 0, 1) := by decide +kernel
theorem dX0_addSight_43 : decode cX0_addSight 43 = .ok (.dup, 1) := by decide +kernel
theorem dX0_addSight_44 : decode cX0_addSight 44 = .ok (.getfield 31, 3) := by decide +kernel
theorem dX0_addSight_47 : decode cX0_addSight 47 = .ok (.iconst 1, 1) := by decide +kernel
theorem dX0_addSight_48 : decode cX0_addSight 48 = .ok (.iadd, 1) := by decide +kernel
theorem dX0_addSight_49 : decode cX0_addSight 49 = .ok (.putfield 31, 3) := by decide +kernel
theorem dX0_addSight_52 : decode cX0_addSight 52 = .ok (.return_, 1) := by decide +kernel
abbrev cxX0_addSight (G : Rg) (X : Ct) : Prop := Cx G X cX0_addSight 3 RX0 (none) 0 0 (Cond.code yX0_addSight cX0_addSight 3 (none))
def fX0_addSight_b38  (c0 : Nat) (s1 : Int32) (s2 : Int32) (M : Mm) : Option (Unit × Mm) :=
some ((), (sI (sI M c0 3 (s1 ||| s2)) c0 2 (((sI M c0 3 (s1 ||| s2)).1 c0 2) + (nI 1))))
set_option maxHeartbeats 4000000 in
set_option maxRecDepth 100000 in
theorem vX0_addSight_b38 {G : Rg} {X : Ct} {r : Unit} {Mf : Mm} {c0 : Nat}  (C : cxX0_addSight G X) (hG : gS G = shX) (hB0 : isB G c0)  (s1 : Int32) (s2 : Int32) (M : Mm) (hf : fX0_addSight_b38 c0 s1 s2 M = some (r, Mf)) : V G X 3 none Mf 38 [(0, .ref (gA G c0))] [.int s2, .int s1, .ref (gA G c0)] M := by
  rw [fX0_addSight_b38] at hf
  refine V.ior (pc := 38) C dX0_addSight_38 ?_
  refine V.putI (pc := 39) C clX0 inX0 hB0.1 3 (by decide) wF_X0_34 tyX0 tyX0_ok nmX0 rfl (tyX0_ok 3 (by decide)) rfl dX0_addSight_39 ?_
  refine V.aload_n (pc := 42) C 0 rfl dX0_addSight_42 ?_
  refine V.dup (pc := 43) C rfl dX0_addSight_43 ?_
  refine V.getI (pc := 44) C clX0 inX0 hB0.1 2 (by decide) wF_X0_31 rfl dX0_addSight_44 ?_
  refine V.iconst (pc := 47) C (nI 1) (by decide) dX0_addSight_47 ?_
  refine V.iadd (pc := 48) C dX0_addSight_48 ?_
  refine V.putI (pc := 49) C clX0 inX0 hB0.1 2 (by decide) wF_X0_31 tyX0 tyX0_ok nmX0 rfl (tyX0_ok 2 (by decide)) rfl dX0_addSight_49 ?_
  exact V.retV (pc := 52) C hf dX0_addSight_52
def fX0_addSight (c0 : Nat) (x1 : Int32) (x2 : Int32) (M : Mm) : Option (Unit × Mm) :=
gd (inb (M.1 c0 2) 8) (
if x2 = (nI 0) then
(fX0_addSight_b38 c0 (((sI M (c0 + 4) (M.1 c0 2).toNatClampNeg x1).1 c0 3) &&& ((jshl (nI 1) ((sI M (c0 + 4) (M.1 c0 2).toNatClampNeg x1).1 c0 2)) ^^^ (mI 1))) (nI 0) (sI M (c0 + 4) (M.1 c0 2).toNatClampNeg x1))
else
(fX0_addSight_b38 c0 (((sI M (c0 + 4) (M.1 c0 2).toNatClampNeg x1).1 c0 3) &&& ((jshl (nI 1) ((sI M (c0 + 4) (M.1 c0 2).toNatClampNeg x1).1 c0 2)) ^^^ (mI 1))) (jshl (nI 1) ((sI M (c0 + 4) (M.1 c0 2).toNatClampNeg x1).1 c0 2)) (sI M (c0 + 4) (M.1 c0 2).toNatClampNeg x1)))
set_option maxHeartbeats 4000000 in
set_option maxRecDepth 100000 in
theorem mX0_addSight (l : Launch) {G : Rg} (hG : gS G = shX) {c0 : Nat} {x1 : Int32} {x2 : Int32} (hB0 : isB G c0) {M Mf : Mm} {r : Unit} (hf : fX0_addSight c0 x1 x2 M = some (r, Mf)) : Mt l G yX0_addSight cX0_addSight 3 (none) 0 0 [.ref (gA G c0), .int x1, .int x2] M none Mf := by
  refine Mt.of (by decide) (Nat.le_of_ble_eq_true rfl) ?_
  intro X C hX
  subst hX
  have C : cxX0_addSight G X := C
  show V G X 3 none Mf 0 [(0, .ref (gA G c0)), (1, .int x1), (2, .int x2)] [] M
  rw [fX0_addSight] at hf
  refine V.aload_n (pc := 0) C 0 rfl dX0_addSight_0 ?_
  refine V.getR (pc := 1) C clX0 inX0 hB0.1 7 (by decide) wF_X0_25 rfl dX0_addSight_1 ?_
  refine V.aload_n (pc := 4) C 0 rfl dX0_addSight_4 ?_
  refine V.getI (pc := 5) C clX0 inX0 hB0.1 2 (by decide) wF_X0_31 rfl dX0_addSight_5 ?_
  refine V.iload_n (pc := 8) C 1 rfl dX0_addSight_8 ?_
  obtain ⟨g1, hf⟩ := gd_some hf
  refine V.iast (pc := 9) C hB0.2.2.2.2 (inb_in g1) dX0_addSight_9 ?_
  refine V.aload_n (pc := 10) C 0 rfl dX0_addSight_10 ?_
  refine V.aload_n (pc := 11) C 0 rfl dX0_addSight_11 ?_
  refine V.getI (pc := 12) C clX0 inX0 hB0.1 3 (by decide) wF_X0_34 rfl dX0_addSight_12 ?_
  refine V.iconst (pc := 15) C (nI 1) (by decide) dX0_addSight_15 ?_
  refine V.aload_n (pc := 16) C 0 rfl dX0_addSight_16 ?_
  refine V.getI (pc := 17) C clX0 inX0 hB0.1 2 (by decide) wF_X0_31 rfl dX0_addSight_17 ?_
  refine V.ishl (pc := 20) C dX0_addSight_20 ?_
  refine V.iconst (pc := 21) C (mI 1) (by decide) dX0_addSight_21 ?_
  refine V.ixor (pc := 22) C dX0_addSight_22 ?_
  refine V.iand (pc := 23) C dX0_addSight_23 ?_
  refine V.iload_n (pc := 24) C 2 rfl dX0_addSight_24 ?_
  rcases it_some hf with ⟨h2, hf⟩ | ⟨h2, hf⟩
  · refine V.if_eqT (pc := 25) C 37 h2 (by decide) dX0_addSight_25 ?_
    refine V.iconst (pc := 37) C (nI 0) (by decide) dX0_addSight_37 ?_
    refine V.sub C [0] (lv' := [(0, .ref (gA G c0))]) rfl ?_
    exact vX0_addSight_b38 C hG hB0   _ _ _ hf
  · refine V.if_eqF (pc := 25) C 37 h2 (by decide) dX0_addSight_25 ?_
    refine V.iconst (pc := 28) C (nI 1) (by decide) dX0_addSight_28 ?_
    refine V.aload_n (pc := 29) C 0 rfl dX0_addSight_29 ?_
    refine V.getI (pc := 30) C clX0 inX0 hB0.1 2 (by decide) wF_X0_31 rfl dX0_addSight_30 ?_
    refine V.ishl (pc := 33) C dX0_addSight_33 ?_
    refine V.goto (pc := 34) C 38 (by decide) dX0_addSight_34 ?_
    refine V.sub C [0] (lv' := [(0, .ref (gA G c0))]) rfl ?_
    exact vX0_addSight_b38 C hG hB0   _ _ _ hf
theorem dX8_seen_0 : decode cX8_seen 0 = .ok (.aload_n 0, 1) := by decide +kernel
theorem dX8_seen_1 : decode cX8_seen 1 = .ok (.getfield 12, 3) := by decide +kernel
theorem dX8_seen_4 : decode cX8_seen 4 = .ok (.iload_n 1, 1) := by decide +kernel
theorem dX8_seen_5 : decode cX8_seen 5 = .ok (.iconst 0, 1) := by decide +kernel
theorem dX8_seen_6 : decode cX8_seen 6 = .ok (.invokevirtual 180, 3) := by decide +kernel
theorem dX8_seen_9 : decode cX8_seen 9 = .ok (.ifCond .eq 15, 3) := by decide +kernel
theorem dX8_seen_12 : decode cX8_seen 12 = .ok (.aload_n 0, 1) := by decide +kernel
theorem dX8_seen_13 : decode cX8_seen 13 = .ok (.getfield 12, 3) := by decide +kernel
theorem dX8_seen_16 : decode cX8_seen 16 = .ok (.iload_n 2, 1) := by decide +kernel
theorem dX8_seen_17 : decode cX8_seen 17 = .ok (.iconst 1, 1) := by decide +kernel
theorem dX8_seen_18 : decode cX8_seen 18 = .ok (.invokevirtual 180, 3) := by decide +kernel
theorem dX8_seen_21 : decode cX8_seen 21 = .ok (.ifCond .ne 5, 3) := by decide +kernel
theorem dX8_seen_24 : decode cX8_seen 24 = .ok (.iconst (-1), 1) := by decide +kernel
theorem dX8_seen_25 : decode cX8_seen 25 = .ok (.ireturn, 1) := by decide +kernel
theorem dX8_seen_26 : decode cX8_seen 26 = .ok (.aload_n 0, 1) := by decide +kernel
theorem dX8_seen_27 : decode cX8_seen 27 = .ok (.getfield 12, 3) := by decide +kernel
theorem dX8_seen_30 : decode cX8_seen 30 = .ok (.getfield 184, 3) := by decide +kernel
theorem dX8_seen_33 : decode cX8_seen 33 = .ok (.bipush 8, 2) := by decide +kernel
theorem dX8_seen_35 : decode cX8_seen 35 = .ok (.if_icmp .lt 6, 3) := by decide +kernel
theorem dX8_seen_38 : decode cX8_seen 38 = .ok (.bipush (-4), 2) := by decide +kernel
theorem dX8_seen_40 : decode cX8_seen 40 = .ok (.ireturn, 1) := by decide +kernel
theorem dX8_seen_41 : decode cX8_seen 41 = .ok (.aload_n 0, 1) := by decide +kernel
theorem dX8_seen_42 : decode cX8_seen 42 = .ok (.getfield 12, 3) := by decide +kernel
theorem dX8_seen_45 : decode cX8_seen 45 = .ok (.iload_n 1, 1) := by decide +kernel
theorem dX8_seen_46 : decode cX8_seen 46 = .ok (.iload_n 2, 1) := by decide +kernel
theorem dX8_seen_47 : decode cX8_seen 47 = .ok (.bipush 6, 2) := by decide +kernel
theorem dX8_seen_49 : decode cX8_seen 49 = .ok (.ishl, 1) := by decide +kernel
theorem dX8_seen_50 : decode cX8_seen 50 = .ok (.ior, 1) := by decide +kernel
theorem dX8_seen_51 : decode cX8_seen 51 = .ok (.iload_n 3, 1) := by decide +kernel
theorem dX8_seen_52 : decode cX8_seen 52 = .ok (.invokevirtual 187, 3) := by decide +kernel
theorem dX8_seen_55 : decode cX8_seen 55 = .ok (.aload_n 0, 1) := by decide +kernel
theorem dX8_seen_56 : decode cX8_seen 56 = .ok (.getfield 12, 3) := by decide +kernel
theorem dX8_seen_59 : decode cX8_seen 59 = .ok (.getfield 184, 3) := by decide +kernel
theorem dX8_seen_62 : decode cX8_seen 62 = .ok (.ireturn, 1) := by decide +kernel
abbrev cxX8_seen (G : Rg) (X : Ct) : Prop := Cx G X cX8_seen 4 RX8 (some .int) 1 23 (Cond.code yX8_seen cX8_seen 4 (some .int))
def fX8_seen (x1 : Int32) (x2 : Int32) (x3 : Int32) (M : Mm) : Option (Int32 × Mm) :=
bd (fX0_areThere 1 x1 (nI 0) M) fun r1 M1 =>
if r1 = (nI 0) then
(some ((mI 1), M1))
else
(bd (fX0_areThere 1 x2 (nI 1) M1) fun r3 M3 =>
if r3 = (nI 0) then
(some ((mI 1), M3))
else
(if (M3.1 1 2) < (nI 8) then
(bd (fX0_addSight 1 (x1 ||| (jshl x2 (nI 6))) x3 M3) fun _ M6 =>
some ((M6.1 1 2), M6))
else
(some ((mI 4), M3))))
set_option maxHeartbeats 4000000 in
set_option maxRecDepth 100000 in
theorem mX8_seen (l : Launch) {G : Rg} (hG : gS G = shX) {x1 : Int32} {x2 : Int32} {x3 : Int32}  {M Mf : Mm} {r : Int32} (hf : fX8_seen x1 x2 x3 M = some (r, Mf)) : Mt l G yX8_seen cX8_seen 4 (some .int) 1 23 [.ref (gA G 0), .int x1, .int x2, .int x3] M (some (.int r)) Mf := by
  refine Mt.of (by decide) (Nat.le_of_ble_eq_true rfl) ?_
  intro X C hX
  subst hX
  have C : cxX8_seen G X := C
  show V G X 4 (some (.int r)) Mf 0 [(0, .ref (gA G 0)), (1, .int x1), (2, .int x2), (3, .int x3)] [] M
  rw [fX8_seen] at hf
  refine V.aload_n (pc := 0) C 0 rfl dX8_seen_0 ?_
  refine V.getR (pc := 1) C clX8 inX8 (sx_0 hG) 0 (by decide) wF_X8_12 rfl dX8_seen_1 ?_
  refine V.iload_n (pc := 4) C 1 rfl dX8_seen_4 ?_
  refine V.iconst (pc := 5) C (nI 0) (by decide) dX8_seen_5 ?_
  obtain ⟨r1, M1, h1, hf⟩ := bd_some hf
  refine V.callVi (pc := 6) (As := [.int x1, .int (nI 0)]) (rest := []) C (mX0_areThere X.2.1 hG (bx_1 hG) h1) mf_X0_areThere clX0 (sx_1 hG) wM_X8_180 rfl rfl ⟨by decide, by decide⟩ (Nat.le_of_ble_eq_true rfl) dX8_seen_6 ?_
  rcases it_some hf with ⟨h2, hf⟩ | ⟨h2, hf⟩
  · refine V.if_eqT (pc := 9) C 24 h2 (by decide) dX8_seen_9 ?_
    refine V.iconst (pc := 24) C (mI 1) (by decide) dX8_seen_24 ?_
    exact V.retI (pc := 25) C hf dX8_seen_25
  · refine V.if_eqF (pc := 9) C 24 h2 (by decide) dX8_seen_9 ?_
    refine V.aload_n (pc := 12) C 0 rfl dX8_seen_12 ?_
    refine V.getR (pc := 13) C clX8 inX8 (sx_0 hG) 0 (by decide) wF_X8_12 rfl dX8_seen_13 ?_
    refine V.iload_n (pc := 16) C 2 rfl dX8_seen_16 ?_
    refine V.iconst (pc := 17) C (nI 1) (by decide) dX8_seen_17 ?_
    obtain ⟨r3, M3, h3, hf⟩ := bd_some hf
    refine V.callVi (pc := 18) (As := [.int x2, .int (nI 1)]) (rest := []) C (mX0_areThere X.2.1 hG (bx_1 hG) h3) mf_X0_areThere clX0 (sx_1 hG) wM_X8_180 rfl rfl ⟨by decide, by decide⟩ (Nat.le_of_ble_eq_true rfl) dX8_seen_18 ?_
    rcases it_some hf with ⟨h4, hf⟩ | ⟨h4, hf⟩
    · refine V.if_neF (pc := 21) C 26 h4 (by decide) dX8_seen_21 ?_
      refine V.iconst (pc := 24) C (mI 1) (by decide) dX8_seen_24 ?_
      exact V.retI (pc := 25) C hf dX8_seen_25
    · refine V.if_neT (pc := 21) C 26 h4 (by decide) dX8_seen_21 ?_
      refine V.aload_n (pc := 26) C 0 rfl dX8_seen_26 ?_
      refine V.getR (pc := 27) C clX8 inX8 (sx_0 hG) 0 (by decide) wF_X8_12 rfl dX8_seen_27 ?_
      refine V.getI (pc := 30) C clX0 inX0 (sx_1 hG) 2 (by decide) wF_X8_184 rfl dX8_seen_30 ?_
      refine V.bipush (pc := 33) C (nI 8) (by decide) dX8_seen_33 ?_
      rcases it_some hf with ⟨h5, hf⟩ | ⟨h5, hf⟩
      · refine V.ic_ltT (pc := 35) C 41 h5 (by decide) dX8_seen_35 ?_
        refine V.aload_n (pc := 41) C 0 rfl dX8_seen_41 ?_
        refine V.getR (pc := 42) C clX8 inX8 (sx_0 hG) 0 (by decide) wF_X8_12 rfl dX8_seen_42 ?_
        refine V.iload_n (pc := 45) C 1 rfl dX8_seen_45 ?_
        refine V.iload_n (pc := 46) C 2 rfl dX8_seen_46 ?_
        refine V.bipush (pc := 47) C (nI 6) (by decide) dX8_seen_47 ?_
        refine V.ishl (pc := 49) C dX8_seen_49 ?_
        refine V.ior (pc := 50) C dX8_seen_50 ?_
        refine V.iload_n (pc := 51) C 3 rfl dX8_seen_51 ?_
        obtain ⟨_, M6, h6, hf⟩ := bd_some hf
        refine V.callVv (pc := 52) (As := [.int (x1 ||| (jshl x2 (nI 6))), .int x3]) (rest := []) C (mX0_addSight X.2.1 hG (bx_1 hG) h6) mf_X0_addSight clX0 (sx_1 hG) wM_X8_187 rfl rfl ⟨by decide, by decide⟩ (Nat.le_of_ble_eq_true rfl) dX8_seen_52 ?_
        refine V.aload_n (pc := 55) C 0 rfl dX8_seen_55 ?_
        refine V.getR (pc := 56) C clX8 inX8 (sx_0 hG) 0 (by decide) wF_X8_12 rfl dX8_seen_56 ?_
        refine V.getI (pc := 59) C clX0 inX0 (sx_1 hG) 2 (by decide) wF_X8_184 rfl dX8_seen_59 ?_
        exact V.retI (pc := 62) C hf dX8_seen_62
      · refine V.ic_ltF (pc := 35) C 41 h5 (by decide) dX8_seen_35 ?_
        refine V.bipush (pc := 38) C (mI 4) (by decide) dX8_seen_38 ?_
        exact V.retI (pc := 40) C hf dX8_seen_40
theorem dX8_forget_0 : decode cX8_forget 0 = .ok (.aload_n 0, 1) := by decide +kernel
theorem dX8_forget_1 : decode cX8_forget 1 = .ok (.getfield 12, 3) := by decide +kernel
theorem dX8_forget_4 : decode cX8_forget 4 = .ok (.getfield 184, 3) := by decide +kernel
theorem dX8_forget_7 : decode cX8_forget 7 = .ok (.istore_n 1, 1) := by decide +kernel
theorem dX8_forget_8 : decode cX8_forget 8 = .ok (.aload_n 0, 1) := by decide +kernel
theorem dX8_forget_9 : decode cX8_forget 9 = .ok (.getfield 12, 3) := by decide +kernel
theorem dX8_forget_12 : decode cX8_forget 12 = .ok (.iconst 0, 1) := by decide +kernel
theorem dX8_forget_13 : decode cX8_forget 13 = .ok (.putfield 184, 3) := by decide +kernel
theorem dX8_forget_16 : decode cX8_forget 16 = .ok (.iload_n 1, 1) := by decide +kernel
theorem dX8_forget_17 : decode cX8_forget 17 = .ok (.ireturn, 1) := by decide +kernel
abbrev cxX8_forget (G : Rg) (X : Ct) : Prop := Cx G X cX8_forget 2 RX8 (some .int) 0 0 (Cond.code yX8_forget cX8_forget 2 (some .int))
def fX8_forget  (M : Mm) : Option (Int32 × Mm) :=
some ((M.1 1 2), (sI M 1 2 (nI 0)))
set_option maxHeartbeats 4000000 in
set_option maxRecDepth 100000 in
theorem mX8_forget (l : Launch) {G : Rg} (hG : gS G = shX)   {M Mf : Mm} {r : Int32} (hf : fX8_forget  M = some (r, Mf)) : Mt l G yX8_forget cX8_forget 2 (some .int) 0 0 [.ref (gA G 0)] M (some (.int r)) Mf := by
  refine Mt.of (by decide) (Nat.le_of_ble_eq_true rfl) ?_
  intro X C hX
  subst hX
  have C : cxX8_forget G X := C
  show V G X 2 (some (.int r)) Mf 0 [(0, .ref (gA G 0))] [] M
  rw [fX8_forget] at hf
  refine V.aload_n (pc := 0) C 0 rfl dX8_forget_0 ?_
  refine V.getR (pc := 1) C clX8 inX8 (sx_0 hG) 0 (by decide) wF_X8_12 rfl dX8_forget_1 ?_
  refine V.getI (pc := 4) C clX0 inX0 (sx_1 hG) 2 (by decide) wF_X8_184 rfl dX8_forget_4 ?_
  refine V.istore_n (pc := 7) (lv' := [(1, .int (M.1 1 2)), (0, .ref (gA G 0))]) C (by decide) rfl dX8_forget_7 ?_
  refine V.aload_n (pc := 8) C 1 rfl dX8_forget_8 ?_
  refine V.getR (pc := 9) C clX8 inX8 (sx_0 hG) 0 (by decide) wF_X8_12 rfl dX8_forget_9 ?_
  refine V.iconst (pc := 12) C (nI 0) (by decide) dX8_forget_12 ?_
  refine V.putI (pc := 13) C clX0 inX0 (sx_1 hG) 2 (by decide) wF_X8_184 tyX0 tyX0_ok nmX0 rfl (tyX0_ok 2 (by decide)) rfl dX8_forget_13 ?_
  refine V.iload_n (pc := 16) C 0 rfl dX8_forget_16 ?_
  exact V.retI (pc := 17) C hf dX8_forget_17
theorem dX6_addIfFits_0 : decode cX6_addIfFits 0 = .ok (.iload_n 2, 1) := by decide +kernel
theorem dX6_addIfFits_1 : decode cX6_addIfFits 1 = .ok (.iconst (-1), 1) := by decide +kernel
theorem dX6_addIfFits_2 : decode cX6_addIfFits 2 = .ok (.if_icmp .ne 7, 3) := by decide +kernel
theorem dX6_addIfFits_5 : decode cX6_addIfFits 5 = .ok (.iconst 0, 1) := by decide +kernel
theorem dX6_addIfFits_6 : decode cX6_addIfFits 6 = .ok (.goto 15, 3) := by decide +kernel
theorem dX6_addIfFits_9 : decode cX6_addIfFits 9 = .ok (.aload_n 1, 1) := by decide +kernel
theorem dX6_addIfFits_10 : decode cX6_addIfFits 10 = .ok (.getfield 48, 3) := by decide +kernel
theorem dX6_addIfFits_13 : decode cX6_addIfFits 13 = .ok (.iload_n 3, 1) := by decide +kernel
theorem dX6_addIfFits_14 : decode cX6_addIfFits 14 = .ok (.iaload, 1) := by decide +kernel
theorem dX6_addIfFits_15 : decode cX6_addIfFits 15 = .ok (.aload_n 1, 1) := by decide +kernel
theorem dX6_addIfFits_16 : decode cX6_addIfFits 16 = .ok (.iload_n 2, 1) := by decide +kernel
theorem dX6_addIfFits_17 : decode cX6_addIfFits 17 = .ok (.invokevirtual 51, 3) := by decide +kernel
theorem dX6_addIfFits_20 : decode cX6_addIfFits 20 = .ok (.isub, 1) := by decide +kernel
theorem dX6_addIfFits_21 : decode cX6_addIfFits 21 = .ok (.istore 4, 2) := by decide +kernel
theorem dX6_addIfFits_23 : decode cX6_addIfFits 23 = .ok (.iconst 0, 1) := by decide +kernel
theorem dX6_addIfFits_24 : decode cX6_addIfFits 24 = .ok (.istore 5, 2) := by decide +kernel
theorem dX6_addIfFits_26 : decode cX6_addIfFits 26 = .ok (.iload 5, 2) := by decide +kernel
theorem dX6_addIfFits_28 : decode cX6_addIfFits 28 = .ok (.aload_n 1, 1) := by decide +kernel
theorem dX6_addIfFits_29 : decode cX6_addIfFits 29 = .ok (.getfield 21, 3) := by decide +kernel
theorem dX6_addIfFits_32 : decode cX6_addIfFits 32 = .ok (.if_icmp .ge 89, 3) := by decide +kernel
theorem dX6_addIfFits_35 : decode cX6_addIfFits 35 = .ok (.aload_n 0, 1) := by decide +kernel
theorem dX6_addIfFits_36 : decode cX6_addIfFits 36 = .ok (.getfield 18, 3) := by decide +kernel
theorem dX6_addIfFits_39 : decode cX6_addIfFits 39 = .ok (.iload 5, 2) := by decide +kernel
theorem dX6_addIfFits_41 : decode cX6_addIfFits 41 = .ok (.iaload, 1) := by decide +kernel
theorem dX6_addIfFits_42 : decode cX6_addIfFits 42 = .ok (.istore 6, 2) := by decide +kernel
theorem dX6_addIfFits_44 : decode cX6_addIfFits 44 = .ok (.iload_n 2, 1) := by decide +kernel
theorem dX6_addIfFits_45 : decode cX6_addIfFits 45 = .ok (.iconst (-1), 1) := by decide +kernel
theorem dX6_addIfFits_46 : decode cX6_addIfFits 46 = .ok (.if_icmp .eq 37, 3) := by decide +kernel
theorem dX6_addIfFits_49 : decode cX6_addIfFits 49 = .ok (.aload_n 1, 1) := by decide +kernel
theorem dX6_addIfFits_50 : decode cX6_addIfFits 50 = .ok (.getfield 27, 3) := by decide +kernel
theorem dX6_addIfFits_53 : decode cX6_addIfFits 53 = .ok (.iload 5, 2) := by decide +kernel
theorem dX6_addIfFits_55 : decode cX6_addIfFits 55 = .ok (.iaload, 1) := by decide +kernel
theorem dX6_addIfFits_56 : decode cX6_addIfFits 56 = .ok (.iload_n 2, 1) := by decide +kernel
theorem dX6_addIfFits_57 : decode cX6_addIfFits 57 = .ok (.ishr, 1) := by decide +kernel
theorem dX6_addIfFits_58 : decode cX6_addIfFits 58 = .ok (.iconst 1, 1) := by decide +kernel
theorem dX6_addIfFits_59 : decode cX6_addIfFits 59 = .ok (.iand, 1) := by decide +kernel
theorem dX6_addIfFits_60 : decode cX6_addIfFits 60 = .ok (.iconst 1, 1) := by decide +kernel
theorem dX6_addIfFits_61 : decode cX6_addIfFits 61 = .ok (.if_icmp .ne 22, 3) := by decide +kernel
theorem dX6_addIfFits_64 : decode cX6_addIfFits 64 = .ok (.iload 6, 2) := by decide +kernel
theorem dX6_addIfFits_66 : decode cX6_addIfFits 66 = .ok (.iload_n 2, 1) := by decide +kernel
theorem dX6_addIfFits_67 : decode cX6_addIfFits 67 = .ok (.bipush 6, 2) := by decide +kernel
theorem dX6_addIfFits_69 : decode cX6_addIfFits 69 = .ok (.if_icmp .ge 8, 3) := by decide +kernel
theorem dX6_addIfFits_72 : decode cX6_addIfFits 72 = .ok (.iload 4, 2) := by decide +kernel
theorem dX6_addIfFits_74 : decode cX6_addIfFits 74 = .ok (.goto 6, 3) := by decide +kernel
theorem dX6_addIfFits_77 : decode cX6_addIfFits 77 = .ok (.iload 4, 2) := by decide +kernel
theorem dX6_addIfFits_79 : decode cX6_addIfFits 79 = .ok (.ineg, 1) := by decide +kernel
theorem dX6_addIfFits_80 : decode cX6_addIfFits 80 = .ok (.iadd, 1) := by decide +kernel
theorem dX6_addIfFits_81 : decode cX6_addIfFits 81 = .ok (.istore 6, 2) := by decide +kernel
theorem dX6_addIfFits_83 : decode cX6_addIfFits 83 = .ok (.iload 6, 2) := by decide +kernel
theorem dX6_addIfFits_85 : decode cX6_addIfFits 85 = .ok (.ifCond .ne 7, 3) := by decide +kernel
theorem dX6_addIfFits_88 : decode cX6_addIfFits 88 = .ok (.iconst 1, 1) := by decide +kernel
theorem dX6_addIfFits_89 : decode cX6_addIfFits 89 = .ok (.goto 4, 3) := by decide +kernel
theorem dX6_addIfFits_92 : decode cX6_addIfFits 92 = .ok (.iconst 0, 1) := by decide +kernel
theorem dX6_addIfFits_93 : decode cX6_addIfFits 93 = .ok (.aload_n 1, 1) := by decide +kernel
theorem dX6_addIfFits_94 : decode cX6_addIfFits 94 = .ok (.getfield 54, 3) := by decide +kernel
theorem dX6_addIfFits_97 : decode cX6_addIfFits 97 = .ok (.iload 5, 2) := by decide +kernel
theorem dX6_addIfFits_99 : decode cX6_addIfFits 99 = .ok (.ishr, 1) := by decide +kernel
theorem dX6_addIfFits_100 : decode cX6_addIfFits 100 = .ok (.iconst 1, 1) := by decide +kernel
theorem dX6_addIfFits_101 : decode cX6_addIfFits 101 = .ok (.iand, 1) := by decide +kernel
theorem dX6_addIfFits_102 : decode cX6_addIfFits 102 = .ok (.iconst 1, 1) := by decide +kernel
theorem dX6_addIfFits_103 : decode cX6_addIfFits 103 = .ok (.if_icmp .ne 7, 3) := by decide +kernel
theorem dX6_addIfFits_106 : decode cX6_addIfFits 106 = .ok (.iconst 1, 1) := by decide +kernel
theorem dX6_addIfFits_107 : decode cX6_addIfFits 107 = .ok (.goto 4, 3) := by decide +kernel
theorem dX6_addIfFits_110 : decode cX6_addIfFits 110 = .ok (.iconst 0, 1) := by decide +kernel
theorem dX6_addIfFits_111 : decode cX6_addIfFits 111 = .ok (.if_icmp .eq 4, 3) := by decide +kernel
theorem dX6_addIfFits_114 : decode cX6_addIfFits 114 = .ok (.return_, 1) := by decide +kernel
theorem dX6_addIfFits_115 : decode cX6_addIfFits 115 = .ok (.iinc 5 1, 3) := by decide +kernel
theorem dX6_addIfFits_118 : decode cX6_addIfFits 118 = .ok (.goto (-92), 3) := by decide +kernel
theorem dX6_addIfFits_121 : decode cX6_addIfFits 121 = .ok (.aload_n 0, 1) := by decide +kernel
theorem dX6_addIfFits_122 : decode cX6_addIfFits 122 = .ok (.getfield 34, 3) := by decide +kernel
theorem dX6_addIfFits_125 : decode cX6_addIfFits 125 = .ok (.bipush 61, 2) := by decide +kernel
theorem dX6_addIfFits_127 : decode cX6_addIfFits 127 = .ok (.if_icmp .ge 33, 3) := by decide +kernel
theorem dX6_addIfFits_130 : decode cX6_addIfFits 130 = .ok (.aload_n 0, 1) := by decide +kernel
theorem dX6_addIfFits_131 : decode cX6_addIfFits 131 = .ok (.getfield 11, 3) := by decide +kernel
theorem dX6_addIfFits_134 : decode cX6_addIfFits 134 = .ok (.aload_n 0, 1) := by decide +kernel
theorem dX6_addIfFits_135 : decode cX6_addIfFits 135 = .ok (.getfield 34, 3) := by decide +kernel
theorem dX6_addIfFits_138 : decode cX6_addIfFits 138 = .ok (.iload_n 2, 1) := by decide +kernel
theorem dX6_addIfFits_139 : decode cX6_addIfFits 139 = .ok (.iastore, 1) := by decide +kernel
theorem dX6_addIfFits_140 : decode cX6_addIfFits 140 = .ok (.aload_n 0, 1) := by decide +kernel
theorem dX6_addIfFits_141 : decode cX6_addIfFits 141 = .ok (.getfield 15, 3) := by decide +kernel
theorem dX6_addIfFits_144 : decode cX6_addIfFits 144 = .ok (.aload_n 0, 1) := by decide +kernel
theorem dX6_addIfFits_145 : decode cX6_addIfFits 145 = .ok (.getfield 34, 3) := by decide +kernel
theorem dX6_addIfFits_148 : decode cX6_addIfFits 148 = .ok (.iload_n 3, 1) := by decide +kernel
theorem dX6_addIfFits_149 : decode cX6_addIfFits 149 = .ok (.iastore, 1) := by decide +kernel
theorem dX6_addIfFits_150 : decode cX6_addIfFits 150 = .ok (.aload_n 0, 1) := by decide +kernel
theorem dX6_addIfFits_151 : decode cX6_addIfFits 151 = .ok (.dup, 1) := by decide +kernel
theorem dX6_addIfFits_152 : decode cX6_addIfFits 152 = .ok (.getfield 34, 3) := by decide +kernel
theorem dX6_addIfFits_155 : decode cX6_addIfFits 155 = .ok (.iconst 1, 1) := by decide +kernel
theorem dX6_addIfFits_156 : decode cX6_addIfFits 156 = .ok (.iadd, 1) := by decide +kernel
theorem dX6_addIfFits_157 : decode cX6_addIfFits 157 = .ok (.putfield 34, 3) := by decide +kernel
theorem dX6_addIfFits_160 : decode cX6_addIfFits 160 = .ok (.return_, 1) := by decide +kernel
abbrev cxX6_addIfFits (G : Rg) (X : Ct) : Prop := Cx G X cX6_addIfFits 7 RX6 (none) 1 21 (Cond.code yX6_addIfFits cX6_addIfFits 7 (none))
def fX6_addIfFits_b121  (c1 : Nat) (v2 : Int32) (v3 : Int32) (M : Mm) : Option (Unit × Mm) :=
if (nI 61) ≤ (M.1 20 0) then
(some ((), M))
else
(gd (inb (M.1 20 0) 61) (
gd (inb ((sI M 21 (M.1 20 0).toNatClampNeg v2).1 20 0) 61) (
some ((), (sI (sI (sI M 21 (M.1 20 0).toNatClampNeg v2) 22 ((sI M 21 (M.1 20 0).toNatClampNeg v2).1 20 0).toNatClampNeg v3) 20 0 (((sI (sI M 21 (M.1 20 0).toNatClampNeg v2) 22 ((sI M 21 (M.1 20 0).toNatClampNeg v2).1 20 0).toNatClampNeg v3).1 20 0) + (nI 1)))))))
set_option maxHeartbeats 4000000 in
set_option maxRecDepth 100000 in
theorem vX6_addIfFits_b121 {G : Rg} {X : Ct} {r : Unit} {Mf : Mm} {c1 : Nat}  (C : cxX6_addIfFits G X) (hG : gS G = shX) (hB1 : isB G c1)  (v2 : Int32) (v3 : Int32) (M : Mm) (hf : fX6_addIfFits_b121 c1 v2 v3 M = some (r, Mf)) : V G X 7 none Mf 121 [(0, .ref (gA G 20)), (2, .int v2), (3, .int v3)] [] M := by
  rw [fX6_addIfFits_b121] at hf
  refine V.aload_n (pc := 121) C 0 rfl dX6_addIfFits_121 ?_
  refine V.getI (pc := 122) C clX6 inX6 (sx_20 hG) 0 (by decide) wF_X6_34 rfl dX6_addIfFits_122 ?_
  refine V.bipush (pc := 125) C (nI 61) (by decide) dX6_addIfFits_125 ?_
  rcases it_some hf with ⟨h1, hf⟩ | ⟨h1, hf⟩
  · refine V.ic_geT (pc := 127) C 160 h1 (by decide) dX6_addIfFits_127 ?_
    exact V.retV (pc := 160) C hf dX6_addIfFits_160
  · refine V.ic_geF (pc := 127) C 160 h1 (by decide) dX6_addIfFits_127 ?_
    refine V.aload_n (pc := 130) C 0 rfl dX6_addIfFits_130 ?_
    refine V.getR (pc := 131) C clX6 inX6 (sx_20 hG) 3 (by decide) wF_X6_11 rfl dX6_addIfFits_131 ?_
    refine V.aload_n (pc := 134) C 0 rfl dX6_addIfFits_134 ?_
    refine V.getI (pc := 135) C clX6 inX6 (sx_20 hG) 0 (by decide) wF_X6_34 rfl dX6_addIfFits_135 ?_
    refine V.iload_n (pc := 138) C 1 rfl dX6_addIfFits_138 ?_
    obtain ⟨g2, hf⟩ := gd_some hf
    refine V.iast (pc := 139) C (sx_21 hG) (inb_in g2) dX6_addIfFits_139 ?_
    refine V.aload_n (pc := 140) C 0 rfl dX6_addIfFits_140 ?_
    refine V.getR (pc := 141) C clX6 inX6 (sx_20 hG) 4 (by decide) wF_X6_15 rfl dX6_addIfFits_141 ?_
    refine V.aload_n (pc := 144) C 0 rfl dX6_addIfFits_144 ?_
    refine V.getI (pc := 145) C clX6 inX6 (sx_20 hG) 0 (by decide) wF_X6_34 rfl dX6_addIfFits_145 ?_
    refine V.iload_n (pc := 148) C 2 rfl dX6_addIfFits_148 ?_
    obtain ⟨g3, hf⟩ := gd_some hf
    refine V.iast (pc := 149) C (sx_22 hG) (inb_in g3) dX6_addIfFits_149 ?_
    refine V.aload_n (pc := 150) C 0 rfl dX6_addIfFits_150 ?_
    refine V.dup (pc := 151) C rfl dX6_addIfFits_151 ?_
    refine V.getI (pc := 152) C clX6 inX6 (sx_20 hG) 0 (by decide) wF_X6_34 rfl dX6_addIfFits_152 ?_
    refine V.iconst (pc := 155) C (nI 1) (by decide) dX6_addIfFits_155 ?_
    refine V.iadd (pc := 156) C dX6_addIfFits_156 ?_
    refine V.putI (pc := 157) C clX6 inX6 (sx_20 hG) 0 (by decide) wF_X6_34 tyX6 tyX6_ok nmX6 rfl (tyX6_ok 0 (by decide)) rfl dX6_addIfFits_157 ?_
    exact V.retV (pc := 160) C hf dX6_addIfFits_160
def fX6_addIfFits_b111 (nx26 : Int32 → Int32 → Int32 → Int32 → Mm → Option (Unit × Mm)) (c1 : Nat) (v2 : Int32) (v3 : Int32) (v4 : Int32) (v5 : Int32) (s0 : Int32) (s1 : Int32) (M : Mm) : Option (Unit × Mm) :=
if s0 = s1 then
(nx26 v2 v3 v4 (v5 + (nI 1)) M)
else
(some ((), M))
set_option maxHeartbeats 4000000 in
set_option maxRecDepth 100000 in
theorem vX6_addIfFits_b111 {G : Rg} {X : Ct} {r : Unit} {Mf : Mm} {c1 : Nat} {nx26 : Int32 → Int32 → Int32 → Int32 → Mm → Option (Unit × Mm)} (C : cxX6_addIfFits G X) (hG : gS G = shX) (hB1 : isB G c1) (hx26 : ∀ (v2 : Int32) (v3 : Int32) (v4 : Int32) (v5 : Int32) (M : Mm), nx26 v2 v3 v4 v5 M = some (r, Mf) → V G X 7 none Mf 26 [(0, .ref (gA G 20)), (1, .ref (gA G c1)), (2, .int v2), (3, .int v3), (4, .int v4), (5, .int v5)] [] M) (v2 : Int32) (v3 : Int32) (v4 : Int32) (v5 : Int32) (s0 : Int32) (s1 : Int32) (M : Mm) (hf : fX6_addIfFits_b111 nx26 c1 v2 v3 v4 v5 s0 s1 M = some (r, Mf)) : V G X 7 none Mf 111 [(0, .ref (gA G 20)), (1, .ref (gA G c1)), (2, .int v2), (3, .int v3), (4, .int v4), (5, .int v5)] [.int s1, .int s0] M := by
  rw [fX6_addIfFits_b111] at hf
  rcases it_some hf with ⟨h1, hf⟩ | ⟨h1, hf⟩
  · refine V.ic_eqT (pc := 111) C 115 h1 (by decide) dX6_addIfFits_111 ?_
    refine V.iinc (pc := 115) (lv' := [(5, .int (v5 + (nI 1))), (0, .ref (gA G 20)), (1, .ref (gA G c1)), (2, .int v2), (3, .int v3), (4, .int v4)]) C (v5 + (nI 1)) 5 rfl rfl (by decide) rfl dX6_addIfFits_115 ?_
    refine V.goto (pc := 118) C 26 (by decide) dX6_addIfFits_118 ?_
    refine V.sub C [1, 2, 3, 4, 5, 0] (lv' := [(0, .ref (gA G 20)), (1, .ref (gA G c1)), (2, .int v2), (3, .int v3), (4, .int v4), (5, .int (v5 + (nI 1)))]) rfl ?_
    exact hx26 _ _ _ _ _ hf
  · refine V.ic_eqF (pc := 111) C 115 h1 (by decide) dX6_addIfFits_111 ?_
    exact V.retV (pc := 114) C hf dX6_addIfFits_114
def fX6_addIfFits_b93 (nx26 : Int32 → Int32 → Int32 → Int32 → Mm → Option (Unit × Mm)) (c1 : Nat) (v2 : Int32) (v3 : Int32) (v4 : Int32) (v5 : Int32) (s0 : Int32) (M : Mm) : Option (Unit × Mm) :=
if ((jshr (M.1 c1 3) v5) &&& (nI 1)) = (nI 1) then
(fX6_addIfFits_b111 nx26 c1 v2 v3 v4 v5 s0 (nI 1) M)
else
(fX6_addIfFits_b111 nx26 c1 v2 v3 v4 v5 s0 (nI 0) M)
set_option maxHeartbeats 4000000 in
set_option maxRecDepth 100000 in
theorem vX6_addIfFits_b93 {G : Rg} {X : Ct} {r : Unit} {Mf : Mm} {c1 : Nat} {nx26 : Int32 → Int32 → Int32 → Int32 → Mm → Option (Unit × Mm)} (C : cxX6_addIfFits G X) (hG : gS G = shX) (hB1 : isB G c1) (hx26 : ∀ (v2 : Int32) (v3 : Int32) (v4 : Int32) (v5 : Int32) (M : Mm), nx26 v2 v3 v4 v5 M = some (r, Mf) → V G X 7 none Mf 26 [(0, .ref (gA G 20)), (1, .ref (gA G c1)), (2, .int v2), (3, .int v3), (4, .int v4), (5, .int v5)] [] M) (v2 : Int32) (v3 : Int32) (v4 : Int32) (v5 : Int32) (s0 : Int32) (M : Mm) (hf : fX6_addIfFits_b93 nx26 c1 v2 v3 v4 v5 s0 M = some (r, Mf)) : V G X 7 none Mf 93 [(0, .ref (gA G 20)), (1, .ref (gA G c1)), (2, .int v2), (3, .int v3), (4, .int v4), (5, .int v5)] [.int s0] M := by
  rw [fX6_addIfFits_b93] at hf
  refine V.aload_n (pc := 93) C 1 rfl dX6_addIfFits_93 ?_
  refine V.getI (pc := 94) C clX0 inX0 hB1.1 3 (by decide) wF_X6_54 rfl dX6_addIfFits_94 ?_
  refine V.iload (pc := 97) C 5 rfl dX6_addIfFits_97 ?_
  refine V.ishr (pc := 99) C dX6_addIfFits_99 ?_
  refine V.iconst (pc := 100) C (nI 1) (by decide) dX6_addIfFits_100 ?_
  refine V.iand (pc := 101) C dX6_addIfFits_101 ?_
  refine V.iconst (pc := 102) C (nI 1) (by decide) dX6_addIfFits_102 ?_
  rcases it_some hf with ⟨h1, hf⟩ | ⟨h1, hf⟩
  · refine V.ic_neF (pc := 103) C 110 h1 (by decide) dX6_addIfFits_103 ?_
    refine V.iconst (pc := 106) C (nI 1) (by decide) dX6_addIfFits_106 ?_
    refine V.goto (pc := 107) C 111 (by decide) dX6_addIfFits_107 ?_
    exact vX6_addIfFits_b111 C hG hB1 hx26  _ _ _ _ _ _ _ hf
  · refine V.ic_neT (pc := 103) C 110 h1 (by decide) dX6_addIfFits_103 ?_
    refine V.iconst (pc := 110) C (nI 0) (by decide) dX6_addIfFits_110 ?_
    exact vX6_addIfFits_b111 C hG hB1 hx26  _ _ _ _ _ _ _ hf
def fX6_addIfFits_b83 (nx26 : Int32 → Int32 → Int32 → Int32 → Mm → Option (Unit × Mm)) (c1 : Nat) (v2 : Int32) (v3 : Int32) (v4 : Int32) (v5 : Int32) (v6 : Int32) (M : Mm) : Option (Unit × Mm) :=
if v6 = (nI 0) then
(fX6_addIfFits_b93 nx26 c1 v2 v3 v4 v5 (nI 1) M)
else
(fX6_addIfFits_b93 nx26 c1 v2 v3 v4 v5 (nI 0) M)
set_option maxHeartbeats 4000000 in
set_option maxRecDepth 100000 in
theorem vX6_addIfFits_b83 {G : Rg} {X : Ct} {r : Unit} {Mf : Mm} {c1 : Nat} {nx26 : Int32 → Int32 → Int32 → Int32 → Mm → Option (Unit × Mm)} (C : cxX6_addIfFits G X) (hG : gS G = shX) (hB1 : isB G c1) (hx26 : ∀ (v2 : Int32) (v3 : Int32) (v4 : Int32) (v5 : Int32) (M : Mm), nx26 v2 v3 v4 v5 M = some (r, Mf) → V G X 7 none Mf 26 [(0, .ref (gA G 20)), (1, .ref (gA G c1)), (2, .int v2), (3, .int v3), (4, .int v4), (5, .int v5)] [] M) (v2 : Int32) (v3 : Int32) (v4 : Int32) (v5 : Int32) (v6 : Int32) (M : Mm) (hf : fX6_addIfFits_b83 nx26 c1 v2 v3 v4 v5 v6 M = some (r, Mf)) : V G X 7 none Mf 83 [(0, .ref (gA G 20)), (1, .ref (gA G c1)), (2, .int v2), (3, .int v3), (4, .int v4), (5, .int v5), (6, .int v6)] [] M := by
  rw [fX6_addIfFits_b83] at hf
  refine V.iload (pc := 83) C 6 rfl dX6_addIfFits_83 ?_
  rcases it_some hf with ⟨h1, hf⟩ | ⟨h1, hf⟩
  · refine V.if_neF (pc := 85) C 92 h1 (by decide) dX6_addIfFits_85 ?_
    refine V.iconst (pc := 88) C (nI 1) (by decide) dX6_addIfFits_88 ?_
    refine V.goto (pc := 89) C 93 (by decide) dX6_addIfFits_89 ?_
    refine V.sub C [0, 1, 2, 3, 4, 5] (lv' := [(0, .ref (gA G 20)), (1, .ref (gA G c1)), (2, .int v2), (3, .int v3), (4, .int v4), (5, .int v5)]) rfl ?_
    exact vX6_addIfFits_b93 C hG hB1 hx26  _ _ _ _ _ _ hf
  · refine V.if_neT (pc := 85) C 92 h1 (by decide) dX6_addIfFits_85 ?_
    refine V.iconst (pc := 92) C (nI 0) (by decide) dX6_addIfFits_92 ?_
    refine V.sub C [0, 1, 2, 3, 4, 5] (lv' := [(0, .ref (gA G 20)), (1, .ref (gA G c1)), (2, .int v2), (3, .int v3), (4, .int v4), (5, .int v5)]) rfl ?_
    exact vX6_addIfFits_b93 C hG hB1 hx26  _ _ _ _ _ _ hf
def fX6_addIfFits_b80 (nx26 : Int32 → Int32 → Int32 → Int32 → Mm → Option (Unit × Mm)) (c1 : Nat) (v2 : Int32) (v3 : Int32) (v4 : Int32) (v5 : Int32) (s0 : Int32) (s1 : Int32) (M : Mm) : Option (Unit × Mm) :=
fX6_addIfFits_b83 nx26 c1 v2 v3 v4 v5 (s0 + s1) M
set_option maxHeartbeats 4000000 in
set_option maxRecDepth 100000 in
theorem vX6_addIfFits_b80 {G : Rg} {X : Ct} {r : Unit} {Mf : Mm} {c1 : Nat} {nx26 : Int32 → Int32 → Int32 → Int32 → Mm → Option (Unit × Mm)} (C : cxX6_addIfFits G X) (hG : gS G = shX) (hB1 : isB G c1) (hx26 : ∀ (v2 : Int32) (v3 : Int32) (v4 : Int32) (v5 : Int32) (M : Mm), nx26 v2 v3 v4 v5 M = some (r, Mf) → V G X 7 none Mf 26 [(0, .ref (gA G 20)), (1, .ref (gA G c1)), (2, .int v2), (3, .int v3), (4, .int v4), (5, .int v5)] [] M) (v2 : Int32) (v3 : Int32) (v4 : Int32) (v5 : Int32) (s0 : Int32) (s1 : Int32) (M : Mm) (hf : fX6_addIfFits_b80 nx26 c1 v2 v3 v4 v5 s0 s1 M = some (r, Mf)) : V G X 7 none Mf 80 [(0, .ref (gA G 20)), (1, .ref (gA G c1)), (2, .int v2), (3, .int v3), (4, .int v4), (5, .int v5)] [.int s1, .int s0] M := by
  rw [fX6_addIfFits_b80] at hf
  refine V.iadd (pc := 80) C dX6_addIfFits_80 ?_
  refine V.istore (pc := 81) (lv' := [(6, .int (s0 + s1)), (0, .ref (gA G 20)), (1, .ref (gA G c1)), (2, .int v2), (3, .int v3), (4, .int v4), (5, .int v5)]) C (by decide) rfl dX6_addIfFits_81 ?_
  refine V.sub C [1, 2, 3, 4, 5, 6, 0] (lv' := [(0, .ref (gA G 20)), (1, .ref (gA G c1)), (2, .int v2), (3, .int v3), (4, .int v4), (5, .int v5), (6, .int (s0 + s1))]) rfl ?_
  exact vX6_addIfFits_b83 C hG hB1 hx26  _ _ _ _ _ _ hf
def fX6_addIfFits_b26  (c1 : Nat) : Nat → Int32 → Int32 → Int32 → Int32 → Mm → Option (Unit × Mm)
  | 0, _, _, _, _, _ => none
  | n + 1, v2, v3, v4, v5, M =>
    if (M.1 c1 2) ≤ v5 then
    (fX6_addIfFits_b121 c1 v2 v3 M)
    else
    (gd (inb v5 8) (
    if v2 = (mI 1) then
    (fX6_addIfFits_b83 (fX6_addIfFits_b26 c1 n) c1 v2 v3 v4 v5 (M.1 23 v5.toNatClampNeg) M)
    else
    (gd (inb v5 8) (
    if ((jshr (M.1 (c1 + 4) v5.toNatClampNeg) v2) &&& (nI 1)) = (nI 1) then
    (if (nI 6) ≤ v2 then
    (fX6_addIfFits_b80 (fX6_addIfFits_b26 c1 n) c1 v2 v3 v4 v5 (M.1 23 v5.toNatClampNeg) (-v4) M)
    else
    (fX6_addIfFits_b80 (fX6_addIfFits_b26 c1 n) c1 v2 v3 v4 v5 (M.1 23 v5.toNatClampNeg) v4 M))
    else
    (fX6_addIfFits_b83 (fX6_addIfFits_b26 c1 n) c1 v2 v3 v4 v5 (M.1 23 v5.toNatClampNeg) M)))))
set_option maxHeartbeats 4000000 in
set_option maxRecDepth 100000 in
theorem vX6_addIfFits_b26 {G : Rg} {X : Ct} {r : Unit} {Mf : Mm} {c1 : Nat}  (C : cxX6_addIfFits G X) (hG : gS G = shX) (hB1 : isB G c1)  : ∀ (n : Nat) (v2 : Int32) (v3 : Int32) (v4 : Int32) (v5 : Int32) (M : Mm), fX6_addIfFits_b26 c1 n v2 v3 v4 v5 M = some (r, Mf) → V G X 7 none Mf 26 [(0, .ref (gA G 20)), (1, .ref (gA G c1)), (2, .int v2), (3, .int v3), (4, .int v4), (5, .int v5)] [] M := by
  intro n
  induction n with
  | zero => intro v2 v3 v4 v5 M hf; rw [fX6_addIfFits_b26] at hf; cases hf
  | succ n ih =>
    intro v2 v3 v4 v5 M hf
    rw [fX6_addIfFits_b26] at hf
    refine V.iload (pc := 26) C 5 rfl dX6_addIfFits_26 ?_
    refine V.aload_n (pc := 28) C 1 rfl dX6_addIfFits_28 ?_
    refine V.getI (pc := 29) C clX0 inX0 hB1.1 2 (by decide) wF_X6_21 rfl dX6_addIfFits_29 ?_
    rcases it_some hf with ⟨h1, hf⟩ | ⟨h1, hf⟩
    · refine V.ic_geT (pc := 32) C 121 h1 (by decide) dX6_addIfFits_32 ?_
      refine V.sub C [0, 2, 3] (lv' := [(0, .ref (gA G 20)), (2, .int v2), (3, .int v3)]) rfl ?_
      exact vX6_addIfFits_b121 C hG hB1   _ _ _ hf
    · refine V.ic_geF (pc := 32) C 121 h1 (by decide) dX6_addIfFits_32 ?_
      refine V.aload_n (pc := 35) C 0 rfl dX6_addIfFits_35 ?_
      refine V.getR (pc := 36) C clX6 inX6 (sx_20 hG) 5 (by decide) wF_X6_18 rfl dX6_addIfFits_36 ?_
      refine V.iload (pc := 39) C 5 rfl dX6_addIfFits_39 ?_
      obtain ⟨g2, hf⟩ := gd_some hf
      refine V.iald (pc := 41) C (sx_23 hG) (inb_in g2) dX6_addIfFits_41 ?_
      refine V.istore (pc := 42) (lv' := [(6, .int (M.1 23 v5.toNatClampNeg)), (0, .ref (gA G 20)), (1, .ref (gA G c1)), (2, .int v2), (3, .int v3), (4, .int v4), (5, .int v5)]) C (by decide) rfl dX6_addIfFits_42 ?_
      refine V.iload_n (pc := 44) C 3 rfl dX6_addIfFits_44 ?_
      refine V.iconst (pc := 45) C (mI 1) (by decide) dX6_addIfFits_45 ?_
      rcases it_some hf with ⟨h3, hf⟩ | ⟨h3, hf⟩
      · refine V.ic_eqT (pc := 46) C 83 h3 (by decide) dX6_addIfFits_46 ?_
        refine V.sub C [1, 2, 3, 4, 5, 6, 0] (lv' := [(0, .ref (gA G 20)), (1, .ref (gA G c1)), (2, .int v2), (3, .int v3), (4, .int v4), (5, .int v5), (6, .int (M.1 23 v5.toNatClampNeg))]) rfl ?_
        exact vX6_addIfFits_b83 C hG hB1 ih  _ _ _ _ _ _ hf
      · refine V.ic_eqF (pc := 46) C 83 h3 (by decide) dX6_addIfFits_46 ?_
        refine V.aload_n (pc := 49) C 2 rfl dX6_addIfFits_49 ?_
        refine V.getR (pc := 50) C clX0 inX0 hB1.1 7 (by decide) wF_X6_27 rfl dX6_addIfFits_50 ?_
        refine V.iload (pc := 53) C 6 rfl dX6_addIfFits_53 ?_
        obtain ⟨g4, hf⟩ := gd_some hf
        refine V.iald (pc := 55) C hB1.2.2.2.2 (inb_in g4) dX6_addIfFits_55 ?_
        refine V.iload_n (pc := 56) C 3 rfl dX6_addIfFits_56 ?_
        refine V.ishr (pc := 57) C dX6_addIfFits_57 ?_
        refine V.iconst (pc := 58) C (nI 1) (by decide) dX6_addIfFits_58 ?_
        refine V.iand (pc := 59) C dX6_addIfFits_59 ?_
        refine V.iconst (pc := 60) C (nI 1) (by decide) dX6_addIfFits_60 ?_
        rcases it_some hf with ⟨h5, hf⟩ | ⟨h5, hf⟩
        · refine V.ic_neF (pc := 61) C 83 h5 (by decide) dX6_addIfFits_61 ?_
          refine V.iload (pc := 64) C 0 rfl dX6_addIfFits_64 ?_
          refine V.iload_n (pc := 66) C 3 rfl dX6_addIfFits_66 ?_
          refine V.bipush (pc := 67) C (nI 6) (by decide) dX6_addIfFits_67 ?_
          rcases it_some hf with ⟨h6, hf⟩ | ⟨h6, hf⟩
          · refine V.ic_geT (pc := 69) C 77 h6 (by decide) dX6_addIfFits_69 ?_
            refine V.iload (pc := 77) C 5 rfl dX6_addIfFits_77 ?_
            refine V.ineg (pc := 79) C dX6_addIfFits_79 ?_
            refine V.sub C [1, 2, 3, 4, 5, 6] (lv' := [(0, .ref (gA G 20)), (1, .ref (gA G c1)), (2, .int v2), (3, .int v3), (4, .int v4), (5, .int v5)]) rfl ?_
            exact vX6_addIfFits_b80 C hG hB1 ih  _ _ _ _ _ _ _ hf
          · refine V.ic_geF (pc := 69) C 77 h6 (by decide) dX6_addIfFits_69 ?_
            refine V.iload (pc := 72) C 5 rfl dX6_addIfFits_72 ?_
            refine V.goto (pc := 74) C 80 (by decide) dX6_addIfFits_74 ?_
            refine V.sub C [1, 2, 3, 4, 5, 6] (lv' := [(0, .ref (gA G 20)), (1, .ref (gA G c1)), (2, .int v2), (3, .int v3), (4, .int v4), (5, .int v5)]) rfl ?_
            exact vX6_addIfFits_b80 C hG hB1 ih  _ _ _ _ _ _ _ hf
        · refine V.ic_neT (pc := 61) C 83 h5 (by decide) dX6_addIfFits_61 ?_
          refine V.sub C [1, 2, 3, 4, 5, 6, 0] (lv' := [(0, .ref (gA G 20)), (1, .ref (gA G c1)), (2, .int v2), (3, .int v3), (4, .int v4), (5, .int v5), (6, .int (M.1 23 v5.toNatClampNeg))]) rfl ?_
          exact vX6_addIfFits_b83 C hG hB1 ih  _ _ _ _ _ _ hf
def fX6_addIfFits (c1 : Nat) (x2 : Int32) (x3 : Int32) (M : Mm) : Option (Unit × Mm) :=
if x2 = (mI 1) then
(fX6_addIfFits_b26 c1 fu x2 x3 (nI 0) (nI 0) M)
else
(gd (inb x3 6) (
bd (fX0_worth c1 x2 M) fun r3 M3 =>
fX6_addIfFits_b26 c1 fu x2 x3 ((M.1 (c1 + 3) x3.toNatClampNeg) - r3) (nI 0) M3))
set_option maxHeartbeats 4000000 in
set_option maxRecDepth 100000 in
theorem mX6_addIfFits (l : Launch) {G : Rg} (hG : gS G = shX) {c1 : Nat} {x2 : Int32} {x3 : Int32} (hB1 : isB G c1) {M Mf : Mm} {r : Unit} (hf : fX6_addIfFits c1 x2 x3 M = some (r, Mf)) : Mt l G yX6_addIfFits cX6_addIfFits 7 (none) 1 21 [.ref (gA G 20), .ref (gA G c1), .int x2, .int x3] M none Mf := by
  refine Mt.of (by decide) (Nat.le_of_ble_eq_true rfl) ?_
  intro X C hX
  subst hX
  have C : cxX6_addIfFits G X := C
  show V G X 7 none Mf 0 [(0, .ref (gA G 20)), (1, .ref (gA G c1)), (2, .int x2), (3, .int x3)] [] M
  rw [fX6_addIfFits] at hf
  refine V.iload_n (pc := 0) C 2 rfl dX6_addIfFits_0 ?_
  refine V.iconst (pc := 1) C (mI 1) (by decide) dX6_addIfFits_1 ?_
  rcases it_some hf with ⟨h1, hf⟩ | ⟨h1, hf⟩
  · refine V.ic_neF (pc := 2) C 9 h1 (by decide) dX6_addIfFits_2 ?_
    refine V.iconst (pc := 5) C (nI 0) (by decide) dX6_addIfFits_5 ?_
    refine V.goto (pc := 6) C 21 (by decide) dX6_addIfFits_6 ?_
    refine V.istore (pc := 21) (lv' := [(4, .int (nI 0)), (0, .ref (gA G 20)), (1, .ref (gA G c1)), (2, .int x2), (3, .int x3)]) C (by decide) rfl dX6_addIfFits_21 ?_
    refine V.iconst (pc := 23) C (nI 0) (by decide) dX6_addIfFits_23 ?_
    refine V.istore (pc := 24) (lv' := [(5, .int (nI 0)), (4, .int (nI 0)), (0, .ref (gA G 20)), (1, .ref (gA G c1)), (2, .int x2), (3, .int x3)]) C (by decide) rfl dX6_addIfFits_24 ?_
    refine V.sub C [2, 3, 4, 5, 1, 0] (lv' := [(0, .ref (gA G 20)), (1, .ref (gA G c1)), (2, .int x2), (3, .int x3), (4, .int (nI 0)), (5, .int (nI 0))]) rfl ?_
    exact vX6_addIfFits_b26 C hG hB1  fu _ _ _ _ _ hf
  · refine V.ic_neT (pc := 2) C 9 h1 (by decide) dX6_addIfFits_2 ?_
    refine V.aload_n (pc := 9) C 1 rfl dX6_addIfFits_9 ?_
    refine V.getR (pc := 10) C clX0 inX0 hB1.1 6 (by decide) wF_X6_48 rfl dX6_addIfFits_10 ?_
    refine V.iload_n (pc := 13) C 3 rfl dX6_addIfFits_13 ?_
    obtain ⟨g2, hf⟩ := gd_some hf
    refine V.iald (pc := 14) C hB1.2.2.2.1 (inb_in g2) dX6_addIfFits_14 ?_
    refine V.aload_n (pc := 15) C 1 rfl dX6_addIfFits_15 ?_
    refine V.iload_n (pc := 16) C 2 rfl dX6_addIfFits_16 ?_
    obtain ⟨r3, M3, h3, hf⟩ := bd_some hf
    refine V.callVi (pc := 17) (As := [.int x2]) (rest := [.int (M.1 (c1 + 3) x3.toNatClampNeg)]) C (mX0_worth X.2.1 hG hB1 h3) mf_X0_worth clX0 hB1.1 wM_X6_51 rfl rfl ⟨by decide, by decide⟩ (Nat.le_of_ble_eq_true rfl) dX6_addIfFits_17 ?_
    refine V.isub (pc := 20) C dX6_addIfFits_20 ?_
    refine V.istore (pc := 21) (lv' := [(4, .int ((M.1 (c1 + 3) x3.toNatClampNeg) - r3)), (0, .ref (gA G 20)), (1, .ref (gA G c1)), (2, .int x2), (3, .int x3)]) C (by decide) rfl dX6_addIfFits_21 ?_
    refine V.iconst (pc := 23) C (nI 0) (by decide) dX6_addIfFits_23 ?_
    refine V.istore (pc := 24) (lv' := [(5, .int (nI 0)), (4, .int ((M.1 (c1 + 3) x3.toNatClampNeg) - r3)), (0, .ref (gA G 20)), (1, .ref (gA G c1)), (2, .int x2), (3, .int x3)]) C (by decide) rfl dX6_addIfFits_24 ?_
    refine V.sub C [2, 3, 4, 5, 1, 0] (lv' := [(0, .ref (gA G 20)), (1, .ref (gA G c1)), (2, .int x2), (3, .int x3), (4, .int ((M.1 (c1 + 3) x3.toNatClampNeg) - r3)), (5, .int (nI 0))]) rfl ?_
    exact vX6_addIfFits_b26 C hG hB1  fu _ _ _ _ _ hf
theorem dX6_find_0 : decode cX6_find 0 = .ok (.iconst 0, 1) := by decide +kernel
theorem dX6_find_1 : decode cX6_find 1 = .ok (.istore_n 2, 1) := by decide +kernel
theorem dX6_find_2 : decode cX6_find 2 = .ok (.iload_n 2, 1) := by decide +kernel
theorem dX6_find_3 : decode cX6_find 3 = .ok (.aload_n 1, 1) := by decide +kernel
theorem dX6_find_4 : decode cX6_find 4 = .ok (.getfield 21, 3) := by decide +kernel
theorem dX6_find_7 : decode cX6_find 7 = .ok (.if_icmp .ge 25, 3) := by decide +kernel
theorem dX6_find_10 : decode cX6_find 10 = .ok (.aload_n 0, 1) := by decide +kernel
theorem dX6_find_11 : decode cX6_find 11 = .ok (.getfield 18, 3) := by decide +kernel
theorem dX6_find_14 : decode cX6_find 14 = .ok (.iload_n 2, 1) := by decide +kernel
theorem dX6_find_15 : decode cX6_find 15 = .ok (.aload_n 1, 1) := by decide +kernel
theorem dX6_find_16 : decode cX6_find 16 = .ok (.aload_n 1, 1) := by decide +kernel
theorem dX6_find_17 : decode cX6_find 17 = .ok (.getfield 27, 3) := by decide +kernel
theorem dX6_find_20 : decode cX6_find 20 = .ok (.iload_n 2, 1) := by decide +kernel
theorem dX6_find_21 : decode cX6_find 21 = .ok (.iaload, 1) := by decide +kernel
theorem dX6_find_22 : decode cX6_find 22 = .ok (.invokevirtual 30, 3) := by decide +kernel
theorem dX6_find_25 : decode cX6_find 25 = .ok (.iastore, 1) := by decide +kernel
theorem dX6_find_26 : decode cX6_find 26 = .ok (.iinc 2 1, 3) := by decide +kernel
theorem dX6_find_29 : decode cX6_find 29 = .ok (.goto (-27), 3) := by decide +kernel
theorem dX6_find_32 : decode cX6_find 32 = .ok (.aload_n 0, 1) := by decide +kernel
theorem dX6_find_33 : decode cX6_find 33 = .ok (.iconst 0, 1) := by decide +kernel
theorem dX6_find_34 : decode cX6_find 34 = .ok (.putfield 34, 3) := by decide +kernel
theorem dX6_find_37 : decode cX6_find 37 = .ok (.aload_n 0, 1) := by decide +kernel
theorem dX6_find_38 : decode cX6_find 38 = .ok (.aload_n 1, 1) := by decide +kernel
theorem dX6_find_39 : decode cX6_find 39 = .ok (.iconst (-1), 1) := by decide +kernel
theorem dX6_find_40 : decode cX6_find 40 = .ok (.iconst 0, 1) := by decide +kernel
theorem dX6_find_41 : decode cX6_find 41 = .ok (.invokevirtual 37, 3) := by decide +kernel
theorem dX6_find_44 : decode cX6_find 44 = .ok (.iconst 0, 1) := by decide +kernel
theorem dX6_find_45 : decode cX6_find 45 = .ok (.istore_n 2, 1) := by decide +kernel
theorem dX6_find_46 : decode cX6_find 46 = .ok (.iload_n 2, 1) := by decide +kernel
theorem dX6_find_47 : decode cX6_find 47 = .ok (.bipush 12, 2) := by decide +kernel
theorem dX6_find_49 : decode cX6_find 49 = .ok (.if_icmp .ge 48, 3) := by decide +kernel
theorem dX6_find_52 : decode cX6_find 52 = .ok (.iconst 0, 1) := by decide +kernel
theorem dX6_find_53 : decode cX6_find 53 = .ok (.istore_n 3, 1) := by decide +kernel
theorem dX6_find_54 : decode cX6_find 54 = .ok (.iload_n 3, 1) := by decide +kernel
theorem dX6_find_55 : decode cX6_find 55 = .ok (.bipush 6, 2) := by decide +kernel
theorem dX6_find_57 : decode cX6_find 57 = .ok (.if_icmp .ge 34, 3) := by decide +kernel
theorem dX6_find_60 : decode cX6_find 60 = .ok (.aload_n 1, 1) := by decide +kernel
theorem dX6_find_61 : decode cX6_find 61 = .ok (.iload_n 2, 1) := by decide +kernel
theorem dX6_find_62 : decode cX6_find 62 = .ok (.invokevirtual 41, 3) := by decide +kernel
theorem dX6_find_65 : decode cX6_find 65 = .ok (.ifCond .eq 20, 3) := by decide +kernel
theorem dX6_find_68 : decode cX6_find 68 = .ok (.aload_n 1, 1) := by decide +kernel
theorem dX6_find_69 : decode cX6_find 69 = .ok (.getfield 45, 3) := by decide +kernel
theorem dX6_find_72 : decode cX6_find 72 = .ok (.iload_n 2, 1) := by decide +kernel
theorem dX6_find_73 : decode cX6_find 73 = .ok (.iaload, 1) := by decide +kernel
theorem dX6_find_74 : decode cX6_find 74 = .ok (.iload_n 3, 1) := by decide +kernel
theorem dX6_find_75 : decode cX6_find 75 = .ok (.if_icmp .eq 10, 3) := by decide +kernel
theorem dX6_find_78 : decode cX6_find 78 = .ok (.aload_n 0, 1) := by decide +kernel
theorem dX6_find_79 : decode cX6_find 79 = .ok (.aload_n 1, 1) := by decide +kernel
theorem dX6_find_80 : decode cX6_find 80 = .ok (.iload_n 2, 1) := by decide +kernel
theorem dX6_find_81 : decode cX6_find 81 = .ok (.iload_n 3, 1) := by decide +kernel
theorem dX6_find_82 : decode cX6_find 82 = .ok (.invokevirtual 37, 3) := by decide +kernel
theorem dX6_find_85 : decode cX6_find 85 = .ok (.iinc 3 1, 3) := by decide +kernel
theorem dX6_find_88 : decode cX6_find 88 = .ok (.goto (-34), 3) := by decide +kernel
theorem dX6_find_91 : decode cX6_find 91 = .ok (.iinc 2 1, 3) := by decide +kernel
theorem dX6_find_94 : decode cX6_find 94 = .ok (.goto (-48), 3) := by decide +kernel
theorem dX6_find_97 : decode cX6_find 97 = .ok (.return_, 1) := by decide +kernel
abbrev cxX6_find (G : Rg) (X : Ct) : Prop := Cx G X cX6_find 4 RX6 (none) 2 47 (Cond.code yX6_find cX6_find 4 (none))
def fX6_find_b54 (nx46 : Int32 → Mm → Option (Unit × Mm)) (c1 : Nat) : Nat → Int32 → Int32 → Mm → Option (Unit × Mm)
  | 0, _, _, _ => none
  | n + 1, v2, v3, M =>
    if (nI 6) ≤ v3 then
    (nx46 (v2 + (nI 1)) M)
    else
    (bd (fX0_isThere c1 v2 M) fun r2 M2 =>
    if r2 = (nI 0) then
    (fX6_find_b54 nx46 c1 n v2 (v3 + (nI 1)) M2)
    else
    (gd (inb v2 12) (
    if (M2.1 (c1 + 1) v2.toNatClampNeg) = v3 then
    (fX6_find_b54 nx46 c1 n v2 (v3 + (nI 1)) M2)
    else
    (bd (fX6_addIfFits c1 v2 v3 M2) fun _ M6 =>
    fX6_find_b54 nx46 c1 n v2 (v3 + (nI 1)) M6))))
set_option maxHeartbeats 4000000 in
set_option maxRecDepth 100000 in
theorem vX6_find_b54 {G : Rg} {X : Ct} {r : Unit} {Mf : Mm} {c1 : Nat} {nx46 : Int32 → Mm → Option (Unit × Mm)} (C : cxX6_find G X) (hG : gS G = shX) (hB1 : isB G c1) (hx46 : ∀ (v2 : Int32) (M : Mm), nx46 v2 M = some (r, Mf) → V G X 4 none Mf 46 [(0, .ref (gA G 20)), (1, .ref (gA G c1)), (2, .int v2)] [] M) : ∀ (n : Nat) (v2 : Int32) (v3 : Int32) (M : Mm), fX6_find_b54 nx46 c1 n v2 v3 M = some (r, Mf) → V G X 4 none Mf 54 [(0, .ref (gA G 20)), (1, .ref (gA G c1)), (2, .int v2), (3, .int v3)] [] M := by
  intro n
  induction n with
  | zero => intro v2 v3 M hf; rw [fX6_find_b54] at hf; cases hf
  | succ n ih =>
    intro v2 v3 M hf
    rw [fX6_find_b54] at hf
    refine V.iload_n (pc := 54) C 3 rfl dX6_find_54 ?_
    refine V.bipush (pc := 55) C (nI 6) (by decide) dX6_find_55 ?_
    rcases it_some hf with ⟨h1, hf⟩ | ⟨h1, hf⟩
    · refine V.ic_geT (pc := 57) C 91 h1 (by decide) dX6_find_57 ?_
      refine V.iinc (pc := 91) (lv' := [(2, .int (v2 + (nI 1))), (0, .ref (gA G 20)), (1, .ref (gA G c1)), (3, .int v3)]) C (v2 + (nI 1)) 2 rfl rfl (by decide) rfl dX6_find_91 ?_
      refine V.goto (pc := 94) C 46 (by decide) dX6_find_94 ?_
      refine V.sub C [1, 2, 0] (lv' := [(0, .ref (gA G 20)), (1, .ref (gA G c1)), (2, .int (v2 + (nI 1)))]) rfl ?_
      exact hx46 _ _ hf
    · refine V.ic_geF (pc := 57) C 91 h1 (by decide) dX6_find_57 ?_
      refine V.aload_n (pc := 60) C 1 rfl dX6_find_60 ?_
      refine V.iload_n (pc := 61) C 2 rfl dX6_find_61 ?_
      obtain ⟨r2, M2, h2, hf⟩ := bd_some hf
      refine V.callVi (pc := 62) (As := [.int v2]) (rest := []) C (mX0_isThere X.2.1 hG hB1 h2) mf_X0_isThere clX0 hB1.1 wM_X6_41 rfl rfl ⟨by decide, by decide⟩ (Nat.le_of_ble_eq_true rfl) dX6_find_62 ?_
      rcases it_some hf with ⟨h3, hf⟩ | ⟨h3, hf⟩
      · refine V.if_eqT (pc := 65) C 85 h3 (by decide) dX6_find_65 ?_
        refine V.iinc (pc := 85) (lv' := [(3, .int (v3 + (nI 1))), (0, .ref (gA G 20)), (1, .ref (gA G c1)), (2, .int v2)]) C (v3 + (nI 1)) 3 rfl rfl (by decide) rfl dX6_find_85 ?_
        refine V.goto (pc := 88) C 54 (by decide) dX6_find_88 ?_
        refine V.sub C [1, 2, 3, 0] (lv' := [(0, .ref (gA G 20)), (1, .ref (gA G c1)), (2, .int v2), (3, .int (v3 + (nI 1)))]) rfl ?_
        exact ih _ _ _ hf
      · refine V.if_eqF (pc := 65) C 85 h3 (by decide) dX6_find_65 ?_
        refine V.aload_n (pc := 68) C 1 rfl dX6_find_68 ?_
        refine V.getR (pc := 69) C clX0 inX0 hB1.1 4 (by decide) wF_X6_45 rfl dX6_find_69 ?_
        refine V.iload_n (pc := 72) C 2 rfl dX6_find_72 ?_
        obtain ⟨g4, hf⟩ := gd_some hf
        refine V.iald (pc := 73) C hB1.2.1 (inb_in g4) dX6_find_73 ?_
        refine V.iload_n (pc := 74) C 3 rfl dX6_find_74 ?_
        rcases it_some hf with ⟨h5, hf⟩ | ⟨h5, hf⟩
        · refine V.ic_eqT (pc := 75) C 85 h5 (by decide) dX6_find_75 ?_
          refine V.iinc (pc := 85) (lv' := [(3, .int (v3 + (nI 1))), (0, .ref (gA G 20)), (1, .ref (gA G c1)), (2, .int v2)]) C (v3 + (nI 1)) 3 rfl rfl (by decide) rfl dX6_find_85 ?_
          refine V.goto (pc := 88) C 54 (by decide) dX6_find_88 ?_
          refine V.sub C [1, 2, 3, 0] (lv' := [(0, .ref (gA G 20)), (1, .ref (gA G c1)), (2, .int v2), (3, .int (v3 + (nI 1)))]) rfl ?_
          exact ih _ _ _ hf
        · refine V.ic_eqF (pc := 75) C 85 h5 (by decide) dX6_find_75 ?_
          refine V.aload_n (pc := 78) C 0 rfl dX6_find_78 ?_
          refine V.aload_n (pc := 79) C 1 rfl dX6_find_79 ?_
          refine V.iload_n (pc := 80) C 2 rfl dX6_find_80 ?_
          refine V.iload_n (pc := 81) C 3 rfl dX6_find_81 ?_
          obtain ⟨_, M6, h6, hf⟩ := bd_some hf
          refine V.callVv (pc := 82) (As := [.ref (gA G c1), .int v2, .int v3]) (rest := []) C (mX6_addIfFits X.2.1 hG hB1 h6) mf_X6_addIfFits clX6 (sx_20 hG) wM_X6_37 rfl rfl ⟨by decide, by decide⟩ (Nat.le_of_ble_eq_true rfl) dX6_find_82 ?_
          refine V.iinc (pc := 85) (lv' := [(3, .int (v3 + (nI 1))), (0, .ref (gA G 20)), (1, .ref (gA G c1)), (2, .int v2)]) C (v3 + (nI 1)) 3 rfl rfl (by decide) rfl dX6_find_85 ?_
          refine V.goto (pc := 88) C 54 (by decide) dX6_find_88 ?_
          refine V.sub C [1, 2, 3, 0] (lv' := [(0, .ref (gA G 20)), (1, .ref (gA G c1)), (2, .int v2), (3, .int (v3 + (nI 1)))]) rfl ?_
          exact ih _ _ _ hf
def fX6_find_b46  (c1 : Nat) : Nat → Int32 → Mm → Option (Unit × Mm)
  | 0, _, _ => none
  | n + 1, v2, M =>
    if (nI 12) ≤ v2 then
    (some ((), M))
    else
    (fX6_find_b54 (fX6_find_b46 c1 n) c1 fu v2 (nI 0) M)
set_option maxHeartbeats 4000000 in
set_option maxRecDepth 100000 in
theorem vX6_find_b46 {G : Rg} {X : Ct} {r : Unit} {Mf : Mm} {c1 : Nat}  (C : cxX6_find G X) (hG : gS G = shX) (hB1 : isB G c1)  : ∀ (n : Nat) (v2 : Int32) (M : Mm), fX6_find_b46 c1 n v2 M = some (r, Mf) → V G X 4 none Mf 46 [(0, .ref (gA G 20)), (1, .ref (gA G c1)), (2, .int v2)] [] M := by
  intro n
  induction n with
  | zero => intro v2 M hf; rw [fX6_find_b46] at hf; cases hf
  | succ n ih =>
    intro v2 M hf
    rw [fX6_find_b46] at hf
    refine V.iload_n (pc := 46) C 2 rfl dX6_find_46 ?_
    refine V.bipush (pc := 47) C (nI 12) (by decide) dX6_find_47 ?_
    rcases it_some hf with ⟨h1, hf⟩ | ⟨h1, hf⟩
    · refine V.ic_geT (pc := 49) C 97 h1 (by decide) dX6_find_49 ?_
      exact V.retV (pc := 97) C hf dX6_find_97
    · refine V.ic_geF (pc := 49) C 97 h1 (by decide) dX6_find_49 ?_
      refine V.iconst (pc := 52) C (nI 0) (by decide) dX6_find_52 ?_
      refine V.istore_n (pc := 53) (lv' := [(3, .int (nI 0)), (0, .ref (gA G 20)), (1, .ref (gA G c1)), (2, .int v2)]) C (by decide) rfl dX6_find_53 ?_
      refine V.sub C [1, 2, 3, 0] (lv' := [(0, .ref (gA G 20)), (1, .ref (gA G c1)), (2, .int v2), (3, .int (nI 0))]) rfl ?_
      exact vX6_find_b54 C hG hB1 ih fu _ _ _ hf
def fX6_find_b32  (c1 : Nat) (M : Mm) : Option (Unit × Mm) :=
bd (fX6_addIfFits c1 (mI 1) (nI 0) (sI M 20 0 (nI 0))) fun _ M1 =>
fX6_find_b46 c1 fu (nI 0) M1
set_option maxHeartbeats 4000000 in
set_option maxRecDepth 100000 in
theorem vX6_find_b32 {G : Rg} {X : Ct} {r : Unit} {Mf : Mm} {c1 : Nat}  (C : cxX6_find G X) (hG : gS G = shX) (hB1 : isB G c1)  (M : Mm) (hf : fX6_find_b32 c1 M = some (r, Mf)) : V G X 4 none Mf 32 [(0, .ref (gA G 20)), (1, .ref (gA G c1))] [] M := by
  rw [fX6_find_b32] at hf
  refine V.aload_n (pc := 32) C 0 rfl dX6_find_32 ?_
  refine V.iconst (pc := 33) C (nI 0) (by decide) dX6_find_33 ?_
  refine V.putI (pc := 34) C clX6 inX6 (sx_20 hG) 0 (by decide) wF_X6_34 tyX6 tyX6_ok nmX6 rfl (tyX6_ok 0 (by decide)) rfl dX6_find_34 ?_
  refine V.aload_n (pc := 37) C 0 rfl dX6_find_37 ?_
  refine V.aload_n (pc := 38) C 1 rfl dX6_find_38 ?_
  refine V.iconst (pc := 39) C (mI 1) (by decide) dX6_find_39 ?_
  refine V.iconst (pc := 40) C (nI 0) (by decide) dX6_find_40 ?_
  obtain ⟨_, M1, h1, hf⟩ := bd_some hf
  refine V.callVv (pc := 41) (As := [.ref (gA G c1), .int (mI 1), .int (nI 0)]) (rest := []) C (mX6_addIfFits X.2.1 hG hB1 h1) mf_X6_addIfFits clX6 (sx_20 hG) wM_X6_37 rfl rfl ⟨by decide, by decide⟩ (Nat.le_of_ble_eq_true rfl) dX6_find_41 ?_
  refine V.iconst (pc := 44) C (nI 0) (by decide) dX6_find_44 ?_
  refine V.istore_n (pc := 45) (lv' := [(2, .int (nI 0)), (0, .ref (gA G 20)), (1, .ref (gA G c1))]) C (by decide) rfl dX6_find_45 ?_
  refine V.sub C [1, 2, 0] (lv' := [(0, .ref (gA G 20)), (1, .ref (gA G c1)), (2, .int (nI 0))]) rfl ?_
  exact vX6_find_b46 C hG hB1  fu _ _ hf
def fX6_find_b2  (c1 : Nat) : Nat → Int32 → Mm → Option (Unit × Mm)
  | 0, _, _ => none
  | n + 1, v2, M =>
    if (M.1 c1 2) ≤ v2 then
    (fX6_find_b32 c1 M)
    else
    (gd (inb v2 8) (
    bd (fX0_lead c1 (M.1 (c1 + 4) v2.toNatClampNeg) M) fun r3 M3 =>
    gd (inb v2 8) (
    fX6_find_b2 c1 n (v2 + (nI 1)) (sI M3 23 v2.toNatClampNeg r3))))
set_option maxHeartbeats 4000000 in
set_option maxRecDepth 100000 in
theorem vX6_find_b2 {G : Rg} {X : Ct} {r : Unit} {Mf : Mm} {c1 : Nat}  (C : cxX6_find G X) (hG : gS G = shX) (hB1 : isB G c1)  : ∀ (n : Nat) (v2 : Int32) (M : Mm), fX6_find_b2 c1 n v2 M = some (r, Mf) → V G X 4 none Mf 2 [(0, .ref (gA G 20)), (1, .ref (gA G c1)), (2, .int v2)] [] M := by
  intro n
  induction n with
  | zero => intro v2 M hf; rw [fX6_find_b2] at hf; cases hf
  | succ n ih =>
    intro v2 M hf
    rw [fX6_find_b2] at hf
    refine V.iload_n (pc := 2) C 2 rfl dX6_find_2 ?_
    refine V.aload_n (pc := 3) C 1 rfl dX6_find_3 ?_
    refine V.getI (pc := 4) C clX0 inX0 hB1.1 2 (by decide) wF_X6_21 rfl dX6_find_4 ?_
    rcases it_some hf with ⟨h1, hf⟩ | ⟨h1, hf⟩
    · refine V.ic_geT (pc := 7) C 32 h1 (by decide) dX6_find_7 ?_
      refine V.sub C [0, 1] (lv' := [(0, .ref (gA G 20)), (1, .ref (gA G c1))]) rfl ?_
      exact vX6_find_b32 C hG hB1   _ hf
    · refine V.ic_geF (pc := 7) C 32 h1 (by decide) dX6_find_7 ?_
      refine V.aload_n (pc := 10) C 0 rfl dX6_find_10 ?_
      refine V.getR (pc := 11) C clX6 inX6 (sx_20 hG) 5 (by decide) wF_X6_18 rfl dX6_find_11 ?_
      refine V.iload_n (pc := 14) C 2 rfl dX6_find_14 ?_
      refine V.aload_n (pc := 15) C 1 rfl dX6_find_15 ?_
      refine V.aload_n (pc := 16) C 1 rfl dX6_find_16 ?_
      refine V.getR (pc := 17) C clX0 inX0 hB1.1 7 (by decide) wF_X6_27 rfl dX6_find_17 ?_
      refine V.iload_n (pc := 20) C 2 rfl dX6_find_20 ?_
      obtain ⟨g2, hf⟩ := gd_some hf
      refine V.iald (pc := 21) C hB1.2.2.2.2 (inb_in g2) dX6_find_21 ?_
      obtain ⟨r3, M3, h3, hf⟩ := bd_some hf
      refine V.callVi (pc := 22) (As := [.int (M.1 (c1 + 4) v2.toNatClampNeg)]) (rest := [.int v2, .ref (gA G 23)]) C (mX0_lead X.2.1 hG hB1 h3) mf_X0_lead clX0 hB1.1 wM_X6_30 rfl rfl ⟨by decide, by decide⟩ (Nat.le_of_ble_eq_true rfl) dX6_find_22 ?_
      obtain ⟨g4, hf⟩ := gd_some hf
      refine V.iast (pc := 25) C (sx_23 hG) (inb_in g4) dX6_find_25 ?_
      refine V.iinc (pc := 26) (lv' := [(2, .int (v2 + (nI 1))), (0, .ref (gA G 20)), (1, .ref (gA G c1))]) C (v2 + (nI 1)) 2 rfl rfl (by decide) rfl dX6_find_26 ?_
      refine V.goto (pc := 29) C 2 (by decide) dX6_find_29 ?_
      refine V.sub C [1, 2, 0] (lv' := [(0, .ref (gA G 20)), (1, .ref (gA G c1)), (2, .int (v2 + (nI 1)))]) rfl ?_
      exact ih _ _ hf
def fX6_find (c1 : Nat) (M : Mm) : Option (Unit × Mm) :=
fX6_find_b2 c1 fu (nI 0) M
set_option maxHeartbeats 4000000 in
set_option maxRecDepth 100000 in
theorem mX6_find (l : Launch) {G : Rg} (hG : gS G = shX) {c1 : Nat} (hB1 : isB G c1) {M Mf : Mm} {r : Unit} (hf : fX6_find c1 M = some (r, Mf)) : Mt l G yX6_find cX6_find 4 (none) 2 47 [.ref (gA G 20), .ref (gA G c1)] M none Mf := by
  refine Mt.of (by decide) (Nat.le_of_ble_eq_true rfl) ?_
  intro X C hX
  subst hX
  have C : cxX6_find G X := C
  show V G X 4 none Mf 0 [(0, .ref (gA G 20)), (1, .ref (gA G c1))] [] M
  rw [fX6_find] at hf
  refine V.iconst (pc := 0) C (nI 0) (by decide) dX6_find_0 ?_
  refine V.istore_n (pc := 1) (lv' := [(2, .int (nI 0)), (0, .ref (gA G 20)), (1, .ref (gA G c1))]) C (by decide) rfl dX6_find_1 ?_
  refine V.sub C [1, 2, 0] (lv' := [(0, .ref (gA G 20)), (1, .ref (gA G c1)), (2, .int (nI 0))]) rfl ?_
  exact vX6_find_b2 C hG hB1  fu _ _ hf
theorem dX6_forgers_0 : decode cX6_forgers 0 = .ok (.iconst 0, 1) := by decide +kernel
theorem dX6_forgers_1 : decode cX6_forgers 1 = .ok (.istore_n 1, 1) := by decide +kernel
theorem dX6_forgers_2 : decode cX6_forgers 2 = .ok (.iconst 0, 1) := by decide +kernel
theorem dX6_forgers_3 : decode cX6_forgers 3 = .ok (.istore_n 2, 1) := by decide +kernel
theorem dX6_forgers_4 : decode cX6_forgers 4 = .ok (.iload_n 2, 1) := by decide +kernel
theorem dX6_forgers_5 : decode cX6_forgers 5 = .ok (.aload_n 0, 1) := by decide +kernel
theorem dX6_forgers_6 : decode cX6_forgers 6 = .ok (.getfield 34, 3) := by decide +kernel
theorem dX6_forgers_9 : decode cX6_forgers 9 = .ok (.if_icmp .ge 30, 3) := by decide +kernel
theorem dX6_forgers_12 : decode cX6_forgers 12 = .ok (.aload_n 0, 1) := by decide +kernel
theorem dX6_forgers_13 : decode cX6_forgers 13 = .ok (.getfield 11, 3) := by decide +kernel
theorem dX6_forgers_16 : decode cX6_forgers 16 = .ok (.iload_n 2, 1) := by decide +kernel
theorem dX6_forgers_17 : decode cX6_forgers 17 = .ok (.iaload, 1) := by decide +kernel
theorem dX6_forgers_18 : decode cX6_forgers 18 = .ok (.iconst (-1), 1) := by decide +kernel
theorem dX6_forgers_19 : decode cX6_forgers 19 = .ok (.if_icmp .eq 14, 3) := by decide +kernel
theorem dX6_forgers_22 : decode cX6_forgers 22 = .ok (.iload_n 1, 1) := by decide +kernel
theorem dX6_forgers_23 : decode cX6_forgers 23 = .ok (.iconst 1, 1) := by decide +kernel
theorem dX6_forgers_24 : decode cX6_forgers 24 = .ok (.aload_n 0, 1) := by decide +kernel
theorem dX6_forgers_25 : decode cX6_forgers 25 = .ok (.getfield 11, 3) := by decide +kernel
theorem dX6_forgers_28 : decode cX6_forgers 28 = .ok (.iload_n 2, 1) := by decide +kernel
theorem dX6_forgers_29 : decode cX6_forgers 29 = .ok (.iaload, 1) := by decide +kernel
theorem dX6_forgers_30 : decode cX6_forgers 30 = .ok (.ishl, 1) := by decide +kernel
theorem dX6_forgers_31 : decode cX6_forgers 31 = .ok (.ior, 1) := by decide +kernel
theorem dX6_forgers_32 : decode cX6_forgers 32 = .ok (.istore_n 1, 1) := by decide +kernel
theorem dX6_forgers_33 : decode cX6_forgers 33 = .ok (.iinc 2 1, 3) := by decide +kernel
theorem dX6_forgers_36 : decode cX6_forgers 36 = .ok (.goto (-32), 3) := by decide +kernel
theorem dX6_forgers_39 : decode cX6_forgers 39 = .ok (.iload_n 1, 1) := by decide +kernel
theorem dX6_forgers_40 : decode cX6_forgers 40 = .ok (.ireturn, 1) := by decide +kernel
abbrev cxX6_forgers (G : Rg) (X : Ct) : Prop := Cx G X cX6_forgers 3 RX6 (some .int) 0 0 (Cond.code yX6_forgers cX6_forgers 3 (some .int))
def fX6_forgers_b4   : Nat → Int32 → Int32 → Mm → Option (Int32 × Mm)
  | 0, _, _, _ => none
  | n + 1, v1, v2, M =>
    if (M.1 20 0) ≤ v2 then
    (some (v1, M))
    else
    (gd (inb v2 61) (
    if (M.1 21 v2.toNatClampNeg) = (mI 1) then
    (fX6_forgers_b4  n v1 (v2 + (nI 1)) M)
    else
    (gd (inb v2 61) (
    fX6_forgers_b4  n (v1 ||| (jshl (nI 1) (M.1 21 v2.toNatClampNeg))) (v2 + (nI 1)) M))))
set_option maxHeartbeats 4000000 in
set_option maxRecDepth 100000 in
theorem vX6_forgers_b4 {G : Rg} {X : Ct} {r : Int32} {Mf : Mm}   (C : cxX6_forgers G X) (hG : gS G = shX)   : ∀ (n : Nat) (v1 : Int32) (v2 : Int32) (M : Mm), fX6_forgers_b4 n v1 v2 M = some (r, Mf) → V G X 3 (some (.int r)) Mf 4 [(0, .ref (gA G 20)), (1, .int v1), (2, .int v2)] [] M := by
  intro n
  induction n with
  | zero => intro v1 v2 M hf; rw [fX6_forgers_b4] at hf; cases hf
  | succ n ih =>
    intro v1 v2 M hf
    rw [fX6_forgers_b4] at hf
    refine V.iload_n (pc := 4) C 2 rfl dX6_forgers_4 ?_
    refine V.aload_n (pc := 5) C 0 rfl dX6_forgers_5 ?_
    refine V.getI (pc := 6) C clX6 inX6 (sx_20 hG) 0 (by decide) wF_X6_34 rfl dX6_forgers_6 ?_
    rcases it_some hf with ⟨h1, hf⟩ | ⟨h1, hf⟩
    · refine V.ic_geT (pc := 9) C 39 h1 (by decide) dX6_forgers_9 ?_
      refine V.iload_n (pc := 39) C 1 rfl dX6_forgers_39 ?_
      exact V.retI (pc := 40) C hf dX6_forgers_40
    · refine V.ic_geF (pc := 9) C 39 h1 (by decide) dX6_forgers_9 ?_
      refine V.aload_n (pc := 12) C 0 rfl dX6_forgers_12 ?_
      refine V.getR (pc := 13) C clX6 inX6 (sx_20 hG) 3 (by decide) wF_X6_11 rfl dX6_forgers_13 ?_
      refine V.iload_n (pc := 16) C 2 rfl dX6_forgers_16 ?_
      obtain ⟨g2, hf⟩ := gd_some hf
      refine V.iald (pc := 17) C (sx_21 hG) (inb_in g2) dX6_forgers_17 ?_
      refine V.iconst (pc := 18) C (mI 1) (by decide) dX6_forgers_18 ?_
      rcases it_some hf with ⟨h3, hf⟩ | ⟨h3, hf⟩
      · refine V.ic_eqT (pc := 19) C 33 h3 (by decide) dX6_forgers_19 ?_
        refine V.iinc (pc := 33) (lv' := [(2, .int (v2 + (nI 1))), (0, .ref (gA G 20)), (1, .int v1)]) C (v2 + (nI 1)) 2 rfl rfl (by decide) rfl dX6_forgers_33 ?_
        refine V.goto (pc := 36) C 4 (by decide) dX6_forgers_36 ?_
        refine V.sub C [1, 2, 0] (lv' := [(0, .ref (gA G 20)), (1, .int v1), (2, .int (v2 + (nI 1)))]) rfl ?_
        exact ih _ _ _ hf
      · refine V.ic_eqF (pc := 19) C 33 h3 (by decide) dX6_forgers_19 ?_
        refine V.iload_n (pc := 22) C 1 rfl dX6_forgers_22 ?_
        refine V.iconst (pc := 23) C (nI 1) (by decide) dX6_forgers_23 ?_
        refine V.aload_n (pc := 24) C 0 rfl dX6_forgers_24 ?_
        refine V.getR (pc := 25) C clX6 inX6 (sx_20 hG) 3 (by decide) wF_X6_11 rfl dX6_forgers_25 ?_
        refine V.iload_n (pc := 28) C 2 rfl dX6_forgers_28 ?_
        obtain ⟨g4, hf⟩ := gd_some hf
        refine V.iald (pc := 29) C (sx_21 hG) (inb_in g4) dX6_forgers_29 ?_
        refine V.ishl (pc := 30) C dX6_forgers_30 ?_
        refine V.ior (pc := 31) C dX6_forgers_31 ?_
        refine V.istore_n (pc := 32) (lv' := [(1, .int (v1 ||| (jshl (nI 1) (M.1 21 v2.toNatClampNeg)))), (0, .ref (gA G 20)), (2, .int v2)]) C (by decide) rfl dX6_forgers_32 ?_
        refine V.iinc (pc := 33) (lv' := [(2, .int (v2 + (nI 1))), (1, .int (v1 ||| (jshl (nI 1) (M.1 21 v2.toNatClampNeg)))), (0, .ref (gA G 20))]) C (v2 + (nI 1)) 2 rfl rfl (by decide) rfl dX6_forgers_33 ?_
        refine V.goto (pc := 36) C 4 (by decide) dX6_forgers_36 ?_
        refine V.sub C [2, 1, 0] (lv' := [(0, .ref (gA G 20)), (1, .int (v1 ||| (jshl (nI 1) (M.1 21 v2.toNatClampNeg)))), (2, .int (v2 + (nI 1)))]) rfl ?_
        exact ih _ _ _ hf
def fX6_forgers  (M : Mm) : Option (Int32 × Mm) :=
fX6_forgers_b4 fu (nI 0) (nI 0) M
set_option maxHeartbeats 4000000 in
set_option maxRecDepth 100000 in
theorem mX6_forgers (l : Launch) {G : Rg} (hG : gS G = shX)   {M Mf : Mm} {r : Int32} (hf : fX6_forgers  M = some (r, Mf)) : Mt l G yX6_forgers cX6_forgers 3 (some .int) 0 0 [.ref (gA G 20)] M (some (.int r)) Mf := by
  refine Mt.of (by decide) (Nat.le_of_ble_eq_true rfl) ?_
  intro X C hX
  subst hX
  have C : cxX6_forgers G X := C
  show V G X 3 (some (.int r)) Mf 0 [(0, .ref (gA G 20))] [] M
  rw [fX6_forgers] at hf
  refine V.iconst (pc := 0) C (nI 0) (by decide) dX6_forgers_0 ?_
  refine V.istore_n (pc := 1) (lv' := [(1, .int (nI 0)), (0, .ref (gA G 20))]) C (by decide) rfl dX6_forgers_1 ?_
  refine V.iconst (pc := 2) C (nI 0) (by decide) dX6_forgers_2 ?_
  refine V.istore_n (pc := 3) (lv' := [(2, .int (nI 0)), (1, .int (nI 0)), (0, .ref (gA G 20))]) C (by decide) rfl dX6_forgers_3 ?_
  refine V.sub C [2, 1, 0] (lv' := [(0, .ref (gA G 20)), (1, .int (nI 0)), (2, .int (nI 0))]) rfl ?_
  exact vX6_forgers_b4 C hG   fu _ _ _ hf
theorem dX8_forged_0 : decode cX8_forged 0 = .ok (.iload_n 1, 1) := by decide +kernel
theorem dX8_forged_1 : decode cX8_forged 1 = .ok (.iconst 0, 1) := by decide +kernel
theorem dX8_forged_2 : decode cX8_forged 2 = .ok (.iconst 1, 1) := by decide +kernel
theorem dX8_forged_3 : decode cX8_forged 3 = .ok (.invokestatic 73, 3) := by decide +kernel
theorem dX8_forged_6 : decode cX8_forged 6 = .ok (.ifCond .ne 6, 3) := by decide +kernel
theorem dX8_forged_9 : decode cX8_forged 9 = .ok (.bipush (-2), 2) := by decide +kernel
theorem dX8_forged_11 : decode cX8_forged 11 = .ok (.ireturn, 1) := by decide +kernel
theorem dX8_forged_12 : decode cX8_forged 12 = .ok (.aload_n 0, 1) := by decide +kernel
theorem dX8_forged_13 : decode cX8_forged 13 = .ok (.getfield 40, 3) := by decide +kernel
theorem dX8_forged_16 : decode cX8_forged 16 = .ok (.aload_n 0, 1) := by decide +kernel
theorem dX8_forged_17 : decode cX8_forged 17 = .ok (.getfield 12, 3) := by decide +kernel
theorem dX8_forged_20 : decode cX8_forged 20 = .ok (.invokevirtual 191, 3) := by decide +kernel
theorem dX8_forged_23 : decode cX8_forged 23 = .ok (.iload_n 1, 1) := by decide +kernel
theorem dX8_forged_24 : decode cX8_forged 24 = .ok (.ifCond .ne 13, 3) := by decide +kernel
theorem dX8_forged_27 : decode cX8_forged 27 = .ok (.aload_n 0, 1) := by decide +kernel
theorem dX8_forged_28 : decode cX8_forged 28 = .ok (.getfield 40, 3) := by decide +kernel
theorem dX8_forged_31 : decode cX8_forged 31 = .ok (.getfield 194, 3) := by decide +kernel
theorem dX8_forged_34 : decode cX8_forged 34 = .ok (.goto 10, 3) := by decide +kernel
theorem dX8_forged_37 : decode cX8_forged 37 = .ok (.aload_n 0, 1) := by decide +kernel
theorem dX8_forged_38 : decode cX8_forged 38 = .ok (.getfield 40, 3) := by decide +kernel
theorem dX8_forged_41 : decode cX8_forged 41 = .ok (.invokevirtual 195, 3) := by decide +kernel
theorem dX8_forged_44 : decode cX8_forged 44 = .ok (.ireturn, 1) := by decide +kernel
abbrev cxX8_forged (G : Rg) (X : Ct) : Prop := Cx G X cX8_forged 2 RX8 (some .int) 3 70 (Cond.code yX8_forged cX8_forged 2 (some .int))
def fX8_forged (x1 : Int32) (M : Mm) : Option (Int32 × Mm) :=
bd (fX8_isWithin x1 (nI 0) (nI 1) M) fun r1 M1 =>
if r1 = (nI 0) then
(some ((mI 2), M1))
else
(bd (fX6_find 1 M1) fun _ M3 =>
if x1 = (nI 0) then
(some ((M3.1 20 0), M3))
else
(bd (fX6_forgers M3) fun r5 M5 =>
some (r5, M5)))
set_option maxHeartbeats 4000000 in
set_option maxRecDepth 100000 in
theorem mX8_forged (l : Launch) {G : Rg} (hG : gS G = shX) {x1 : Int32}  {M Mf : Mm} {r : Int32} (hf : fX8_forged x1 M = some (r, Mf)) : Mt l G yX8_forged cX8_forged 2 (some .int) 3 70 [.ref (gA G 0), .int x1] M (some (.int r)) Mf := by
  refine Mt.of (by decide) (Nat.le_of_ble_eq_true rfl) ?_
  intro X C hX
  subst hX
  have C : cxX8_forged G X := C
  show V G X 2 (some (.int r)) Mf 0 [(0, .ref (gA G 0)), (1, .int x1)] [] M
  rw [fX8_forged] at hf
  refine V.iload_n (pc := 0) C 1 rfl dX8_forged_0 ?_
  refine V.iconst (pc := 1) C (nI 0) (by decide) dX8_forged_1 ?_
  refine V.iconst (pc := 2) C (nI 1) (by decide) dX8_forged_2 ?_
  obtain ⟨r1, M1, h1, hf⟩ := bd_some hf
  refine V.callSi (pc := 3) (As := [.int x1, .int (nI 0), .int (nI 1)]) (rest := []) C (mX8_isWithin X.2.1 hG  h1) mf_X8_isWithin wM_X8_73 rfl rfl ⟨by decide, by decide⟩ (Nat.le_of_ble_eq_true rfl) dX8_forged_3 ?_
  rcases it_some hf with ⟨h2, hf⟩ | ⟨h2, hf⟩
  · refine V.if_neF (pc := 6) C 12 h2 (by decide) dX8_forged_6 ?_
    refine V.bipush (pc := 9) C (mI 2) (by decide) dX8_forged_9 ?_
    exact V.retI (pc := 11) C hf dX8_forged_11
  · refine V.if_neT (pc := 6) C 12 h2 (by decide) dX8_forged_6 ?_
    refine V.aload_n (pc := 12) C 0 rfl dX8_forged_12 ?_
    refine V.getR (pc := 13) C clX8 inX8 (sx_0 hG) 4 (by decide) wF_X8_40 rfl dX8_forged_13 ?_
    refine V.aload_n (pc := 16) C 0 rfl dX8_forged_16 ?_
    refine V.getR (pc := 17) C clX8 inX8 (sx_0 hG) 0 (by decide) wF_X8_12 rfl dX8_forged_17 ?_
    obtain ⟨_, M3, h3, hf⟩ := bd_some hf
    refine V.callVv (pc := 20) (As := [.ref (gA G 1)]) (rest := []) C (mX6_find X.2.1 hG (bx_1 hG) h3) mf_X6_find clX6 (sx_20 hG) wM_X8_191 rfl rfl ⟨by decide, by decide⟩ (Nat.le_of_ble_eq_true rfl) dX8_forged_20 ?_
    refine V.iload_n (pc := 23) C 1 rfl dX8_forged_23 ?_
    rcases it_some hf with ⟨h4, hf⟩ | ⟨h4, hf⟩
    · refine V.if_neF (pc := 24) C 37 h4 (by decide) dX8_forged_24 ?_
      refine V.aload_n (pc := 27) C 0 rfl dX8_forged_27 ?_
      refine V.getR (pc := 28) C clX8 inX8 (sx_0 hG) 4 (by decide) wF_X8_40 rfl dX8_forged_28 ?_
      refine V.getI (pc := 31) C clX6 inX6 (sx_20 hG) 0 (by decide) wF_X8_194 rfl dX8_forged_31 ?_
      refine V.goto (pc := 34) C 44 (by decide) dX8_forged_34 ?_
      exact V.retI (pc := 44) C hf dX8_forged_44
    · refine V.if_neT (pc := 24) C 37 h4 (by decide) dX8_forged_24 ?_
      refine V.aload_n (pc := 37) C 0 rfl dX8_forged_37 ?_
      refine V.getR (pc := 38) C clX8 inX8 (sx_0 hG) 4 (by decide) wF_X8_40 rfl dX8_forged_38 ?_
      obtain ⟨r5, M5, h5, hf⟩ := bd_some hf
      refine V.callVi (pc := 41) (As := []) (rest := []) C (mX6_forgers X.2.1 hG  h5) mf_X6_forgers clX6 (sx_20 hG) wM_X8_195 rfl rfl ⟨by decide, by decide⟩ (Nat.le_of_ble_eq_true rfl) dX8_forged_41 ?_
      exact V.retI (pc := 44) C hf dX8_forged_44
theorem dX6_leastRank_0 : decode cX6_leastRank 0 = .ok (.iconst 0, 1) := by decide +kernel
theorem dX6_leastRank_1 : decode cX6_leastRank 1 = .ok (.istore_n 2, 1) := by decide +kernel
theorem dX6_leastRank_2 : decode cX6_leastRank 2 = .ok (.iload_n 2, 1) := by decide +kernel
theorem dX6_leastRank_3 : decode cX6_leastRank 3 = .ok (.aload_n 0, 1) := by decide +kernel
theorem dX6_leastRank_4 : decode cX6_leastRank 4 = .ok (.getfield 34, 3) := by decide +kernel
theorem dX6_leastRank_7 : decode cX6_leastRank 7 = .ok (.if_icmp .ge 26, 3) := by decide +kernel
theorem dX6_leastRank_10 : decode cX6_leastRank 10 = .ok (.aload_n 0, 1) := by decide +kernel
theorem dX6_leastRank_11 : decode cX6_leastRank 11 = .ok (.getfield 11, 3) := by decide +kernel
theorem dX6_leastRank_14 : decode cX6_leastRank 14 = .ok (.iload_n 2, 1) := by decide +kernel
theorem dX6_leastRank_15 : decode cX6_leastRank 15 = .ok (.iaload, 1) := by decide +kernel
theorem dX6_leastRank_16 : decode cX6_leastRank 16 = .ok (.iload_n 1, 1) := by decide +kernel
theorem dX6_leastRank_17 : decode cX6_leastRank 17 = .ok (.if_icmp .ne 10, 3) := by decide +kernel
theorem dX6_leastRank_20 : decode cX6_leastRank 20 = .ok (.aload_n 0, 1) := by decide +kernel
theorem dX6_leastRank_21 : decode cX6_leastRank 21 = .ok (.getfield 15, 3) := by decide +kernel
theorem dX6_leastRank_24 : decode cX6_leastRank 24 = .ok (.iload_n 2, 1) := by decide +kernel
theorem dX6_leastRank_25 : decode cX6_leastRank 25 = .ok (.iaload, 1) := by decide +kernel
theorem dX6_leastRank_26 : decode cX6_leastRank 26 = .ok (.ireturn, 1) := by decide +kernel
theorem dX6_leastRank_27 : decode cX6_leastRank 27 = .ok (.iinc 2 1, 3) := by decide +kernel
theorem dX6_leastRank_30 : decode cX6_leastRank 30 = .ok (.goto (-28), 3) := by decide +kernel
theorem dX6_leastRank_33 : decode cX6_leastRank 33 = .ok (.bipush (-6), 2) := by decide +kernel
theorem dX6_leastRank_35 : decode cX6_leastRank 35 = .ok (.ireturn, 1) := by decide +kernel
abbrev cxX6_leastRank (G : Rg) (X : Ct) : Prop := Cx G X cX6_leastRank 3 RX6 (some .int) 0 0 (Cond.code yX6_leastRank cX6_leastRank 3 (some .int))
def fX6_leastRank_b2   : Nat → Int32 → Int32 → Mm → Option (Int32 × Mm)
  | 0, _, _, _ => none
  | n + 1, v1, v2, M =>
    if (M.1 20 0) ≤ v2 then
    (some ((mI 6), M))
    else
    (gd (inb v2 61) (
    if (M.1 21 v2.toNatClampNeg) = v1 then
    (gd (inb v2 61) (
    some ((M.1 22 v2.toNatClampNeg), M)))
    else
    (fX6_leastRank_b2  n v1 (v2 + (nI 1)) M)))
set_option maxHeartbeats 4000000 in
set_option maxRecDepth 100000 in
theorem vX6_leastRank_b2 {G : Rg} {X : Ct} {r : Int32} {Mf : Mm}   (C : cxX6_leastRank G X) (hG : gS G = shX)   : ∀ (n : Nat) (v1 : Int32) (v2 : Int32) (M : Mm), fX6_leastRank_b2 n v1 v2 M = some (r, Mf) → V G X 3 (some (.int r)) Mf 2 [(0, .ref (gA G 20)), (1, .int v1), (2, .int v2)] [] M := by
  intro n
  induction n with
  | zero => intro v1 v2 M hf; rw [fX6_leastRank_b2] at hf; cases hf
  | succ n ih =>
    intro v1 v2 M hf
    rw [fX6_leastRank_b2] at hf
    refine V.iload_n (pc := 2) C 2 rfl dX6_leastRank_2 ?_
    refine V.aload_n (pc := 3) C 0 rfl dX6_leastRank_3 ?_
    refine V.getI (pc := 4) C clX6 inX6 (sx_20 hG) 0 (by decide) wF_X6_34 rfl dX6_leastRank_4 ?_
    rcases it_some hf with ⟨h1, hf⟩ | ⟨h1, hf⟩
    · refine V.ic_geT (pc := 7) C 33 h1 (by decide) dX6_leastRank_7 ?_
      refine V.bipush (pc := 33) C (mI 6) (by decide) dX6_leastRank_33 ?_
      exact V.retI (pc := 35) C hf dX6_leastRank_35
    · refine V.ic_geF (pc := 7) C 33 h1 (by decide) dX6_leastRank_7 ?_
      refine V.aload_n (pc := 10) C 0 rfl dX6_leastRank_10 ?_
      refine V.getR (pc := 11) C clX6 inX6 (sx_20 hG) 3 (by decide) wF_X6_11 rfl dX6_leastRank_11 ?_
      refine V.iload_n (pc := 14) C 2 rfl dX6_leastRank_14 ?_
      obtain ⟨g2, hf⟩ := gd_some hf
      refine V.iald (pc := 15) C (sx_21 hG) (inb_in g2) dX6_leastRank_15 ?_
      refine V.iload_n (pc := 16) C 1 rfl dX6_leastRank_16 ?_
      rcases it_some hf with ⟨h3, hf⟩ | ⟨h3, hf⟩
      · refine V.ic_neF (pc := 17) C 27 h3 (by decide) dX6_leastRank_17 ?_
        refine V.aload_n (pc := 20) C 0 rfl dX6_leastRank_20 ?_
        refine V.getR (pc := 21) C clX6 inX6 (sx_20 hG) 4 (by decide) wF_X6_15 rfl dX6_leastRank_21 ?_
        refine V.iload_n (pc := 24) C 2 rfl dX6_leastRank_24 ?_
        obtain ⟨g4, hf⟩ := gd_some hf
        refine V.iald (pc := 25) C (sx_22 hG) (inb_in g4) dX6_leastRank_25 ?_
        exact V.retI (pc := 26) C hf dX6_leastRank_26
      · refine V.ic_neT (pc := 17) C 27 h3 (by decide) dX6_leastRank_17 ?_
        refine V.iinc (pc := 27) (lv' := [(2, .int (v2 + (nI 1))), (0, .ref (gA G 20)), (1, .int v1)]) C (v2 + (nI 1)) 2 rfl rfl (by decide) rfl dX6_leastRank_27 ?_
        refine V.goto (pc := 30) C 2 (by decide) dX6_leastRank_30 ?_
        refine V.sub C [1, 2, 0] (lv' := [(0, .ref (gA G 20)), (1, .int v1), (2, .int (v2 + (nI 1)))]) rfl ?_
        exact ih _ _ _ hf
def fX6_leastRank (x1 : Int32) (M : Mm) : Option (Int32 × Mm) :=
fX6_leastRank_b2 fu x1 (nI 0) M
set_option maxHeartbeats 4000000 in
set_option maxRecDepth 100000 in
theorem mX6_leastRank (l : Launch) {G : Rg} (hG : gS G = shX) {x1 : Int32}  {M Mf : Mm} {r : Int32} (hf : fX6_leastRank x1 M = some (r, Mf)) : Mt l G yX6_leastRank cX6_leastRank 3 (some .int) 0 0 [.ref (gA G 20), .int x1] M (some (.int r)) Mf := by
  refine Mt.of (by decide) (Nat.le_of_ble_eq_true rfl) ?_
  intro X C hX
  subst hX
  have C : cxX6_leastRank G X := C
  show V G X 3 (some (.int r)) Mf 0 [(0, .ref (gA G 20)), (1, .int x1)] [] M
  rw [fX6_leastRank] at hf
  refine V.iconst (pc := 0) C (nI 0) (by decide) dX6_leastRank_0 ?_
  refine V.istore_n (pc := 1) (lv' := [(2, .int (nI 0)), (0, .ref (gA G 20)), (1, .int x1)]) C (by decide) rfl dX6_leastRank_1 ?_
  refine V.sub C [1, 2, 0] (lv' := [(0, .ref (gA G 20)), (1, .int x1), (2, .int (nI 0))]) rfl ?_
  exact vX6_leastRank_b2 C hG   fu _ _ _ hf
theorem dX8_rank_0 : decode cX8_rank 0 = .ok (.aload_n 0, 1) := by decide +kernel
theorem dX8_rank_1 : decode cX8_rank 1 = .ok (.getfield 12, 3) := by decide +kernel
theorem dX8_rank_4 : decode cX8_rank 4 = .ok (.iload_n 1, 1) := by decide +kernel
theorem dX8_rank_5 : decode cX8_rank 5 = .ok (.invokevirtual 91, 3) := by decide +kernel
theorem dX8_rank_8 : decode cX8_rank 8 = .ok (.ifCond .ne 5, 3) := by decide +kernel
theorem dX8_rank_11 : decode cX8_rank 11 = .ok (.iconst (-1), 1) := by decide +kernel
theorem dX8_rank_12 : decode cX8_rank 12 = .ok (.ireturn, 1) := by decide +kernel
theorem dX8_rank_13 : decode cX8_rank 13 = .ok (.aload_n 0, 1) := by decide +kernel
theorem dX8_rank_14 : decode cX8_rank 14 = .ok (.getfield 40, 3) := by decide +kernel
theorem dX8_rank_17 : decode cX8_rank 17 = .ok (.aload_n 0, 1) := by decide +kernel
theorem dX8_rank_18 : decode cX8_rank 18 = .ok (.getfield 12, 3) := by decide +kernel
theorem dX8_rank_21 : decode cX8_rank 21 = .ok (.invokevirtual 191, 3) := by decide +kernel
theorem dX8_rank_24 : decode cX8_rank 24 = .ok (.aload_n 0, 1) := by decide +kernel
theorem dX8_rank_25 : decode cX8_rank 25 = .ok (.getfield 40, 3) := by decide +kernel
theorem dX8_rank_28 : decode cX8_rank 28 = .ok (.iload_n 1, 1) := by decide +kernel
theorem dX8_rank_29 : decode cX8_rank 29 = .ok (.invokevirtual 198, 3) := by decide +kernel
theorem dX8_rank_32 : decode cX8_rank 32 = .ok (.ireturn, 1) := by decide +kernel
abbrev cxX8_rank (G : Rg) (X : Ct) : Prop := Cx G X cX8_rank 2 RX8 (some .int) 3 70 (Cond.code yX8_rank cX8_rank 2 (some .int))
def fX8_rank (x1 : Int32) (M : Mm) : Option (Int32 × Mm) :=
bd (fX0_isThere 1 x1 M) fun r1 M1 =>
if r1 = (nI 0) then
(some ((mI 1), M1))
else
(bd (fX6_find 1 M1) fun _ M3 =>
bd (fX6_leastRank x1 M3) fun r4 M4 =>
some (r4, M4))
set_option maxHeartbeats 4000000 in
set_option maxRecDepth 100000 in
theorem mX8_rank (l : Launch) {G : Rg} (hG : gS G = shX) {x1 : Int32}  {M Mf : Mm} {r : Int32} (hf : fX8_rank x1 M = some (r, Mf)) : Mt l G yX8_rank cX8_rank 2 (some .int) 3 70 [.ref (gA G 0), .int x1] M (some (.int r)) Mf := by
  refine Mt.of (by decide) (Nat.le_of_ble_eq_true rfl) ?_
  intro X C hX
  subst hX
  have C : cxX8_rank G X := C
  show V G X 2 (some (.int r)) Mf 0 [(0, .ref (gA G 0)), (1, .int x1)] [] M
  rw [fX8_rank] at hf
  refine V.aload_n (pc := 0) C 0 rfl dX8_rank_0 ?_
  refine V.getR (pc := 1) C clX8 inX8 (sx_0 hG) 0 (by decide) wF_X8_12 rfl dX8_rank_1 ?_
  refine V.iload_n (pc := 4) C 1 rfl dX8_rank_4 ?_
  obtain ⟨r1, M1, h1, hf⟩ := bd_some hf
  refine V.callVi (pc := 5) (As := [.int x1]) (rest := []) C (mX0_isThere X.2.1 hG (bx_1 hG) h1) mf_X0_isThere clX0 (sx_1 hG) wM_X8_91 rfl rfl ⟨by decide, by decide⟩ (Nat.le_of_ble_eq_true rfl) dX8_rank_5 ?_
  rcases it_some hf with ⟨h2, hf⟩ | ⟨h2, hf⟩
  · refine V.if_neF (pc := 8) C 13 h2 (by decide) dX8_rank_8 ?_
    refine V.iconst (pc := 11) C (mI 1) (by decide) dX8_rank_11 ?_
    exact V.retI (pc := 12) C hf dX8_rank_12
  · refine V.if_neT (pc := 8) C 13 h2 (by decide) dX8_rank_8 ?_
    refine V.aload_n (pc := 13) C 0 rfl dX8_rank_13 ?_
    refine V.getR (pc := 14) C clX8 inX8 (sx_0 hG) 4 (by decide) wF_X8_40 rfl dX8_rank_14 ?_
    refine V.aload_n (pc := 17) C 0 rfl dX8_rank_17 ?_
    refine V.getR (pc := 18) C clX8 inX8 (sx_0 hG) 0 (by decide) wF_X8_12 rfl dX8_rank_18 ?_
    obtain ⟨_, M3, h3, hf⟩ := bd_some hf
    refine V.callVv (pc := 21) (As := [.ref (gA G 1)]) (rest := []) C (mX6_find X.2.1 hG (bx_1 hG) h3) mf_X6_find clX6 (sx_20 hG) wM_X8_191 rfl rfl ⟨by decide, by decide⟩ (Nat.le_of_ble_eq_true rfl) dX8_rank_21 ?_
    refine V.aload_n (pc := 24) C 0 rfl dX8_rank_24 ?_
    refine V.getR (pc := 25) C clX8 inX8 (sx_0 hG) 4 (by decide) wF_X8_40 rfl dX8_rank_25 ?_
    refine V.iload_n (pc := 28) C 1 rfl dX8_rank_28 ?_
    obtain ⟨r4, M4, h4, hf⟩ := bd_some hf
    refine V.callVi (pc := 29) (As := [.int x1]) (rest := []) C (mX6_leastRank X.2.1 hG  h4) mf_X6_leastRank clX6 (sx_20 hG) wM_X8_198 rfl rfl ⟨by decide, by decide⟩ (Nat.le_of_ble_eq_true rfl) dX8_rank_29 ?_
    exact V.retI (pc := 32) C hf dX8_rank_32
theorem dX6_worthIn_0 : decode cX6_worthIn 0 = .ok (.aload_n 0, 1) := by decide +kernel
theorem dX6_worthIn_1 : decode cX6_worthIn 1 = .ok (.getfield 11, 3) := by decide +kernel
theorem dX6_worthIn_4 : decode cX6_worthIn 4 = .ok (.iload_n 2, 1) := by decide +kernel
theorem dX6_worthIn_5 : decode cX6_worthIn 5 = .ok (.iaload, 1) := by decide +kernel
theorem dX6_worthIn_6 : decode cX6_worthIn 6 = .ok (.iload_n 3, 1) := by decide +kernel
theorem dX6_worthIn_7 : decode cX6_worthIn 7 = .ok (.if_icmp .ne 17, 3) := by decide +kernel
theorem dX6_worthIn_10 : decode cX6_worthIn 10 = .ok (.aload_n 1, 1) := by decide +kernel
theorem dX6_worthIn_11 : decode cX6_worthIn 11 = .ok (.getfield 48, 3) := by decide +kernel
theorem dX6_worthIn_14 : decode cX6_worthIn 14 = .ok (.aload_n 0, 1) := by decide +kernel
theorem dX6_worthIn_15 : decode cX6_worthIn 15 = .ok (.getfield 15, 3) := by decide +kernel
theorem dX6_worthIn_18 : decode cX6_worthIn 18 = .ok (.iload_n 2, 1) := by decide +kernel
theorem dX6_worthIn_19 : decode cX6_worthIn 19 = .ok (.iaload, 1) := by decide +kernel
theorem dX6_worthIn_20 : decode cX6_worthIn 20 = .ok (.iaload, 1) := by decide +kernel
theorem dX6_worthIn_21 : decode cX6_worthIn 21 = .ok (.goto 8, 3) := by decide +kernel
theorem dX6_worthIn_24 : decode cX6_worthIn 24 = .ok (.aload_n 1, 1) := by decide +kernel
theorem dX6_worthIn_25 : decode cX6_worthIn 25 = .ok (.iload_n 3, 1) := by decide +kernel
theorem dX6_worthIn_26 : decode cX6_worthIn 26 = .ok (.invokevirtual 51, 3) := by decide +kernel
theorem dX6_worthIn_29 : decode cX6_worthIn 29 = .ok (.ireturn, 1) := by decide +kernel
abbrev cxX6_worthIn (G : Rg) (X : Ct) : Prop := Cx G X cX6_worthIn 4 RX6 (some .int) 1 21 (Cond.code yX6_worthIn cX6_worthIn 4 (some .int))
def fX6_worthIn (c1 : Nat) (x2 : Int32) (x3 : Int32) (M : Mm) : Option (Int32 × Mm) :=
gd (inb x2 61) (
if (M.1 21 x2.toNatClampNeg) = x3 then
(gd (inb x2 61) (
gd (inb (M.1 22 x2.toNatClampNeg) 6) (
some ((M.1 (c1 + 3) (M.1 22 x2.toNatClampNeg).toNatClampNeg), M))))
else
(bd (fX0_worth c1 x3 M) fun r3 M3 =>
some (r3, M3)))
set_option maxHeartbeats 4000000 in
set_option maxRecDepth 100000 in
theorem mX6_worthIn (l : Launch) {G : Rg} (hG : gS G = shX) {c1 : Nat} {x2 : Int32} {x3 : Int32} (hB1 : isB G c1) {M Mf : Mm} {r : Int32} (hf : fX6_worthIn c1 x2 x3 M = some (r, Mf)) : Mt l G yX6_worthIn cX6_worthIn 4 (some .int) 1 21 [.ref (gA G 20), .ref (gA G c1), .int x2, .int x3] M (some (.int r)) Mf := by
  refine Mt.of (by decide) (Nat.le_of_ble_eq_true rfl) ?_
  intro X C hX
  subst hX
  have C : cxX6_worthIn G X := C
  show V G X 4 (some (.int r)) Mf 0 [(0, .ref (gA G 20)), (1, .ref (gA G c1)), (2, .int x2), (3, .int x3)] [] M
  rw [fX6_worthIn] at hf
  refine V.aload_n (pc := 0) C 0 rfl dX6_worthIn_0 ?_
  refine V.getR (pc := 1) C clX6 inX6 (sx_20 hG) 3 (by decide) wF_X6_11 rfl dX6_worthIn_1 ?_
  refine V.iload_n (pc := 4) C 2 rfl dX6_worthIn_4 ?_
  obtain ⟨g1, hf⟩ := gd_some hf
  refine V.iald (pc := 5) C (sx_21 hG) (inb_in g1) dX6_worthIn_5 ?_
  refine V.iload_n (pc := 6) C 3 rfl dX6_worthIn_6 ?_
  rcases it_some hf with ⟨h2, hf⟩ | ⟨h2, hf⟩
  · refine V.ic_neF (pc := 7) C 24 h2 (by decide) dX6_worthIn_7 ?_
    refine V.aload_n (pc := 10) C 1 rfl dX6_worthIn_10 ?_
    refine V.getR (pc := 11) C clX0 inX0 hB1.1 6 (by decide) wF_X6_48 rfl dX6_worthIn_11 ?_
    refine V.aload_n (pc := 14) C 0 rfl dX6_worthIn_14 ?_
    refine V.getR (pc := 15) C clX6 inX6 (sx_20 hG) 4 (by decide) wF_X6_15 rfl dX6_worthIn_15 ?_
    refine V.iload_n (pc := 18) C 2 rfl dX6_worthIn_18 ?_
    obtain ⟨g4, hf⟩ := gd_some hf
    refine V.iald (pc := 19) C (sx_22 hG) (inb_in g4) dX6_worthIn_19 ?_
    obtain ⟨g5, hf⟩ := gd_some hf
    refine V.iald (pc := 20) C hB1.2.2.2.1 (inb_in g5) dX6_worthIn_20 ?_
    refine V.goto (pc := 21) C 29 (by decide) dX6_worthIn_21 ?_
    exact V.retI (pc := 29) C hf dX6_worthIn_29
  · refine V.ic_neT (pc := 7) C 24 h2 (by decide) dX6_worthIn_7 ?_
    refine V.aload_n (pc := 24) C 1 rfl dX6_worthIn_24 ?_
    refine V.iload_n (pc := 25) C 3 rfl dX6_worthIn_25 ?_
    obtain ⟨r3, M3, h3, hf⟩ := bd_some hf
    refine V.callVi (pc := 26) (As := [.int x3]) (rest := []) C (mX0_worth X.2.1 hG hB1 h3) mf_X0_worth clX0 hB1.1 wM_X6_51 rfl rfl ⟨by decide, by decide⟩ (Nat.le_of_ble_eq_true rfl) dX6_worthIn_26 ?_
    exact V.retI (pc := 29) C hf dX6_worthIn_29
theorem dX6_mostLeft_0 : decode cX6_mostLeft 0 = .ok (.iconst 0, 1) := by decide +kernel
theorem dX6_mostLeft_1 : decode cX6_mostLeft 1 = .ok (.istore 4, 2) := by decide +kernel
theorem dX6_mostLeft_3 : decode cX6_mostLeft 3 = .ok (.iconst 0, 1) := by decide +kernel
theorem dX6_mostLeft_4 : decode cX6_mostLeft 4 = .ok (.istore 5, 2) := by decide +kernel
theorem dX6_mostLeft_6 : decode cX6_mostLeft 6 = .ok (.iload 5, 2) := by decide +kernel
theorem dX6_mostLeft_8 : decode cX6_mostLeft 8 = .ok (.aload_n 0, 1) := by decide +kernel
theorem dX6_mostLeft_9 : decode cX6_mostLeft 9 = .ok (.getfield 34, 3) := by decide +kernel
theorem dX6_mostLeft_12 : decode cX6_mostLeft 12 = .ok (.if_icmp .ge 31, 3) := by decide +kernel
theorem dX6_mostLeft_15 : decode cX6_mostLeft 15 = .ok (.aload_n 0, 1) := by decide +kernel
theorem dX6_mostLeft_16 : decode cX6_mostLeft 16 = .ok (.aload_n 1, 1) := by decide +kernel
theorem dX6_mostLeft_17 : decode cX6_mostLeft 17 = .ok (.iload 5, 2) := by decide +kernel
theorem dX6_mostLeft_19 : decode cX6_mostLeft 19 = .ok (.iload_n 2, 1) := by decide +kernel
theorem dX6_mostLeft_20 : decode cX6_mostLeft 20 = .ok (.invokevirtual 71, 3) := by decide +kernel
theorem dX6_mostLeft_23 : decode cX6_mostLeft 23 = .ok (.aload_n 0, 1) := by decide +kernel
theorem dX6_mostLeft_24 : decode cX6_mostLeft 24 = .ok (.aload_n 1, 1) := by decide +kernel
theorem dX6_mostLeft_25 : decode cX6_mostLeft 25 = .ok (.iload 5, 2) := by decide +kernel
theorem dX6_mostLeft_27 : decode cX6_mostLeft 27 = .ok (.iload_n 3, 1) := by decide +kernel
theorem dX6_mostLeft_28 : decode cX6_mostLeft 28 = .ok (.invokevirtual 71, 3) := by decide +kernel
theorem dX6_mostLeft_31 : decode cX6_mostLeft 31 = .ok (.if_icmp .ne 6, 3) := by decide +kernel
theorem dX6_mostLeft_34 : decode cX6_mostLeft 34 = .ok (.iinc 4 1, 3) := by decide +kernel
theorem dX6_mostLeft_37 : decode cX6_mostLeft 37 = .ok (.iinc 5 1, 3) := by decide +kernel
theorem dX6_mostLeft_40 : decode cX6_mostLeft 40 = .ok (.goto (-34), 3) := by decide +kernel
theorem dX6_mostLeft_43 : decode cX6_mostLeft 43 = .ok (.iload 4, 2) := by decide +kernel
theorem dX6_mostLeft_45 : decode cX6_mostLeft 45 = .ok (.aload_n 0, 1) := by decide +kernel
theorem dX6_mostLeft_46 : decode cX6_mostLeft 46 = .ok (.getfield 34, 3) := by decide +kernel
theorem dX6_mostLeft_49 : decode cX6_mostLeft 49 = .ok (.iload 4, 2) := by decide +kernel
theorem dX6_mostLeft_51 : decode cX6_mostLeft 51 = .ok (.isub, 1) := by decide +kernel
theorem dX6_mostLeft_52 : decode cX6_mostLeft 52 = .ok (.invokestatic 74, 3) := by decide +kernel
theorem dX6_mostLeft_55 : decode cX6_mostLeft 55 = .ok (.ireturn, 1) := by decide +kernel
abbrev cxX6_mostLeft (G : Rg) (X : Ct) : Prop := Cx G X cX6_mostLeft 6 RX6 (some .int) 2 44 (Cond.code yX6_mostLeft cX6_mostLeft 6 (some .int))
def fX6_mostLeft_b43  (c1 : Nat) (v4 : Int32) (M : Mm) : Option (Int32 × Mm) :=
some ((jmax v4 ((M.1 20 0) - v4)), M)
set_option maxHeartbeats 4000000 in
set_option maxRecDepth 100000 in
theorem vX6_mostLeft_b43 {G : Rg} {X : Ct} {r : Int32} {Mf : Mm} {c1 : Nat}  (C : cxX6_mostLeft G X) (hG : gS G = shX) (hB1 : isB G c1)  (v4 : Int32) (M : Mm) (hf : fX6_mostLeft_b43 c1 v4 M = some (r, Mf)) : V G X 6 (some (.int r)) Mf 43 [(0, .ref (gA G 20)), (4, .int v4)] [] M := by
  rw [fX6_mostLeft_b43] at hf
  refine V.iload (pc := 43) C 1 rfl dX6_mostLeft_43 ?_
  refine V.aload_n (pc := 45) C 0 rfl dX6_mostLeft_45 ?_
  refine V.getI (pc := 46) C clX6 inX6 (sx_20 hG) 0 (by decide) wF_X6_34 rfl dX6_mostLeft_46 ?_
  refine V.iload (pc := 49) C 1 rfl dX6_mostLeft_49 ?_
  refine V.isub (pc := 51) C dX6_mostLeft_51 ?_
  refine V.mmax (pc := 52) C mm_max wM_X6_74 (by decide) (Nat.le_of_ble_eq_true rfl) dX6_mostLeft_52 ?_
  exact V.retI (pc := 55) C hf dX6_mostLeft_55
def fX6_mostLeft_b6  (c1 : Nat) : Nat → Int32 → Int32 → Int32 → Int32 → Mm → Option (Int32 × Mm)
  | 0, _, _, _, _, _ => none
  | n + 1, v2, v3, v4, v5, M =>
    if (M.1 20 0) ≤ v5 then
    (fX6_mostLeft_b43 c1 v4 M)
    else
    (bd (fX6_worthIn c1 v5 v2 M) fun r2 M2 =>
    bd (fX6_worthIn c1 v5 v3 M2) fun r3 M3 =>
    if r2 = r3 then
    (fX6_mostLeft_b6 c1 n v2 v3 (v4 + (nI 1)) (v5 + (nI 1)) M3)
    else
    (fX6_mostLeft_b6 c1 n v2 v3 v4 (v5 + (nI 1)) M3))
set_option maxHeartbeats 4000000 in
set_option maxRecDepth 100000 in
theorem vX6_mostLeft_b6 {G : Rg} {X : Ct} {r : Int32} {Mf : Mm} {c1 : Nat}  (C : cxX6_mostLeft G X) (hG : gS G = shX) (hB1 : isB G c1)  : ∀ (n : Nat) (v2 : Int32) (v3 : Int32) (v4 : Int32) (v5 : Int32) (M : Mm), fX6_mostLeft_b6 c1 n v2 v3 v4 v5 M = some (r, Mf) → V G X 6 (some (.int r)) Mf 6 [(0, .ref (gA G 20)), (1, .ref (gA G c1)), (2, .int v2), (3, .int v3), (4, .int v4), (5, .int v5)] [] M := by
  intro n
  induction n with
  | zero => intro v2 v3 v4 v5 M hf; rw [fX6_mostLeft_b6] at hf; cases hf
  | succ n ih =>
    intro v2 v3 v4 v5 M hf
    rw [fX6_mostLeft_b6] at hf
    refine V.iload (pc := 6) C 5 rfl dX6_mostLeft_6 ?_
    refine V.aload_n (pc := 8) C 0 rfl dX6_mostLeft_8 ?_
    refine V.getI (pc := 9) C clX6 inX6 (sx_20 hG) 0 (by decide) wF_X6_34 rfl dX6_mostLeft_9 ?_
    rcases it_some hf with ⟨h1, hf⟩ | ⟨h1, hf⟩
    · refine V.ic_geT (pc := 12) C 43 h1 (by decide) dX6_mostLeft_12 ?_
      refine V.sub C [0, 4] (lv' := [(0, .ref (gA G 20)), (4, .int v4)]) rfl ?_
      exact vX6_mostLeft_b43 C hG hB1   _ _ hf
    · refine V.ic_geF (pc := 12) C 43 h1 (by decide) dX6_mostLeft_12 ?_
      refine V.aload_n (pc := 15) C 0 rfl dX6_mostLeft_15 ?_
      refine V.aload_n (pc := 16) C 1 rfl dX6_mostLeft_16 ?_
      refine V.iload (pc := 17) C 5 rfl dX6_mostLeft_17 ?_
      refine V.iload_n (pc := 19) C 2 rfl dX6_mostLeft_19 ?_
      obtain ⟨r2, M2, h2, hf⟩ := bd_some hf
      refine V.callVi (pc := 20) (As := [.ref (gA G c1), .int v5, .int v2]) (rest := []) C (mX6_worthIn X.2.1 hG hB1 h2) mf_X6_worthIn clX6 (sx_20 hG) wM_X6_71 rfl rfl ⟨by decide, by decide⟩ (Nat.le_of_ble_eq_true rfl) dX6_mostLeft_20 ?_
      refine V.aload_n (pc := 23) C 0 rfl dX6_mostLeft_23 ?_
      refine V.aload_n (pc := 24) C 1 rfl dX6_mostLeft_24 ?_
      refine V.iload (pc := 25) C 5 rfl dX6_mostLeft_25 ?_
      refine V.iload_n (pc := 27) C 3 rfl dX6_mostLeft_27 ?_
      obtain ⟨r3, M3, h3, hf⟩ := bd_some hf
      refine V.callVi (pc := 28) (As := [.ref (gA G c1), .int v5, .int v3]) (rest := [.int r2]) C (mX6_worthIn X.2.1 hG hB1 h3) mf_X6_worthIn clX6 (sx_20 hG) wM_X6_71 rfl rfl ⟨by decide, by decide⟩ (Nat.le_of_ble_eq_true rfl) dX6_mostLeft_28 ?_
      rcases it_some hf with ⟨h4, hf⟩ | ⟨h4, hf⟩
      · refine V.ic_neF (pc := 31) C 37 h4 (by decide) dX6_mostLeft_31 ?_
        refine V.iinc (pc := 34) (lv' := [(4, .int (v4 + (nI 1))), (0, .ref (gA G 20)), (1, .ref (gA G c1)), (2, .int v2), (3, .int v3), (5, .int v5)]) C (v4 + (nI 1)) 4 rfl rfl (by decide) rfl dX6_mostLeft_34 ?_
        refine V.iinc (pc := 37) (lv' := [(5, .int (v5 + (nI 1))), (4, .int (v4 + (nI 1))), (0, .ref (gA G 20)), (1, .ref (gA G c1)), (2, .int v2), (3, .int v3)]) C (v5 + (nI 1)) 5 rfl rfl (by decide) rfl dX6_mostLeft_37 ?_
        refine V.goto (pc := 40) C 6 (by decide) dX6_mostLeft_40 ?_
        refine V.sub C [2, 3, 4, 5, 1, 0] (lv' := [(0, .ref (gA G 20)), (1, .ref (gA G c1)), (2, .int v2), (3, .int v3), (4, .int (v4 + (nI 1))), (5, .int (v5 + (nI 1)))]) rfl ?_
        exact ih _ _ _ _ _ hf
      · refine V.ic_neT (pc := 31) C 37 h4 (by decide) dX6_mostLeft_31 ?_
        refine V.iinc (pc := 37) (lv' := [(5, .int (v5 + (nI 1))), (0, .ref (gA G 20)), (1, .ref (gA G c1)), (2, .int v2), (3, .int v3), (4, .int v4)]) C (v5 + (nI 1)) 5 rfl rfl (by decide) rfl dX6_mostLeft_37 ?_
        refine V.goto (pc := 40) C 6 (by decide) dX6_mostLeft_40 ?_
        refine V.sub C [1, 2, 3, 4, 5, 0] (lv' := [(0, .ref (gA G 20)), (1, .ref (gA G c1)), (2, .int v2), (3, .int v3), (4, .int v4), (5, .int (v5 + (nI 1)))]) rfl ?_
        exact ih _ _ _ _ _ hf
def fX6_mostLeft (c1 : Nat) (x2 : Int32) (x3 : Int32) (M : Mm) : Option (Int32 × Mm) :=
fX6_mostLeft_b6 c1 fu x2 x3 (nI 0) (nI 0) M
set_option maxHeartbeats 4000000 in
set_option maxRecDepth 100000 in
theorem mX6_mostLeft (l : Launch) {G : Rg} (hG : gS G = shX) {c1 : Nat} {x2 : Int32} {x3 : Int32} (hB1 : isB G c1) {M Mf : Mm} {r : Int32} (hf : fX6_mostLeft c1 x2 x3 M = some (r, Mf)) : Mt l G yX6_mostLeft cX6_mostLeft 6 (some .int) 2 44 [.ref (gA G 20), .ref (gA G c1), .int x2, .int x3] M (some (.int r)) Mf := by
  refine Mt.of (by decide) (Nat.le_of_ble_eq_true rfl) ?_
  intro X C hX
  subst hX
  have C : cxX6_mostLeft G X := C
  show V G X 6 (some (.int r)) Mf 0 [(0, .ref (gA G 20)), (1, .ref (gA G c1)), (2, .int x2), (3, .int x3)] [] M
  rw [fX6_mostLeft] at hf
  refine V.iconst (pc := 0) C (nI 0) (by decide) dX6_mostLeft_0 ?_
  refine V.istore (pc := 1) (lv' := [(4, .int (nI 0)), (0, .ref (gA G 20)), (1, .ref (gA G c1)), (2, .int x2), (3, .int x3)]) C (by decide) rfl dX6_mostLeft_1 ?_
  refine V.iconst (pc := 3) C (nI 0) (by decide) dX6_mostLeft_3 ?_
  refine V.istore (pc := 4) (lv' := [(5, .int (nI 0)), (4, .int (nI 0)), (0, .ref (gA G 20)), (1, .ref (gA G c1)), (2, .int x2), (3, .int x3)]) C (by decide) rfl dX6_mostLeft_4 ?_
  refine V.sub C [2, 3, 4, 5, 1, 0] (lv' := [(0, .ref (gA G 20)), (1, .ref (gA G c1)), (2, .int x2), (3, .int x3), (4, .int (nI 0)), (5, .int (nI 0))]) rfl ?_
  exact vX6_mostLeft_b6 C hG hB1  fu _ _ _ _ _ hf
theorem dX6_offerPair_0 : decode cX6_offerPair 0 = .ok (.aload_n 0, 1) := by decide +kernel
theorem dX6_offerPair_1 : decode cX6_offerPair 1 = .ok (.getfield 57, 3) := by decide +kernel
theorem dX6_offerPair_4 : decode cX6_offerPair 4 = .ok (.bipush (-6), 2) := by decide +kernel
theorem dX6_offerPair_6 : decode cX6_offerPair 6 = .ok (.if_icmp .eq 11, 3) := by decide +kernel
theorem dX6_offerPair_9 : decode cX6_offerPair 9 = .ok (.iload_n 2, 1) := by decide +kernel
theorem dX6_offerPair_10 : decode cX6_offerPair 10 = .ok (.aload_n 0, 1) := by decide +kernel
theorem dX6_offerPair_11 : decode cX6_offerPair 11 = .ok (.getfield 60, 3) := by decide +kernel
theorem dX6_offerPair_14 : decode cX6_offerPair 14 = .ok (.if_icmp .ge 13, 3) := by decide +kernel
theorem dX6_offerPair_17 : decode cX6_offerPair 17 = .ok (.aload_n 0, 1) := by decide +kernel
theorem dX6_offerPair_18 : decode cX6_offerPair 18 = .ok (.iload_n 1, 1) := by decide +kernel
theorem dX6_offerPair_19 : decode cX6_offerPair 19 = .ok (.putfield 57, 3) := by decide +kernel
theorem dX6_offerPair_22 : decode cX6_offerPair 22 = .ok (.aload_n 0, 1) := by decide +kernel
theorem dX6_offerPair_23 : decode cX6_offerPair 23 = .ok (.iload_n 2, 1) := by decide +kernel
theorem dX6_offerPair_24 : decode cX6_offerPair 24 = .ok (.putfield 60, 3) := by decide +kernel
theorem dX6_offerPair_27 : decode cX6_offerPair 27 = .ok (.return_, 1) := by decide +kernel
abbrev cxX6_offerPair (G : Rg) (X : Ct) : Prop := Cx G X cX6_offerPair 3 RX6 (none) 0 0 (Cond.code yX6_offerPair cX6_offerPair 3 (none))
def fX6_offerPair (x1 : Int32) (x2 : Int32) (M : Mm) : Option (Unit × Mm) :=
if (M.1 20 1) = (mI 6) then
(some ((), (sI (sI M 20 1 x1) 20 2 x2)))
else
(if (M.1 20 2) ≤ x2 then
(some ((), M))
else
(some ((), (sI (sI M 20 1 x1) 20 2 x2))))
set_option maxHeartbeats 4000000 in
set_option maxRecDepth 100000 in
theorem mX6_offerPair (l : Launch) {G : Rg} (hG : gS G = shX) {x1 : Int32} {x2 : Int32}  {M Mf : Mm} {r : Unit} (hf : fX6_offerPair x1 x2 M = some (r, Mf)) : Mt l G yX6_offerPair cX6_offerPair 3 (none) 0 0 [.ref (gA G 20), .int x1, .int x2] M none Mf := by
  refine Mt.of (by decide) (Nat.le_of_ble_eq_true rfl) ?_
  intro X C hX
  subst hX
  have C : cxX6_offerPair G X := C
  show V G X 3 none Mf 0 [(0, .ref (gA G 20)), (1, .int x1), (2, .int x2)] [] M
  rw [fX6_offerPair] at hf
  refine V.aload_n (pc := 0) C 0 rfl dX6_offerPair_0 ?_
  refine V.getI (pc := 1) C clX6 inX6 (sx_20 hG) 1 (by decide) wF_X6_57 rfl dX6_offerPair_1 ?_
  refine V.bipush (pc := 4) C (mI 6) (by decide) dX6_offerPair_4 ?_
  rcases it_some hf with ⟨h1, hf⟩ | ⟨h1, hf⟩
  · refine V.ic_eqT (pc := 6) C 17 h1 (by decide) dX6_offerPair_6 ?_
    refine V.aload_n (pc := 17) C 0 rfl dX6_offerPair_17 ?_
    refine V.iload_n (pc := 18) C 1 rfl dX6_offerPair_18 ?_
    refine V.putI (pc := 19) C clX6 inX6 (sx_20 hG) 1 (by decide) wF_X6_57 tyX6 tyX6_ok nmX6 rfl (tyX6_ok 1 (by decide)) rfl dX6_offerPair_19 ?_
    refine V.aload_n (pc := 22) C 0 rfl dX6_offerPair_22 ?_
    refine V.iload_n (pc := 23) C 2 rfl dX6_offerPair_23 ?_
    refine V.putI (pc := 24) C clX6 inX6 (sx_20 hG) 2 (by decide) wF_X6_60 tyX6 tyX6_ok nmX6 rfl (tyX6_ok 2 (by decide)) rfl dX6_offerPair_24 ?_
    exact V.retV (pc := 27) C hf dX6_offerPair_27
  · refine V.ic_eqF (pc := 6) C 17 h1 (by decide) dX6_offerPair_6 ?_
    refine V.iload_n (pc := 9) C 2 rfl dX6_offerPair_9 ?_
    refine V.aload_n (pc := 10) C 0 rfl dX6_offerPair_10 ?_
    refine V.getI (pc := 11) C clX6 inX6 (sx_20 hG) 2 (by decide) wF_X6_60 rfl dX6_offerPair_11 ?_
    rcases it_some hf with ⟨h2, hf⟩ | ⟨h2, hf⟩
    · refine V.ic_geT (pc := 14) C 27 h2 (by decide) dX6_offerPair_14 ?_
      exact V.retV (pc := 27) C hf dX6_offerPair_27
    · refine V.ic_geF (pc := 14) C 27 h2 (by decide) dX6_offerPair_14 ?_
      refine V.aload_n (pc := 17) C 0 rfl dX6_offerPair_17 ?_
      refine V.iload_n (pc := 18) C 1 rfl dX6_offerPair_18 ?_
      refine V.putI (pc := 19) C clX6 inX6 (sx_20 hG) 1 (by decide) wF_X6_57 tyX6 tyX6_ok nmX6 rfl (tyX6_ok 1 (by decide)) rfl dX6_offerPair_19 ?_
      refine V.aload_n (pc := 22) C 0 rfl dX6_offerPair_22 ?_
      refine V.iload_n (pc := 23) C 2 rfl dX6_offerPair_23 ?_
      refine V.putI (pc := 24) C clX6 inX6 (sx_20 hG) 2 (by decide) wF_X6_60 tyX6 tyX6_ok nmX6 rfl (tyX6_ok 2 (by decide)) rfl dX6_offerPair_24 ?_
      exact V.retV (pc := 27) C hf dX6_offerPair_27
