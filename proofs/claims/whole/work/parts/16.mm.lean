theorem dX9_exchange_0 : decode cX9_exchange 0 = .ok (.iconst 0, 1) := by decide +kernel
theorem dX9_exchange_1 : decode cX9_exchange 1 = .ok (.istore_n 2, 1) := by decide +kernel
theorem dX9_exchange_2 : decode cX9_exchange 2 = .ok (.iload_n 2, 1) := by decide +kernel
theorem dX9_exchange_3 : decode cX9_exchange 3 = .ok (.bipush 12, 2) := by decide +kernel
theorem dX9_exchange_5 : decode cX9_exchange 5 = .ok (.if_icmp .ge 34, 3) := by decide +kernel
theorem dX9_exchange_8 : decode cX9_exchange 8 = .ok (.aload_n 0, 1) := by decide +kernel
theorem dX9_exchange_9 : decode cX9_exchange 9 = .ok (.getfield 13, 3) := by decide +kernel
theorem dX9_exchange_12 : decode cX9_exchange 12 = .ok (.iload_n 2, 1) := by decide +kernel
theorem dX9_exchange_13 : decode cX9_exchange 13 = .ok (.iload_n 1, 1) := by decide +kernel
theorem dX9_exchange_14 : decode cX9_exchange 14 = .ok (.iload_n 2, 1) := by decide +kernel
theorem dX9_exchange_15 : decode cX9_exchange 15 = .ok (.ishr, 1) := by decide +kernel
theorem dX9_exchange_16 : decode cX9_exchange 16 = .ok (.iconst 1, 1) := by decide +kernel
theorem dX9_exchange_17 : decode cX9_exchange 17 = .ok (.iand, 1) := by decide +kernel
theorem dX9_exchange_18 : decode cX9_exchange 18 = .ok (.iconst 1, 1) := by decide +kernel
theorem dX9_exchange_19 : decode cX9_exchange 19 = .ok (.if_icmp .ne 7, 3) := by decide +kernel
theorem dX9_exchange_22 : decode cX9_exchange 22 = .ok (.iconst 3, 1) := by decide +kernel
theorem dX9_exchange_23 : decode cX9_exchange 23 = .ok (.goto 9, 3) := by decide +kernel
theorem dX9_exchange_26 : decode cX9_exchange 26 = .ok (.aload_n 0, 1) := by decide +kernel
theorem dX9_exchange_27 : decode cX9_exchange 27 = .ok (.getfield 13, 3) := by decide +kernel
theorem dX9_exchange_30 : decode cX9_exchange 30 = .ok (.iload_n 2, 1) := by decide +kernel
theorem dX9_exchange_31 : decode cX9_exchange 31 = .ok (.iaload, 1) := by decide +kernel
theorem dX9_exchange_32 : decode cX9_exchange 32 = .ok (.iastore, 1) := by decide +kernel
theorem dX9_exchange_33 : decode cX9_exchange 33 = .ok (.iinc 2 1, 3) := by decide +kernel
theorem dX9_exchange_36 : decode cX9_exchange 36 = .ok (.goto (-34), 3) := by decide +kernel
theorem dX9_exchange_39 : decode cX9_exchange 39 = .ok (.aload_n 0, 1) := by decide +kernel
theorem dX9_exchange_40 : decode cX9_exchange 40 = .ok (.aload_n 0, 1) := by decide +kernel
theorem dX9_exchange_41 : decode cX9_exchange 41 = .ok (.getfield 63, 3) := by decide +kernel
theorem dX9_exchange_44 : decode cX9_exchange 44 = .ok (.bipush 9, 2) := by decide +kernel
theorem dX9_exchange_46 : decode cX9_exchange 46 = .ok (.if_icmp .ne 8, 3) := by decide +kernel
theorem dX9_exchange_49 : decode cX9_exchange 49 = .ok (.bipush 9, 2) := by decide +kernel
theorem dX9_exchange_51 : decode cX9_exchange 51 = .ok (.goto 9, 3) := by decide +kernel
theorem dX9_exchange_54 : decode cX9_exchange 54 = .ok (.aload_n 0, 1) := by decide +kernel
theorem dX9_exchange_55 : decode cX9_exchange 55 = .ok (.getfield 63, 3) := by decide +kernel
theorem dX9_exchange_58 : decode cX9_exchange 58 = .ok (.iconst 1, 1) := by decide +kernel
theorem dX9_exchange_59 : decode cX9_exchange 59 = .ok (.iadd, 1) := by decide +kernel
theorem dX9_exchange_60 : decode cX9_exchange 60 = .ok (.putfield 63, 3) := by decide +kernel
theorem dX9_exchange_63 : decode cX9_exchange 63 = .ok (.aload_n 0, 1) := by decide +kernel
theorem dX9_exchange_64 : decode cX9_exchange 64 = .ok (.dup, 1) := by decide +kernel
theorem dX9_exchange_65 : decode cX9_exchange 65 = .ok (.getfield 156, 3) := by decide +kernel
theorem dX9_exchange_68 : decode cX9_exchange 68 = .ok (.iconst 1, 1) := by decide +kernel
theorem dX9_exchange_69 : decode cX9_exchange 69 = .ok (.iadd, 1) := by decide +kernel
theorem dX9_exchange_70 : decode cX9_exchange 70 = .ok (.putfield 156, 3) := by decide +kernel
theorem dX9_exchange_73 : decode cX9_exchange 73 = .ok (.return_, 1) := by decide +kernel
abbrev cxX9_exchange (G : Rg) (X : Ct) : Prop := Cx G X cX9_exchange 3 RX9 (none) 0 0 (Cond.code yX9_exchange cX9_exchange 3 (none))
def fX9_exchange_b60   (s1 : Int32) (M : Mm) : Option (Unit × Mm) :=
some ((), (sI (sI M 0 1 s1) 0 15 (((sI M 0 1 s1).1 0 15) + (nI 1))))
set_option maxHeartbeats 4000000 in
set_option maxRecDepth 100000 in
theorem vX9_exchange_b60 {G : Rg} {X : Ct} {r : Unit} {Mf : Mm}   (C : cxX9_exchange G X) (hG : gS G = shM)   (s1 : Int32) (M : Mm) (hf : fX9_exchange_b60 s1 M = some (r, Mf)) : V G X 3 none Mf 60 [(0, .ref (gA G 0))] [.int s1, .ref (gA G 0)] M := by
  rw [fX9_exchange_b60] at hf
  refine V.putI (pc := 60) C clX9 inX9 (sm_0 hG) 1 (by decide) wF_X9_63 tyX9 tyX9_ok nmX9 rfl (tyX9_ok 1 (by decide)) rfl dX9_exchange_60 ?_
  refine V.aload_n (pc := 63) C 0 rfl dX9_exchange_63 ?_
  refine V.dup (pc := 64) C rfl dX9_exchange_64 ?_
  refine V.getI (pc := 65) C clX9 inX9 (sm_0 hG) 15 (by decide) wF_X9_156 rfl dX9_exchange_65 ?_
  refine V.iconst (pc := 68) C (nI 1) (by decide) dX9_exchange_68 ?_
  refine V.iadd (pc := 69) C dX9_exchange_69 ?_
  refine V.putI (pc := 70) C clX9 inX9 (sm_0 hG) 15 (by decide) wF_X9_156 tyX9 tyX9_ok nmX9 rfl (tyX9_ok 15 (by decide)) rfl dX9_exchange_70 ?_
  exact V.retV (pc := 73) C hf dX9_exchange_73
def fX9_exchange_b39   (M : Mm) : Option (Unit × Mm) :=
if (M.1 0 1) = (nI 9) then
(fX9_exchange_b60 (nI 9) M)
else
(fX9_exchange_b60 ((M.1 0 1) + (nI 1)) M)
set_option maxHeartbeats 4000000 in
set_option maxRecDepth 100000 in
theorem vX9_exchange_b39 {G : Rg} {X : Ct} {r : Unit} {Mf : Mm}   (C : cxX9_exchange G X) (hG : gS G = shM)   (M : Mm) (hf : fX9_exchange_b39 M = some (r, Mf)) : V G X 3 none Mf 39 [(0, .ref (gA G 0))] [] M := by
  rw [fX9_exchange_b39] at hf
  refine V.aload_n (pc := 39) C 0 rfl dX9_exchange_39 ?_
  refine V.aload_n (pc := 40) C 0 rfl dX9_exchange_40 ?_
  refine V.getI (pc := 41) C clX9 inX9 (sm_0 hG) 1 (by decide) wF_X9_63 rfl dX9_exchange_41 ?_
  refine V.bipush (pc := 44) C (nI 9) (by decide) dX9_exchange_44 ?_
  rcases it_some hf with ⟨h1, hf⟩ | ⟨h1, hf⟩
  · refine V.ic_neF (pc := 46) C 54 h1 (by decide) dX9_exchange_46 ?_
    refine V.bipush (pc := 49) C (nI 9) (by decide) dX9_exchange_49 ?_
    refine V.goto (pc := 51) C 60 (by decide) dX9_exchange_51 ?_
    exact vX9_exchange_b60 C hG    _ _ hf
  · refine V.ic_neT (pc := 46) C 54 h1 (by decide) dX9_exchange_46 ?_
    refine V.aload_n (pc := 54) C 0 rfl dX9_exchange_54 ?_
    refine V.getI (pc := 55) C clX9 inX9 (sm_0 hG) 1 (by decide) wF_X9_63 rfl dX9_exchange_55 ?_
    refine V.iconst (pc := 58) C (nI 1) (by decide) dX9_exchange_58 ?_
    refine V.iadd (pc := 59) C dX9_exchange_59 ?_
    exact vX9_exchange_b60 C hG    _ _ hf
def fX9_exchange_b2   : Nat → Int32 → Int32 → Mm → Option (Unit × Mm)
  | 0, _, _, _ => none
  | n + 1, v1, v2, M =>
    if (nI 12) ≤ v2 then
    (fX9_exchange_b39 M)
    else
    (if ((jshr v1 v2) &&& (nI 1)) = (nI 1) then
    (gd (inb v2 12) (
    fX9_exchange_b2  n v1 (v2 + (nI 1)) (sI M 2 v2.toNatClampNeg (nI 3))))
    else
    (gd (inb v2 12) (
    gd (inb v2 12) (
    fX9_exchange_b2  n v1 (v2 + (nI 1)) (sI M 2 v2.toNatClampNeg (M.1 2 v2.toNatClampNeg))))))
set_option maxHeartbeats 4000000 in
set_option maxRecDepth 100000 in
theorem vX9_exchange_b2 {G : Rg} {X : Ct} {r : Unit} {Mf : Mm}   (C : cxX9_exchange G X) (hG : gS G = shM)   : ∀ (n : Nat) (v1 : Int32) (v2 : Int32) (M : Mm), fX9_exchange_b2 n v1 v2 M = some (r, Mf) → V G X 3 none Mf 2 [(0, .ref (gA G 0)), (1, .int v1), (2, .int v2)] [] M := by
  intro n
  induction n with
  | zero => intro v1 v2 M hf; rw [fX9_exchange_b2] at hf; cases hf
  | succ n ih =>
    intro v1 v2 M hf
    rw [fX9_exchange_b2] at hf
    refine V.iload_n (pc := 2) C 2 rfl dX9_exchange_2 ?_
    refine V.bipush (pc := 3) C (nI 12) (by decide) dX9_exchange_3 ?_
    rcases it_some hf with ⟨h1, hf⟩ | ⟨h1, hf⟩
    · refine V.ic_geT (pc := 5) C 39 h1 (by decide) dX9_exchange_5 ?_
      refine V.sub C [0] (lv' := [(0, .ref (gA G 0))]) rfl ?_
      exact vX9_exchange_b39 C hG    _ hf
    · refine V.ic_geF (pc := 5) C 39 h1 (by decide) dX9_exchange_5 ?_
      refine V.aload_n (pc := 8) C 0 rfl dX9_exchange_8 ?_
      refine V.getR (pc := 9) C clX9 inX9 (sm_0 hG) 3 (by decide) wF_X9_13 rfl dX9_exchange_9 ?_
      refine V.iload_n (pc := 12) C 2 rfl dX9_exchange_12 ?_
      refine V.iload_n (pc := 13) C 1 rfl dX9_exchange_13 ?_
      refine V.iload_n (pc := 14) C 2 rfl dX9_exchange_14 ?_
      refine V.ishr (pc := 15) C dX9_exchange_15 ?_
      refine V.iconst (pc := 16) C (nI 1) (by decide) dX9_exchange_16 ?_
      refine V.iand (pc := 17) C dX9_exchange_17 ?_
      refine V.iconst (pc := 18) C (nI 1) (by decide) dX9_exchange_18 ?_
      rcases it_some hf with ⟨h2, hf⟩ | ⟨h2, hf⟩
      · refine V.ic_neF (pc := 19) C 26 h2 (by decide) dX9_exchange_19 ?_
        refine V.iconst (pc := 22) C (nI 3) (by decide) dX9_exchange_22 ?_
        refine V.goto (pc := 23) C 32 (by decide) dX9_exchange_23 ?_
        obtain ⟨g5, hf⟩ := gd_some hf
        refine V.iast (pc := 32) C (sm_2 hG) (inb_in g5) dX9_exchange_32 ?_
        refine V.iinc (pc := 33) (lv' := [(2, .int (v2 + (nI 1))), (0, .ref (gA G 0)), (1, .int v1)]) C (v2 + (nI 1)) 2 rfl rfl (by decide) rfl dX9_exchange_33 ?_
        refine V.goto (pc := 36) C 2 (by decide) dX9_exchange_36 ?_
        refine V.sub C [1, 2, 0] (lv' := [(0, .ref (gA G 0)), (1, .int v1), (2, .int (v2 + (nI 1)))]) rfl ?_
        exact ih _ _ _ hf
      · refine V.ic_neT (pc := 19) C 26 h2 (by decide) dX9_exchange_19 ?_
        refine V.aload_n (pc := 26) C 0 rfl dX9_exchange_26 ?_
        refine V.getR (pc := 27) C clX9 inX9 (sm_0 hG) 3 (by decide) wF_X9_13 rfl dX9_exchange_27 ?_
        refine V.iload_n (pc := 30) C 2 rfl dX9_exchange_30 ?_
        obtain ⟨g3, hf⟩ := gd_some hf
        refine V.iald (pc := 31) C (sm_2 hG) (inb_in g3) dX9_exchange_31 ?_
        obtain ⟨g4, hf⟩ := gd_some hf
        refine V.iast (pc := 32) C (sm_2 hG) (inb_in g4) dX9_exchange_32 ?_
        refine V.iinc (pc := 33) (lv' := [(2, .int (v2 + (nI 1))), (0, .ref (gA G 0)), (1, .int v1)]) C (v2 + (nI 1)) 2 rfl rfl (by decide) rfl dX9_exchange_33 ?_
        refine V.goto (pc := 36) C 2 (by decide) dX9_exchange_36 ?_
        refine V.sub C [1, 2, 0] (lv' := [(0, .ref (gA G 0)), (1, .int v1), (2, .int (v2 + (nI 1)))]) rfl ?_
        exact ih _ _ _ hf
def fX9_exchange (x1 : Int32) (M : Mm) : Option (Unit × Mm) :=
fX9_exchange_b2 fu x1 (nI 0) M
set_option maxHeartbeats 4000000 in
set_option maxRecDepth 100000 in
theorem mX9_exchange (l : Launch) {G : Rg} (hG : gS G = shM) {x1 : Int32}  {M Mf : Mm} {r : Unit} (hf : fX9_exchange x1 M = some (r, Mf)) : Mt l G yX9_exchange cX9_exchange 3 (none) 0 0 [.ref (gA G 0), .int x1] M none Mf := by
  refine Mt.of (by decide) (Nat.le_of_ble_eq_true rfl) ?_
  intro X C hX
  subst hX
  have C : cxX9_exchange G X := C
  show V G X 3 none Mf 0 [(0, .ref (gA G 0)), (1, .int x1)] [] M
  rw [fX9_exchange] at hf
  refine V.iconst (pc := 0) C (nI 0) (by decide) dX9_exchange_0 ?_
  refine V.istore_n (pc := 1) (lv' := [(2, .int (nI 0)), (0, .ref (gA G 0)), (1, .int x1)]) C (by decide) rfl dX9_exchange_1 ?_
  refine V.sub C [1, 2, 0] (lv' := [(0, .ref (gA G 0)), (1, .int x1), (2, .int (nI 0))]) rfl ?_
  exact vX9_exchange_b2 C hG   fu _ _ _ hf
theorem dX9_happen_0 : decode cX9_happen 0 = .ok (.iload_n 1, 1) := by decide +kernel
theorem dX9_happen_1 : decode cX9_happen 1 = .ok (.tableswitch 84 0 3 #[31, 44, 57, 68], 31) := by decide +kernel
theorem dX9_happen_32 : decode cX9_happen 32 = .ok (.aload_n 0, 1) := by decide +kernel
theorem dX9_happen_33 : decode cX9_happen 33 = .ok (.getfield 13, 3) := by decide +kernel
theorem dX9_happen_36 : decode cX9_happen 36 = .ok (.iload_n 2, 1) := by decide +kernel
theorem dX9_happen_37 : decode cX9_happen 37 = .ok (.invokestatic 146, 3) := by decide +kernel
theorem dX9_happen_40 : decode cX9_happen 40 = .ok (.iconst 1, 1) := by decide +kernel
theorem dX9_happen_41 : decode cX9_happen 41 = .ok (.iastore, 1) := by decide +kernel
theorem dX9_happen_42 : decode cX9_happen 42 = .ok (.goto 48, 3) := by decide +kernel
theorem dX9_happen_45 : decode cX9_happen 45 = .ok (.aload_n 0, 1) := by decide +kernel
theorem dX9_happen_46 : decode cX9_happen 46 = .ok (.getfield 13, 3) := by decide +kernel
theorem dX9_happen_49 : decode cX9_happen 49 = .ok (.iload_n 2, 1) := by decide +kernel
theorem dX9_happen_50 : decode cX9_happen 50 = .ok (.invokestatic 146, 3) := by decide +kernel
theorem dX9_happen_53 : decode cX9_happen 53 = .ok (.iconst 2, 1) := by decide +kernel
theorem dX9_happen_54 : decode cX9_happen 54 = .ok (.iastore, 1) := by decide +kernel
theorem dX9_happen_55 : decode cX9_happen 55 = .ok (.goto 35, 3) := by decide +kernel
theorem dX9_happen_58 : decode cX9_happen 58 = .ok (.aload_n 0, 1) := by decide +kernel
theorem dX9_happen_59 : decode cX9_happen 59 = .ok (.iload_n 2, 1) := by decide +kernel
theorem dX9_happen_60 : decode cX9_happen 60 = .ok (.invokestatic 146, 3) := by decide +kernel
theorem dX9_happen_63 : decode cX9_happen 63 = .ok (.invokevirtual 159, 3) := by decide +kernel
theorem dX9_happen_66 : decode cX9_happen 66 = .ok (.goto 24, 3) := by decide +kernel
theorem dX9_happen_69 : decode cX9_happen 69 = .ok (.aload_n 0, 1) := by decide +kernel
theorem dX9_happen_70 : decode cX9_happen 70 = .ok (.getfield 7, 3) := by decide +kernel
theorem dX9_happen_73 : decode cX9_happen 73 = .ok (.iload_n 2, 1) := by decide +kernel
theorem dX9_happen_74 : decode cX9_happen 74 = .ok (.invokestatic 146, 3) := by decide +kernel
theorem dX9_happen_77 : decode cX9_happen 77 = .ok (.dup2, 1) := by decide +kernel
theorem dX9_happen_78 : decode cX9_happen 78 = .ok (.iaload, 1) := by decide +kernel
theorem dX9_happen_79 : decode cX9_happen 79 = .ok (.iconst 1, 1) := by decide +kernel
theorem dX9_happen_80 : decode cX9_happen 80 = .ok (.iadd, 1) := by decide +kernel
theorem dX9_happen_81 : decode cX9_happen 81 = .ok (.iastore, 1) := by decide +kernel
theorem dX9_happen_82 : decode cX9_happen 82 = .ok (.goto 8, 3) := by decide +kernel
theorem dX9_happen_85 : decode cX9_happen 85 = .ok (.aload_n 0, 1) := by decide +kernel
theorem dX9_happen_86 : decode cX9_happen 86 = .ok (.iload_n 2, 1) := by decide +kernel
theorem dX9_happen_87 : decode cX9_happen 87 = .ok (.invokevirtual 162, 3) := by decide +kernel
theorem dX9_happen_90 : decode cX9_happen 90 = .ok (.return_, 1) := by decide +kernel
abbrev cxX9_happen (G : Rg) (X : Ct) : Prop := Cx G X cX9_happen 3 RX9 (none) 1 22 (Cond.code yX9_happen cX9_happen 3 (none))
def fX9_happen (x1 : Int32) (x2 : Int32) (M : Mm) : Option (Unit × Mm) :=
if x1 = (nI 0) then
(bd (fX9_only x2 M) fun r2 M2 =>
gd (inb r2 12) (
some ((), (sI M2 2 r2.toNatClampNeg (nI 1)))))
else
if x1 = (nI 1) then
(bd (fX9_only x2 M) fun r5 M5 =>
gd (inb r5 12) (
some ((), (sI M5 2 r5.toNatClampNeg (nI 2)))))
else
if x1 = (nI 2) then
(bd (fX9_only x2 M) fun r8 M8 =>
bd (fX9_breakWord r8 M8) fun _ M9 =>
some ((), M9))
else
if x1 = (nI 3) then
(bd (fX9_only x2 M) fun r11 M11 =>
gd (inb r11 12) (
gd (inb r11 12) (
some ((), (sI M11 1 r11.toNatClampNeg ((M11.1 1 r11.toNatClampNeg) + (nI 1)))))))
else
(bd (fX9_exchange x2 M) fun _ M14 =>
some ((), M14))
set_option maxHeartbeats 4000000 in
set_option maxRecDepth 100000 in
theorem mX9_happen (l : Launch) {G : Rg} (hG : gS G = shM) {x1 : Int32} {x2 : Int32}  {M Mf : Mm} {r : Unit} (hf : fX9_happen x1 x2 M = some (r, Mf)) : Mt l G yX9_happen cX9_happen 3 (none) 1 22 [.ref (gA G 0), .int x1, .int x2] M none Mf := by
  refine Mt.of (by decide) (Nat.le_of_ble_eq_true rfl) ?_
  intro X C hX
  subst hX
  have C : cxX9_happen G X := C
  show V G X 3 none Mf 0 [(0, .ref (gA G 0)), (1, .int x1), (2, .int x2)] [] M
  rw [fX9_happen] at hf
  refine V.iload_n (pc := 0) C 1 rfl dX9_happen_0 ?_
  rcases it_some hf with ⟨h1, hf⟩ | ⟨h1, hf⟩
  · refine V.tabIn (pc := 1) (off := 31) C (nI 0) 32 h1 (by decide) (by decide) (by decide) (by decide) dX9_happen_1 ?_
    refine V.aload_n (pc := 32) C 0 rfl dX9_happen_32 ?_
    refine V.getR (pc := 33) C clX9 inX9 (sm_0 hG) 3 (by decide) wF_X9_13 rfl dX9_happen_33 ?_
    refine V.iload_n (pc := 36) C 2 rfl dX9_happen_36 ?_
    obtain ⟨r2, M2, h2, hf⟩ := bd_some hf
    refine V.callSi (pc := 37) (As := [.int x2]) (rest := [.ref (gA G 2)]) C (mX9_only X.2.1 hG  h2) mf_X9_only wM_X9_146 rfl rfl ⟨by decide, by decide⟩ (Nat.le_of_ble_eq_true rfl) dX9_happen_37 ?_
    refine V.iconst (pc := 40) C (nI 1) (by decide) dX9_happen_40 ?_
    obtain ⟨g3, hf⟩ := gd_some hf
    refine V.iast (pc := 41) C (sm_2 hG) (inb_in g3) dX9_happen_41 ?_
    refine V.goto (pc := 42) C 90 (by decide) dX9_happen_42 ?_
    exact V.retV (pc := 90) C hf dX9_happen_90
  · skip
    rcases it_some hf with ⟨h4, hf⟩ | ⟨h4, hf⟩
    · refine V.tabIn (pc := 1) (off := 44) C (nI 1) 45 h4 (by decide) (by decide) (by decide) (by decide) dX9_happen_1 ?_
      refine V.aload_n (pc := 45) C 0 rfl dX9_happen_45 ?_
      refine V.getR (pc := 46) C clX9 inX9 (sm_0 hG) 3 (by decide) wF_X9_13 rfl dX9_happen_46 ?_
      refine V.iload_n (pc := 49) C 2 rfl dX9_happen_49 ?_
      obtain ⟨r5, M5, h5, hf⟩ := bd_some hf
      refine V.callSi (pc := 50) (As := [.int x2]) (rest := [.ref (gA G 2)]) C (mX9_only X.2.1 hG  h5) mf_X9_only wM_X9_146 rfl rfl ⟨by decide, by decide⟩ (Nat.le_of_ble_eq_true rfl) dX9_happen_50 ?_
      refine V.iconst (pc := 53) C (nI 2) (by decide) dX9_happen_53 ?_
      obtain ⟨g6, hf⟩ := gd_some hf
      refine V.iast (pc := 54) C (sm_2 hG) (inb_in g6) dX9_happen_54 ?_
      refine V.goto (pc := 55) C 90 (by decide) dX9_happen_55 ?_
      exact V.retV (pc := 90) C hf dX9_happen_90
    · skip
      rcases it_some hf with ⟨h7, hf⟩ | ⟨h7, hf⟩
      · refine V.tabIn (pc := 1) (off := 57) C (nI 2) 58 h7 (by decide) (by decide) (by decide) (by decide) dX9_happen_1 ?_
        refine V.aload_n (pc := 58) C 0 rfl dX9_happen_58 ?_
        refine V.iload_n (pc := 59) C 2 rfl dX9_happen_59 ?_
        obtain ⟨r8, M8, h8, hf⟩ := bd_some hf
        refine V.callSi (pc := 60) (As := [.int x2]) (rest := [.ref (gA G 0)]) C (mX9_only X.2.1 hG  h8) mf_X9_only wM_X9_146 rfl rfl ⟨by decide, by decide⟩ (Nat.le_of_ble_eq_true rfl) dX9_happen_60 ?_
        obtain ⟨_, M9, h9, hf⟩ := bd_some hf
        refine V.callVv (pc := 63) (As := [.int r8]) (rest := []) C (mX9_breakWord X.2.1 hG  h9) mf_X9_breakWord clX9 (sm_0 hG) wM_X9_159 rfl rfl ⟨by decide, by decide⟩ (Nat.le_of_ble_eq_true rfl) dX9_happen_63 ?_
        refine V.goto (pc := 66) C 90 (by decide) dX9_happen_66 ?_
        exact V.retV (pc := 90) C hf dX9_happen_90
      · skip
        rcases it_some hf with ⟨h10, hf⟩ | ⟨h10, hf⟩
        · refine V.tabIn (pc := 1) (off := 68) C (nI 3) 69 h10 (by decide) (by decide) (by decide) (by decide) dX9_happen_1 ?_
          refine V.aload_n (pc := 69) C 0 rfl dX9_happen_69 ?_
          refine V.getR (pc := 70) C clX9 inX9 (sm_0 hG) 2 (by decide) wF_X9_7 rfl dX9_happen_70 ?_
          refine V.iload_n (pc := 73) C 2 rfl dX9_happen_73 ?_
          obtain ⟨r11, M11, h11, hf⟩ := bd_some hf
          refine V.callSi (pc := 74) (As := [.int x2]) (rest := [.ref (gA G 1)]) C (mX9_only X.2.1 hG  h11) mf_X9_only wM_X9_146 rfl rfl ⟨by decide, by decide⟩ (Nat.le_of_ble_eq_true rfl) dX9_happen_74 ?_
          refine V.dup2 (pc := 77) C rfl rfl dX9_happen_77 ?_
          obtain ⟨g12, hf⟩ := gd_some hf
          refine V.iald (pc := 78) C (sm_1 hG) (inb_in g12) dX9_happen_78 ?_
          refine V.iconst (pc := 79) C (nI 1) (by decide) dX9_happen_79 ?_
          refine V.iadd (pc := 80) C dX9_happen_80 ?_
          obtain ⟨g13, hf⟩ := gd_some hf
          refine V.iast (pc := 81) C (sm_1 hG) (inb_in g13) dX9_happen_81 ?_
          refine V.goto (pc := 82) C 90 (by decide) dX9_happen_82 ?_
          exact V.retV (pc := 90) C hf dX9_happen_90
        · skip
          refine V.tabOut (pc := 1) C 85 (sw4 h1 h4 h7 h10) (by decide) dX9_happen_1 ?_
          refine V.aload_n (pc := 85) C 0 rfl dX9_happen_85 ?_
          refine V.iload_n (pc := 86) C 2 rfl dX9_happen_86 ?_
          obtain ⟨_, M14, h14, hf⟩ := bd_some hf
          refine V.callVv (pc := 87) (As := [.int x2]) (rest := []) C (mX9_exchange X.2.1 hG  h14) mf_X9_exchange clX9 (sm_0 hG) wM_X9_162 rfl rfl ⟨by decide, by decide⟩ (Nat.le_of_ble_eq_true rfl) dX9_happen_87 ?_
          exact V.retV (pc := 90) C hf dX9_happen_90
theorem dX9_goMonths_0 : decode cX9_goMonths 0 = .ok (.aload_n 0, 1) := by decide +kernel
theorem dX9_goMonths_1 : decode cX9_goMonths 1 = .ok (.bipush (-6), 2) := by decide +kernel
theorem dX9_goMonths_3 : decode cX9_goMonths 3 = .ok (.putfield 165, 3) := by decide +kernel
theorem dX9_goMonths_6 : decode cX9_goMonths 6 = .ok (.aload_n 0, 1) := by decide +kernel
theorem dX9_goMonths_7 : decode cX9_goMonths 7 = .ok (.bipush (-6), 2) := by decide +kernel
theorem dX9_goMonths_9 : decode cX9_goMonths 9 = .ok (.putfield 168, 3) := by decide +kernel
theorem dX9_goMonths_12 : decode cX9_goMonths 12 = .ok (.aload_n 0, 1) := by decide +kernel
theorem dX9_goMonths_13 : decode cX9_goMonths 13 = .ok (.iconst 0, 1) := by decide +kernel
theorem dX9_goMonths_14 : decode cX9_goMonths 14 = .ok (.putfield 156, 3) := by decide +kernel
theorem dX9_goMonths_17 : decode cX9_goMonths 17 = .ok (.aload_n 0, 1) := by decide +kernel
theorem dX9_goMonths_18 : decode cX9_goMonths 18 = .ok (.iconst 0, 1) := by decide +kernel
theorem dX9_goMonths_19 : decode cX9_goMonths 19 = .ok (.putfield 153, 3) := by decide +kernel
theorem dX9_goMonths_22 : decode cX9_goMonths 22 = .ok (.iconst 0, 1) := by decide +kernel
theorem dX9_goMonths_23 : decode cX9_goMonths 23 = .ok (.istore_n 1, 1) := by decide +kernel
theorem dX9_goMonths_24 : decode cX9_goMonths 24 = .ok (.iload_n 1, 1) := by decide +kernel
theorem dX9_goMonths_25 : decode cX9_goMonths 25 = .ok (.aload_n 0, 1) := by decide +kernel
theorem dX9_goMonths_26 : decode cX9_goMonths 26 = .ok (.getfield 108, 3) := by decide +kernel
theorem dX9_goMonths_29 : decode cX9_goMonths 29 = .ok (.if_icmp .ge 87, 3) := by decide +kernel
theorem dX9_goMonths_32 : decode cX9_goMonths 32 = .ok (.aload_n 0, 1) := by decide +kernel
theorem dX9_goMonths_33 : decode cX9_goMonths 33 = .ok (.getfield 165, 3) := by decide +kernel
theorem dX9_goMonths_36 : decode cX9_goMonths 36 = .ok (.ifCond .ge 80, 3) := by decide +kernel
theorem dX9_goMonths_39 : decode cX9_goMonths 39 = .ok (.aload_n 0, 1) := by decide +kernel
theorem dX9_goMonths_40 : decode cX9_goMonths 40 = .ok (.aload_n 0, 1) := by decide +kernel
theorem dX9_goMonths_41 : decode cX9_goMonths 41 = .ok (.getfield 31, 3) := by decide +kernel
theorem dX9_goMonths_44 : decode cX9_goMonths 44 = .ok (.iload_n 1, 1) := by decide +kernel
theorem dX9_goMonths_45 : decode cX9_goMonths 45 = .ok (.iaload, 1) := by decide +kernel
theorem dX9_goMonths_46 : decode cX9_goMonths 46 = .ok (.aload_n 0, 1) := by decide +kernel
theorem dX9_goMonths_47 : decode cX9_goMonths 47 = .ok (.getfield 34, 3) := by decide +kernel
theorem dX9_goMonths_50 : decode cX9_goMonths 50 = .ok (.iload_n 1, 1) := by decide +kernel
theorem dX9_goMonths_51 : decode cX9_goMonths 51 = .ok (.iaload, 1) := by decide +kernel
theorem dX9_goMonths_52 : decode cX9_goMonths 52 = .ok (.aload_n 0, 1) := by decide +kernel
theorem dX9_goMonths_53 : decode cX9_goMonths 53 = .ok (.getfield 37, 3) := by decide +kernel
theorem dX9_goMonths_56 : decode cX9_goMonths 56 = .ok (.iload_n 1, 1) := by decide +kernel
theorem dX9_goMonths_57 : decode cX9_goMonths 57 = .ok (.iaload, 1) := by decide +kernel
theorem dX9_goMonths_58 : decode cX9_goMonths 58 = .ok (.invokevirtual 171, 3) := by decide +kernel
theorem dX9_goMonths_61 : decode cX9_goMonths 61 = .ok (.istore_n 2, 1) := by decide +kernel
theorem dX9_goMonths_62 : decode cX9_goMonths 62 = .ok (.aload_n 0, 1) := by decide +kernel
theorem dX9_goMonths_63 : decode cX9_goMonths 63 = .ok (.iload_n 2, 1) := by decide +kernel
theorem dX9_goMonths_64 : decode cX9_goMonths 64 = .ok (.ifCond .le 7, 3) := by decide +kernel
theorem dX9_goMonths_67 : decode cX9_goMonths 67 = .ok (.iload_n 1, 1) := by decide +kernel
theorem dX9_goMonths_68 : decode cX9_goMonths 68 = .ok (.goto 5, 3) := by decide +kernel
theorem dX9_goMonths_71 : decode cX9_goMonths 71 = .ok (.bipush (-6), 2) := by decide +kernel
theorem dX9_goMonths_73 : decode cX9_goMonths 73 = .ok (.putfield 165, 3) := by decide +kernel
theorem dX9_goMonths_76 : decode cX9_goMonths 76 = .ok (.aload_n 0, 1) := by decide +kernel
theorem dX9_goMonths_77 : decode cX9_goMonths 77 = .ok (.iload_n 2, 1) := by decide +kernel
theorem dX9_goMonths_78 : decode cX9_goMonths 78 = .ok (.ifCond .le 7, 3) := by decide +kernel
theorem dX9_goMonths_81 : decode cX9_goMonths 81 = .ok (.iload_n 2, 1) := by decide +kernel
theorem dX9_goMonths_82 : decode cX9_goMonths 82 = .ok (.goto 5, 3) := by decide +kernel
theorem dX9_goMonths_85 : decode cX9_goMonths 85 = .ok (.bipush (-6), 2) := by decide +kernel
theorem dX9_goMonths_87 : decode cX9_goMonths 87 = .ok (.putfield 168, 3) := by decide +kernel
theorem dX9_goMonths_90 : decode cX9_goMonths 90 = .ok (.iload_n 2, 1) := by decide +kernel
theorem dX9_goMonths_91 : decode cX9_goMonths 91 = .ok (.ifCond .ne 19, 3) := by decide +kernel
theorem dX9_goMonths_94 : decode cX9_goMonths 94 = .ok (.aload_n 0, 1) := by decide +kernel
theorem dX9_goMonths_95 : decode cX9_goMonths 95 = .ok (.aload_n 0, 1) := by decide +kernel
theorem dX9_goMonths_96 : decode cX9_goMonths 96 = .ok (.getfield 31, 3) := by decide +kernel
theorem dX9_goMonths_99 : decode cX9_goMonths 99 = .ok (.iload_n 1, 1) := by decide +kernel
theorem dX9_goMonths_100 : decode cX9_goMonths 100 = .ok (.iaload, 1) := by decide +kernel
theorem dX9_goMonths_101 : decode cX9_goMonths 101 = .ok (.aload_n 0, 1) := by decide +kernel
theorem dX9_goMonths_102 : decode cX9_goMonths 102 = .ok (.getfield 34, 3) := by decide +kernel
theorem dX9_goMonths_105 : decode cX9_goMonths 105 = .ok (.iload_n 1, 1) := by decide +kernel
theorem dX9_goMonths_106 : decode cX9_goMonths 106 = .ok (.iaload, 1) := by decide +kernel
theorem dX9_goMonths_107 : decode cX9_goMonths 107 = .ok (.invokevirtual 175, 3) := by decide +kernel
theorem dX9_goMonths_110 : decode cX9_goMonths 110 = .ok (.iinc 1 1, 3) := by decide +kernel
theorem dX9_goMonths_113 : decode cX9_goMonths 113 = .ok (.goto (-89), 3) := by decide +kernel
theorem dX9_goMonths_116 : decode cX9_goMonths 116 = .ok (.return_, 1) := by decide +kernel
abbrev cxX9_goMonths (G : Rg) (X : Ct) : Prop := Cx G X cX9_goMonths 3 RX9 (none) 5 114 (Cond.code yX9_goMonths cX9_goMonths 3 (none))
def fX9_goMonths_b87 (nx24 : Int32 → Mm → Option (Unit × Mm))  (v1 : Int32) (v2 : Int32) (s1 : Int32) (M : Mm) : Option (Unit × Mm) :=
if v2 = (nI 0) then
(gd (inb v1 60) (
gd (inb v1 60) (
bd (fX9_happen ((sI M 0 20 s1).1 8 v1.toNatClampNeg) ((sI M 0 20 s1).1 9 v1.toNatClampNeg) (sI M 0 20 s1)) fun _ M4 =>
nx24 (v1 + (nI 1)) M4)))
else
(nx24 (v1 + (nI 1)) (sI M 0 20 s1))
set_option maxHeartbeats 4000000 in
set_option maxRecDepth 100000 in
theorem vX9_goMonths_b87 {G : Rg} {X : Ct} {r : Unit} {Mf : Mm}  {nx24 : Int32 → Mm → Option (Unit × Mm)} (C : cxX9_goMonths G X) (hG : gS G = shM)  (hx24 : ∀ (v1 : Int32) (M : Mm), nx24 v1 M = some (r, Mf) → V G X 3 none Mf 24 [(0, .ref (gA G 0)), (1, .int v1)] [] M) (v1 : Int32) (v2 : Int32) (s1 : Int32) (M : Mm) (hf : fX9_goMonths_b87 nx24 v1 v2 s1 M = some (r, Mf)) : V G X 3 none Mf 87 [(0, .ref (gA G 0)), (1, .int v1), (2, .int v2)] [.int s1, .ref (gA G 0)] M := by
  rw [fX9_goMonths_b87] at hf
  refine V.putI (pc := 87) C clX9 inX9 (sm_0 hG) 20 (by decide) wF_X9_168 tyX9 tyX9_ok nmX9 rfl (tyX9_ok 20 (by decide)) rfl dX9_goMonths_87 ?_
  refine V.iload_n (pc := 90) C 2 rfl dX9_goMonths_90 ?_
  rcases it_some hf with ⟨h1, hf⟩ | ⟨h1, hf⟩
  · refine V.if_neF (pc := 91) C 110 h1 (by decide) dX9_goMonths_91 ?_
    refine V.aload_n (pc := 94) C 0 rfl dX9_goMonths_94 ?_
    refine V.aload_n (pc := 95) C 0 rfl dX9_goMonths_95 ?_
    refine V.getR (pc := 96) C clX9 inX9 (sm_0 hG) 11 (by decide) wF_X9_31 rfl dX9_goMonths_96 ?_
    refine V.iload_n (pc := 99) C 1 rfl dX9_goMonths_99 ?_
    obtain ⟨g2, hf⟩ := gd_some hf
    refine V.iald (pc := 100) C (sm_8 hG) (inb_in g2) dX9_goMonths_100 ?_
    refine V.aload_n (pc := 101) C 0 rfl dX9_goMonths_101 ?_
    refine V.getR (pc := 102) C clX9 inX9 (sm_0 hG) 12 (by decide) wF_X9_34 rfl dX9_goMonths_102 ?_
    refine V.iload_n (pc := 105) C 1 rfl dX9_goMonths_105 ?_
    obtain ⟨g3, hf⟩ := gd_some hf
    refine V.iald (pc := 106) C (sm_9 hG) (inb_in g3) dX9_goMonths_106 ?_
    obtain ⟨_, M4, h4, hf⟩ := bd_some hf
    refine V.callVv (pc := 107) (As := [.int ((sI M 0 20 s1).1 8 v1.toNatClampNeg), .int ((sI M 0 20 s1).1 9 v1.toNatClampNeg)]) (rest := []) C (mX9_happen X.2.1 hG  h4) mf_X9_happen clX9 (sm_0 hG) wM_X9_175 rfl rfl ⟨by decide, by decide⟩ (Nat.le_of_ble_eq_true rfl) dX9_goMonths_107 ?_
    refine V.iinc (pc := 110) (lv' := [(1, .int (v1 + (nI 1))), (0, .ref (gA G 0)), (2, .int v2)]) C (v1 + (nI 1)) 1 rfl rfl (by decide) rfl dX9_goMonths_110 ?_
    refine V.goto (pc := 113) C 24 (by decide) dX9_goMonths_113 ?_
    refine V.sub C [1, 0] (lv' := [(0, .ref (gA G 0)), (1, .int (v1 + (nI 1)))]) rfl ?_
    exact hx24 _ _ hf
  · refine V.if_neT (pc := 91) C 110 h1 (by decide) dX9_goMonths_91 ?_
    refine V.iinc (pc := 110) (lv' := [(1, .int (v1 + (nI 1))), (0, .ref (gA G 0)), (2, .int v2)]) C (v1 + (nI 1)) 1 rfl rfl (by decide) rfl dX9_goMonths_110 ?_
    refine V.goto (pc := 113) C 24 (by decide) dX9_goMonths_113 ?_
    refine V.sub C [1, 0] (lv' := [(0, .ref (gA G 0)), (1, .int (v1 + (nI 1)))]) rfl ?_
    exact hx24 _ _ hf
def fX9_goMonths_b73 (nx24 : Int32 → Mm → Option (Unit × Mm))  (v1 : Int32) (v2 : Int32) (s1 : Int32) (M : Mm) : Option (Unit × Mm) :=
if v2 ≤ (nI 0) then
(fX9_goMonths_b87 nx24 v1 v2 (mI 6) (sI M 0 19 s1))
else
(fX9_goMonths_b87 nx24 v1 v2 v2 (sI M 0 19 s1))
set_option maxHeartbeats 4000000 in
set_option maxRecDepth 100000 in
theorem vX9_goMonths_b73 {G : Rg} {X : Ct} {r : Unit} {Mf : Mm}  {nx24 : Int32 → Mm → Option (Unit × Mm)} (C : cxX9_goMonths G X) (hG : gS G = shM)  (hx24 : ∀ (v1 : Int32) (M : Mm), nx24 v1 M = some (r, Mf) → V G X 3 none Mf 24 [(0, .ref (gA G 0)), (1, .int v1)] [] M) (v1 : Int32) (v2 : Int32) (s1 : Int32) (M : Mm) (hf : fX9_goMonths_b73 nx24 v1 v2 s1 M = some (r, Mf)) : V G X 3 none Mf 73 [(0, .ref (gA G 0)), (1, .int v1), (2, .int v2)] [.int s1, .ref (gA G 0)] M := by
  rw [fX9_goMonths_b73] at hf
  refine V.putI (pc := 73) C clX9 inX9 (sm_0 hG) 19 (by decide) wF_X9_165 tyX9 tyX9_ok nmX9 rfl (tyX9_ok 19 (by decide)) rfl dX9_goMonths_73 ?_
  refine V.aload_n (pc := 76) C 0 rfl dX9_goMonths_76 ?_
  refine V.iload_n (pc := 77) C 2 rfl dX9_goMonths_77 ?_
  rcases it_some hf with ⟨h1, hf⟩ | ⟨h1, hf⟩
  · refine V.if_leT (pc := 78) C 85 h1 (by decide) dX9_goMonths_78 ?_
    refine V.bipush (pc := 85) C (mI 6) (by decide) dX9_goMonths_85 ?_
    exact vX9_goMonths_b87 C hG  hx24  _ _ _ _ hf
  · refine V.if_leF (pc := 78) C 85 h1 (by decide) dX9_goMonths_78 ?_
    refine V.iload_n (pc := 81) C 2 rfl dX9_goMonths_81 ?_
    refine V.goto (pc := 82) C 87 (by decide) dX9_goMonths_82 ?_
    exact vX9_goMonths_b87 C hG  hx24  _ _ _ _ hf
def fX9_goMonths_b24   : Nat → Int32 → Mm → Option (Unit × Mm)
  | 0, _, _ => none
  | n + 1, v1, M =>
    if (M.1 0 14) ≤ v1 then
    (some ((), M))
    else
    (if (nI 0) ≤ (M.1 0 19) then
    (some ((), M))
    else
    (gd (inb v1 60) (
    gd (inb v1 60) (
    gd (inb v1 60) (
    bd (fX9_whyNot (M.1 8 v1.toNatClampNeg) (M.1 9 v1.toNatClampNeg) (M.1 10 v1.toNatClampNeg) M) fun r6 M6 =>
    if r6 ≤ (nI 0) then
    (fX9_goMonths_b73 (fX9_goMonths_b24  n) v1 r6 (mI 6) M6)
    else
    (fX9_goMonths_b73 (fX9_goMonths_b24  n) v1 r6 v1 M6))))))
set_option maxHeartbeats 4000000 in
set_option maxRecDepth 100000 in
theorem vX9_goMonths_b24 {G : Rg} {X : Ct} {r : Unit} {Mf : Mm}   (C : cxX9_goMonths G X) (hG : gS G = shM)   : ∀ (n : Nat) (v1 : Int32) (M : Mm), fX9_goMonths_b24 n v1 M = some (r, Mf) → V G X 3 none Mf 24 [(0, .ref (gA G 0)), (1, .int v1)] [] M := by
  intro n
  induction n with
  | zero => intro v1 M hf; rw [fX9_goMonths_b24] at hf; cases hf
  | succ n ih =>
    intro v1 M hf
    rw [fX9_goMonths_b24] at hf
    refine V.iload_n (pc := 24) C 1 rfl dX9_goMonths_24 ?_
    refine V.aload_n (pc := 25) C 0 rfl dX9_goMonths_25 ?_
    refine V.getI (pc := 26) C clX9 inX9 (sm_0 hG) 14 (by decide) wF_X9_108 rfl dX9_goMonths_26 ?_
    rcases it_some hf with ⟨h1, hf⟩ | ⟨h1, hf⟩
    · refine V.ic_geT (pc := 29) C 116 h1 (by decide) dX9_goMonths_29 ?_
      exact V.retV (pc := 116) C hf dX9_goMonths_116
    · refine V.ic_geF (pc := 29) C 116 h1 (by decide) dX9_goMonths_29 ?_
      refine V.aload_n (pc := 32) C 0 rfl dX9_goMonths_32 ?_
      refine V.getI (pc := 33) C clX9 inX9 (sm_0 hG) 19 (by decide) wF_X9_165 rfl dX9_goMonths_33 ?_
      rcases it_some hf with ⟨h2, hf⟩ | ⟨h2, hf⟩
      · refine V.if_geT (pc := 36) C 116 h2 (by decide) dX9_goMonths_36 ?_
        exact V.retV (pc := 116) C hf dX9_goMonths_116
      · refine V.if_geF (pc := 36) C 116 h2 (by decide) dX9_goMonths_36 ?_
        refine V.aload_n (pc := 39) C 0 rfl dX9_goMonths_39 ?_
        refine V.aload_n (pc := 40) C 0 rfl dX9_goMonths_40 ?_
        refine V.getR (pc := 41) C clX9 inX9 (sm_0 hG) 11 (by decide) wF_X9_31 rfl dX9_goMonths_41 ?_
        refine V.iload_n (pc := 44) C 1 rfl dX9_goMonths_44 ?_
        obtain ⟨g3, hf⟩ := gd_some hf
        refine V.iald (pc := 45) C (sm_8 hG) (inb_in g3) dX9_goMonths_45 ?_
        refine V.aload_n (pc := 46) C 0 rfl dX9_goMonths_46 ?_
        refine V.getR (pc := 47) C clX9 inX9 (sm_0 hG) 12 (by decide) wF_X9_34 rfl dX9_goMonths_47 ?_
        refine V.iload_n (pc := 50) C 1 rfl dX9_goMonths_50 ?_
        obtain ⟨g4, hf⟩ := gd_some hf
        refine V.iald (pc := 51) C (sm_9 hG) (inb_in g4) dX9_goMonths_51 ?_
        refine V.aload_n (pc := 52) C 0 rfl dX9_goMonths_52 ?_
        refine V.getR (pc := 53) C clX9 inX9 (sm_0 hG) 13 (by decide) wF_X9_37 rfl dX9_goMonths_53 ?_
        refine V.iload_n (pc := 56) C 1 rfl dX9_goMonths_56 ?_
        obtain ⟨g5, hf⟩ := gd_some hf
        refine V.iald (pc := 57) C (sm_10 hG) (inb_in g5) dX9_goMonths_57 ?_
        obtain ⟨r6, M6, h6, hf⟩ := bd_some hf
        refine V.callVi (pc := 58) (As := [.int (M.1 8 v1.toNatClampNeg), .int (M.1 9 v1.toNatClampNeg), .int (M.1 10 v1.toNatClampNeg)]) (rest := []) C (mX9_whyNot X.2.1 hG  h6) mf_X9_whyNot clX9 (sm_0 hG) wM_X9_171 rfl rfl ⟨by decide, by decide⟩ (Nat.le_of_ble_eq_true rfl) dX9_goMonths_58 ?_
        refine V.istore_n (pc := 61) (lv' := [(2, .int r6), (0, .ref (gA G 0)), (1, .int v1)]) C (by decide) rfl dX9_goMonths_61 ?_
        refine V.aload_n (pc := 62) C 1 rfl dX9_goMonths_62 ?_
        refine V.iload_n (pc := 63) C 0 rfl dX9_goMonths_63 ?_
        rcases it_some hf with ⟨h7, hf⟩ | ⟨h7, hf⟩
        · refine V.if_leT (pc := 64) C 71 h7 (by decide) dX9_goMonths_64 ?_
          refine V.bipush (pc := 71) C (mI 6) (by decide) dX9_goMonths_71 ?_
          refine V.sub C [1, 2, 0] (lv' := [(0, .ref (gA G 0)), (1, .int v1), (2, .int r6)]) rfl ?_
          exact vX9_goMonths_b73 C hG  ih  _ _ _ _ hf
        · refine V.if_leF (pc := 64) C 71 h7 (by decide) dX9_goMonths_64 ?_
          refine V.iload_n (pc := 67) C 2 rfl dX9_goMonths_67 ?_
          refine V.goto (pc := 68) C 73 (by decide) dX9_goMonths_68 ?_
          refine V.sub C [1, 2, 0] (lv' := [(0, .ref (gA G 0)), (1, .int v1), (2, .int r6)]) rfl ?_
          exact vX9_goMonths_b73 C hG  ih  _ _ _ _ hf
def fX9_goMonths  (M : Mm) : Option (Unit × Mm) :=
fX9_goMonths_b24 fu (nI 0) (sI (sI (sI (sI M 0 19 (mI 6)) 0 20 (mI 6)) 0 15 (nI 0)) 0 16 (nI 0))
set_option maxHeartbeats 4000000 in
set_option maxRecDepth 100000 in
theorem mX9_goMonths (l : Launch) {G : Rg} (hG : gS G = shM)   {M Mf : Mm} {r : Unit} (hf : fX9_goMonths  M = some (r, Mf)) : Mt l G yX9_goMonths cX9_goMonths 3 (none) 5 114 [.ref (gA G 0)] M none Mf := by
  refine Mt.of (by decide) (Nat.le_of_ble_eq_true rfl) ?_
  intro X C hX
  subst hX
  have C : cxX9_goMonths G X := C
  show V G X 3 none Mf 0 [(0, .ref (gA G 0))] [] M
  rw [fX9_goMonths] at hf
  refine V.aload_n (pc := 0) C 0 rfl dX9_goMonths_0 ?_
  refine V.bipush (pc := 1) C (mI 6) (by decide) dX9_goMonths_1 ?_
  refine V.putI (pc := 3) C clX9 inX9 (sm_0 hG) 19 (by decide) wF_X9_165 tyX9 tyX9_ok nmX9 rfl (tyX9_ok 19 (by decide)) rfl dX9_goMonths_3 ?_
  refine V.aload_n (pc := 6) C 0 rfl dX9_goMonths_6 ?_
  refine V.bipush (pc := 7) C (mI 6) (by decide) dX9_goMonths_7 ?_
  refine V.putI (pc := 9) C clX9 inX9 (sm_0 hG) 20 (by decide) wF_X9_168 tyX9 tyX9_ok nmX9 rfl (tyX9_ok 20 (by decide)) rfl dX9_goMonths_9 ?_
  refine V.aload_n (pc := 12) C 0 rfl dX9_goMonths_12 ?_
  refine V.iconst (pc := 13) C (nI 0) (by decide) dX9_goMonths_13 ?_
  refine V.putI (pc := 14) C clX9 inX9 (sm_0 hG) 15 (by decide) wF_X9_156 tyX9 tyX9_ok nmX9 rfl (tyX9_ok 15 (by decide)) rfl dX9_goMonths_14 ?_
  refine V.aload_n (pc := 17) C 0 rfl dX9_goMonths_17 ?_
  refine V.iconst (pc := 18) C (nI 0) (by decide) dX9_goMonths_18 ?_
  refine V.putI (pc := 19) C clX9 inX9 (sm_0 hG) 16 (by decide) wF_X9_153 tyX9 tyX9_ok nmX9 rfl (tyX9_ok 16 (by decide)) rfl dX9_goMonths_19 ?_
  refine V.iconst (pc := 22) C (nI 0) (by decide) dX9_goMonths_22 ?_
  refine V.istore_n (pc := 23) (lv' := [(1, .int (nI 0)), (0, .ref (gA G 0))]) C (by decide) rfl dX9_goMonths_23 ?_
  refine V.sub C [1, 0] (lv' := [(0, .ref (gA G 0)), (1, .int (nI 0))]) rfl ?_
  exact vX9_goMonths_b24 C hG   fu _ _ hf
theorem dX9_sumOpen_0 : decode cX9_sumOpen 0 = .ok (.iconst 0, 1) := by decide +kernel
theorem dX9_sumOpen_1 : decode cX9_sumOpen 1 = .ok (.istore_n 2, 1) := by decide +kernel
theorem dX9_sumOpen_2 : decode cX9_sumOpen 2 = .ok (.iload_n 1, 1) := by decide +kernel
theorem dX9_sumOpen_3 : decode cX9_sumOpen 3 = .ok (.istore_n 3, 1) := by decide +kernel
theorem dX9_sumOpen_4 : decode cX9_sumOpen 4 = .ok (.iload_n 3, 1) := by decide +kernel
theorem dX9_sumOpen_5 : decode cX9_sumOpen 5 = .ok (.iload_n 1, 1) := by decide +kernel
theorem dX9_sumOpen_6 : decode cX9_sumOpen 6 = .ok (.bipush 6, 2) := by decide +kernel
theorem dX9_sumOpen_8 : decode cX9_sumOpen 8 = .ok (.iadd, 1) := by decide +kernel
theorem dX9_sumOpen_9 : decode cX9_sumOpen 9 = .ok (.if_icmp .ge 29, 3) := by decide +kernel
theorem dX9_sumOpen_12 : decode cX9_sumOpen 12 = .ok (.iload_n 2, 1) := by decide +kernel
theorem dX9_sumOpen_13 : decode cX9_sumOpen 13 = .ok (.aload_n 0, 1) := by decide +kernel
theorem dX9_sumOpen_14 : decode cX9_sumOpen 14 = .ok (.iload_n 3, 1) := by decide +kernel
theorem dX9_sumOpen_15 : decode cX9_sumOpen 15 = .ok (.invokevirtual 134, 3) := by decide +kernel
theorem dX9_sumOpen_18 : decode cX9_sumOpen 18 = .ok (.ifCond .eq 11, 3) := by decide +kernel
theorem dX9_sumOpen_21 : decode cX9_sumOpen 21 = .ok (.aload_n 0, 1) := by decide +kernel
theorem dX9_sumOpen_22 : decode cX9_sumOpen 22 = .ok (.iload_n 3, 1) := by decide +kernel
theorem dX9_sumOpen_23 : decode cX9_sumOpen 23 = .ok (.invokevirtual 131, 3) := by decide +kernel
theorem dX9_sumOpen_26 : decode cX9_sumOpen 26 = .ok (.goto 4, 3) := by decide +kernel
theorem dX9_sumOpen_29 : decode cX9_sumOpen 29 = .ok (.iconst 0, 1) := by decide +kernel
theorem dX9_sumOpen_30 : decode cX9_sumOpen 30 = .ok (.iadd, 1) := by decide +kernel
theorem dX9_sumOpen_31 : decode cX9_sumOpen 31 = .ok (.istore_n 2, 1) := by decide +kernel
theorem dX9_sumOpen_32 : decode cX9_sumOpen 32 = .ok (.iinc 3 1, 3) := by decide +kernel
theorem dX9_sumOpen_35 : decode cX9_sumOpen 35 = .ok (.goto (-31), 3) := by decide +kernel
theorem dX9_sumOpen_38 : decode cX9_sumOpen 38 = .ok (.iload_n 2, 1) := by decide +kernel
theorem dX9_sumOpen_39 : decode cX9_sumOpen 39 = .ok (.ireturn, 1) := by decide +kernel
abbrev cxX9_sumOpen (G : Rg) (X : Ct) : Prop := Cx G X cX9_sumOpen 4 RX9 (some .int) 3 67 (Cond.code yX9_sumOpen cX9_sumOpen 4 (some .int))
def fX9_sumOpen_b4   : Nat → Int32 → Int32 → Int32 → Mm → Option (Int32 × Mm)
  | 0, _, _, _, _ => none
  | n + 1, v1, v2, v3, M =>
    if (v1 + (nI 6)) ≤ v3 then
    (some (v2, M))
    else
    (bd (fX9_isOpen v3 M) fun r2 M2 =>
    if r2 = (nI 0) then
    (fX9_sumOpen_b4  n v1 (v2 + (nI 0)) (v3 + (nI 1)) M2)
    else
    (bd (fX9_rateOf v3 M2) fun r4 M4 =>
    fX9_sumOpen_b4  n v1 (v2 + r4) (v3 + (nI 1)) M4))
set_option maxHeartbeats 4000000 in
set_option maxRecDepth 100000 in
theorem vX9_sumOpen_b4 {G : Rg} {X : Ct} {r : Int32} {Mf : Mm}   (C : cxX9_sumOpen G X) (hG : gS G = shM)   : ∀ (n : Nat) (v1 : Int32) (v2 : Int32) (v3 : Int32) (M : Mm), fX9_sumOpen_b4 n v1 v2 v3 M = some (r, Mf) → V G X 4 (some (.int r)) Mf 4 [(0, .ref (gA G 0)), (1, .int v1), (2, .int v2), (3, .int v3)] [] M := by
  intro n
  induction n with
  | zero => intro v1 v2 v3 M hf; rw [fX9_sumOpen_b4] at hf; cases hf
  | succ n ih =>
    intro v1 v2 v3 M hf
    rw [fX9_sumOpen_b4] at hf
    refine V.iload_n (pc := 4) C 3 rfl dX9_sumOpen_4 ?_
    refine V.iload_n (pc := 5) C 1 rfl dX9_sumOpen_5 ?_
    refine V.bipush (pc := 6) C (nI 6) (by decide) dX9_sumOpen_6 ?_
    refine V.iadd (pc := 8) C dX9_sumOpen_8 ?_
    rcases it_some hf with ⟨h1, hf⟩ | ⟨h1, hf⟩
    · refine V.ic_geT (pc := 9) C 38 h1 (by decide) dX9_sumOpen_9 ?_
      refine V.iload_n (pc := 38) C 2 rfl dX9_sumOpen_38 ?_
      exact V.retI (pc := 39) C hf dX9_sumOpen_39
    · refine V.ic_geF (pc := 9) C 38 h1 (by decide) dX9_sumOpen_9 ?_
      refine V.iload_n (pc := 12) C 2 rfl dX9_sumOpen_12 ?_
      refine V.aload_n (pc := 13) C 0 rfl dX9_sumOpen_13 ?_
      refine V.iload_n (pc := 14) C 3 rfl dX9_sumOpen_14 ?_
      obtain ⟨r2, M2, h2, hf⟩ := bd_some hf
      refine V.callVi (pc := 15) (As := [.int v3]) (rest := [.int v2]) C (mX9_isOpen X.2.1 hG  h2) mf_X9_isOpen clX9 (sm_0 hG) wM_X9_134 rfl rfl ⟨by decide, by decide⟩ (Nat.le_of_ble_eq_true rfl) dX9_sumOpen_15 ?_
      rcases it_some hf with ⟨h3, hf⟩ | ⟨h3, hf⟩
      · refine V.if_eqT (pc := 18) C 29 h3 (by decide) dX9_sumOpen_18 ?_
        refine V.iconst (pc := 29) C (nI 0) (by decide) dX9_sumOpen_29 ?_
        refine V.iadd (pc := 30) C dX9_sumOpen_30 ?_
        refine V.istore_n (pc := 31) (lv' := [(2, .int (v2 + (nI 0))), (0, .ref (gA G 0)), (1, .int v1), (3, .int v3)]) C (by decide) rfl dX9_sumOpen_31 ?_
        refine V.iinc (pc := 32) (lv' := [(3, .int (v3 + (nI 1))), (2, .int (v2 + (nI 0))), (0, .ref (gA G 0)), (1, .int v1)]) C (v3 + (nI 1)) 3 rfl rfl (by decide) rfl dX9_sumOpen_32 ?_
        refine V.goto (pc := 35) C 4 (by decide) dX9_sumOpen_35 ?_
        refine V.sub C [2, 3, 1, 0] (lv' := [(0, .ref (gA G 0)), (1, .int v1), (2, .int (v2 + (nI 0))), (3, .int (v3 + (nI 1)))]) rfl ?_
        exact ih _ _ _ _ hf
      · refine V.if_eqF (pc := 18) C 29 h3 (by decide) dX9_sumOpen_18 ?_
        refine V.aload_n (pc := 21) C 0 rfl dX9_sumOpen_21 ?_
        refine V.iload_n (pc := 22) C 3 rfl dX9_sumOpen_22 ?_
        obtain ⟨r4, M4, h4, hf⟩ := bd_some hf
        refine V.callVi (pc := 23) (As := [.int v3]) (rest := [.int v2]) C (mX9_rateOf X.2.1 hG  h4) mf_X9_rateOf clX9 (sm_0 hG) wM_X9_131 rfl rfl ⟨by decide, by decide⟩ (Nat.le_of_ble_eq_true rfl) dX9_sumOpen_23 ?_
        refine V.goto (pc := 26) C 30 (by decide) dX9_sumOpen_26 ?_
        refine V.iadd (pc := 30) C dX9_sumOpen_30 ?_
        refine V.istore_n (pc := 31) (lv' := [(2, .int (v2 + r4)), (0, .ref (gA G 0)), (1, .int v1), (3, .int v3)]) C (by decide) rfl dX9_sumOpen_31 ?_
        refine V.iinc (pc := 32) (lv' := [(3, .int (v3 + (nI 1))), (2, .int (v2 + r4)), (0, .ref (gA G 0)), (1, .int v1)]) C (v3 + (nI 1)) 3 rfl rfl (by decide) rfl dX9_sumOpen_32 ?_
        refine V.goto (pc := 35) C 4 (by decide) dX9_sumOpen_35 ?_
        refine V.sub C [2, 3, 1, 0] (lv' := [(0, .ref (gA G 0)), (1, .int v1), (2, .int (v2 + r4)), (3, .int (v3 + (nI 1)))]) rfl ?_
        exact ih _ _ _ _ hf
def fX9_sumOpen (x1 : Int32) (M : Mm) : Option (Int32 × Mm) :=
fX9_sumOpen_b4 fu x1 (nI 0) x1 M
set_option maxHeartbeats 4000000 in
set_option maxRecDepth 100000 in
theorem mX9_sumOpen (l : Launch) {G : Rg} (hG : gS G = shM) {x1 : Int32}  {M Mf : Mm} {r : Int32} (hf : fX9_sumOpen x1 M = some (r, Mf)) : Mt l G yX9_sumOpen cX9_sumOpen 4 (some .int) 3 67 [.ref (gA G 0), .int x1] M (some (.int r)) Mf := by
  refine Mt.of (by decide) (Nat.le_of_ble_eq_true rfl) ?_
  intro X C hX
  subst hX
  have C : cxX9_sumOpen G X := C
  show V G X 4 (some (.int r)) Mf 0 [(0, .ref (gA G 0)), (1, .int x1)] [] M
  rw [fX9_sumOpen] at hf
  refine V.iconst (pc := 0) C (nI 0) (by decide) dX9_sumOpen_0 ?_
  refine V.istore_n (pc := 1) (lv' := [(2, .int (nI 0)), (0, .ref (gA G 0)), (1, .int x1)]) C (by decide) rfl dX9_sumOpen_1 ?_
  refine V.iload_n (pc := 2) C 2 rfl dX9_sumOpen_2 ?_
  refine V.istore_n (pc := 3) (lv' := [(3, .int x1), (2, .int (nI 0)), (0, .ref (gA G 0)), (1, .int x1)]) C (by decide) rfl dX9_sumOpen_3 ?_
  refine V.sub C [2, 3, 1, 0] (lv' := [(0, .ref (gA G 0)), (1, .int x1), (2, .int (nI 0)), (3, .int x1)]) rfl ?_
  exact vX9_sumOpen_b4 C hG   fu _ _ _ _ hf
theorem dX9_lay_0 : decode cX9_lay 0 = .ok (.iconst 0, 1) := by decide +kernel
theorem dX9_lay_1 : decode cX9_lay 1 = .ok (.istore_n 2, 1) := by decide +kernel
theorem dX9_lay_2 : decode cX9_lay 2 = .ok (.iload_n 2, 1) := by decide +kernel
theorem dX9_lay_3 : decode cX9_lay 3 = .ok (.bipush 12, 2) := by decide +kernel
theorem dX9_lay_5 : decode cX9_lay 5 = .ok (.if_icmp .ge 30, 3) := by decide +kernel
theorem dX9_lay_8 : decode cX9_lay 8 = .ok (.aload_n 0, 1) := by decide +kernel
theorem dX9_lay_9 : decode cX9_lay 9 = .ok (.getfield 13, 3) := by decide +kernel
theorem dX9_lay_12 : decode cX9_lay 12 = .ok (.iload_n 2, 1) := by decide +kernel
theorem dX9_lay_13 : decode cX9_lay 13 = .ok (.aload_n 1, 1) := by decide +kernel
theorem dX9_lay_14 : decode cX9_lay 14 = .ok (.iload_n 2, 1) := by decide +kernel
theorem dX9_lay_15 : decode cX9_lay 15 = .ok (.iaload, 1) := by decide +kernel
theorem dX9_lay_16 : decode cX9_lay 16 = .ok (.iastore, 1) := by decide +kernel
theorem dX9_lay_17 : decode cX9_lay 17 = .ok (.aload_n 0, 1) := by decide +kernel
theorem dX9_lay_18 : decode cX9_lay 18 = .ok (.getfield 7, 3) := by decide +kernel
theorem dX9_lay_21 : decode cX9_lay 21 = .ok (.iload_n 2, 1) := by decide +kernel
theorem dX9_lay_22 : decode cX9_lay 22 = .ok (.aload_n 1, 1) := by decide +kernel
theorem dX9_lay_23 : decode cX9_lay 23 = .ok (.bipush 12, 2) := by decide +kernel
theorem dX9_lay_25 : decode cX9_lay 25 = .ok (.iload_n 2, 1) := by decide +kernel
theorem dX9_lay_26 : decode cX9_lay 26 = .ok (.iadd, 1) := by decide +kernel
theorem dX9_lay_27 : decode cX9_lay 27 = .ok (.iaload, 1) := by decide +kernel
theorem dX9_lay_28 : decode cX9_lay 28 = .ok (.iastore, 1) := by decide +kernel
theorem dX9_lay_29 : decode cX9_lay 29 = .ok (.iinc 2 1, 3) := by decide +kernel
theorem dX9_lay_32 : decode cX9_lay 32 = .ok (.goto (-30), 3) := by decide +kernel
theorem dX9_lay_35 : decode cX9_lay 35 = .ok (.aload_n 0, 1) := by decide +kernel
theorem dX9_lay_36 : decode cX9_lay 36 = .ok (.aload_n 1, 1) := by decide +kernel
theorem dX9_lay_37 : decode cX9_lay 37 = .ok (.bipush 24, 2) := by decide +kernel
theorem dX9_lay_39 : decode cX9_lay 39 = .ok (.iaload, 1) := by decide +kernel
theorem dX9_lay_40 : decode cX9_lay 40 = .ok (.putfield 63, 3) := by decide +kernel
theorem dX9_lay_43 : decode cX9_lay 43 = .ok (.return_, 1) := by decide +kernel
abbrev cxX9_lay (G : Rg) (X : Ct) : Prop := Cx G X cX9_lay 3 RX9 (none) 0 0 (Cond.code yX9_lay cX9_lay 3 (none))
def fX9_lay_b2  (c1 : Nat) : Nat → Int32 → Mm → Option (Unit × Mm)
  | 0, _, _ => none
  | n + 1, v2, M =>
    if (nI 12) ≤ v2 then
    (some ((), (sI M 0 1 (M.1 c1 (nI 24).toNatClampNeg))))
    else
    (gd (inb v2 25) (
    gd (inb v2 12) (
    gd (inb ((nI 12) + v2) 25) (
    gd (inb v2 12) (
    fX9_lay_b2 c1 n (v2 + (nI 1)) (sI (sI M 2 v2.toNatClampNeg (M.1 c1 v2.toNatClampNeg)) 1 v2.toNatClampNeg ((sI M 2 v2.toNatClampNeg (M.1 c1 v2.toNatClampNeg)).1 c1 ((nI 12) + v2).toNatClampNeg)))))))
set_option maxHeartbeats 4000000 in
set_option maxRecDepth 100000 in
theorem vX9_lay_b2 {G : Rg} {X : Ct} {r : Unit} {Mf : Mm} {c1 : Nat}  (C : cxX9_lay G X) (hG : gS G = shM) (hA1 : (gS G)[c1]? = some (.inl (0, 25)))  : ∀ (n : Nat) (v2 : Int32) (M : Mm), fX9_lay_b2 c1 n v2 M = some (r, Mf) → V G X 3 none Mf 2 [(0, .ref (gA G 0)), (1, .ref (gA G c1)), (2, .int v2)] [] M := by
  intro n
  induction n with
  | zero => intro v2 M hf; rw [fX9_lay_b2] at hf; cases hf
  | succ n ih =>
    intro v2 M hf
    rw [fX9_lay_b2] at hf
    refine V.iload_n (pc := 2) C 2 rfl dX9_lay_2 ?_
    refine V.bipush (pc := 3) C (nI 12) (by decide) dX9_lay_3 ?_
    rcases it_some hf with ⟨h1, hf⟩ | ⟨h1, hf⟩
    · refine V.ic_geT (pc := 5) C 35 h1 (by decide) dX9_lay_5 ?_
      refine V.aload_n (pc := 35) C 0 rfl dX9_lay_35 ?_
      refine V.aload_n (pc := 36) C 1 rfl dX9_lay_36 ?_
      refine V.bipush (pc := 37) C (nI 24) (by decide) dX9_lay_37 ?_
      refine V.iald (pc := 39) C hA1 (inb_in (by decide)) dX9_lay_39 ?_
      refine V.putI (pc := 40) C clX9 inX9 (sm_0 hG) 1 (by decide) wF_X9_63 tyX9 tyX9_ok nmX9 rfl (tyX9_ok 1 (by decide)) rfl dX9_lay_40 ?_
      exact V.retV (pc := 43) C hf dX9_lay_43
    · refine V.ic_geF (pc := 5) C 35 h1 (by decide) dX9_lay_5 ?_
      refine V.aload_n (pc := 8) C 0 rfl dX9_lay_8 ?_
      refine V.getR (pc := 9) C clX9 inX9 (sm_0 hG) 3 (by decide) wF_X9_13 rfl dX9_lay_9 ?_
      refine V.iload_n (pc := 12) C 2 rfl dX9_lay_12 ?_
      refine V.aload_n (pc := 13) C 1 rfl dX9_lay_13 ?_
      refine V.iload_n (pc := 14) C 2 rfl dX9_lay_14 ?_
      obtain ⟨g2, hf⟩ := gd_some hf
      refine V.iald (pc := 15) C hA1 (inb_in g2) dX9_lay_15 ?_
      obtain ⟨g3, hf⟩ := gd_some hf
      refine V.iast (pc := 16) C (sm_2 hG) (inb_in g3) dX9_lay_16 ?_
      refine V.aload_n (pc := 17) C 0 rfl dX9_lay_17 ?_
      refine V.getR (pc := 18) C clX9 inX9 (sm_0 hG) 2 (by decide) wF_X9_7 rfl dX9_lay_18 ?_
      refine V.iload_n (pc := 21) C 2 rfl dX9_lay_21 ?_
      refine V.aload_n (pc := 22) C 1 rfl dX9_lay_22 ?_
      refine V.bipush (pc := 23) C (nI 12) (by decide) dX9_lay_23 ?_
      refine V.iload_n (pc := 25) C 2 rfl dX9_lay_25 ?_
      refine V.iadd (pc := 26) C dX9_lay_26 ?_
      obtain ⟨g4, hf⟩ := gd_some hf
      refine V.iald (pc := 27) C hA1 (inb_in g4) dX9_lay_27 ?_
      obtain ⟨g5, hf⟩ := gd_some hf
      refine V.iast (pc := 28) C (sm_1 hG) (inb_in g5) dX9_lay_28 ?_
      refine V.iinc (pc := 29) (lv' := [(2, .int (v2 + (nI 1))), (0, .ref (gA G 0)), (1, .ref (gA G c1))]) C (v2 + (nI 1)) 2 rfl rfl (by decide) rfl dX9_lay_29 ?_
      refine V.goto (pc := 32) C 2 (by decide) dX9_lay_32 ?_
      refine V.sub C [1, 2, 0] (lv' := [(0, .ref (gA G 0)), (1, .ref (gA G c1)), (2, .int (v2 + (nI 1)))]) rfl ?_
      exact ih _ _ hf
def fX9_lay (c1 : Nat) (M : Mm) : Option (Unit × Mm) :=
fX9_lay_b2 c1 fu (nI 0) M
set_option maxHeartbeats 4000000 in
set_option maxRecDepth 100000 in
theorem mX9_lay (l : Launch) {G : Rg} (hG : gS G = shM) {c1 : Nat} (hA1 : (gS G)[c1]? = some (.inl (0, 25))) {M Mf : Mm} {r : Unit} (hf : fX9_lay c1 M = some (r, Mf)) : Mt l G yX9_lay cX9_lay 3 (none) 0 0 [.ref (gA G 0), .ref (gA G c1)] M none Mf := by
  refine Mt.of (by decide) (Nat.le_of_ble_eq_true rfl) ?_
  intro X C hX
  subst hX
  have C : cxX9_lay G X := C
  show V G X 3 none Mf 0 [(0, .ref (gA G 0)), (1, .ref (gA G c1))] [] M
  rw [fX9_lay] at hf
  refine V.iconst (pc := 0) C (nI 0) (by decide) dX9_lay_0 ?_
  refine V.istore_n (pc := 1) (lv' := [(2, .int (nI 0)), (0, .ref (gA G 0)), (1, .ref (gA G c1))]) C (by decide) rfl dX9_lay_1 ?_
  refine V.sub C [1, 2, 0] (lv' := [(0, .ref (gA G 0)), (1, .ref (gA G c1)), (2, .int (nI 0))]) rfl ?_
  exact vX9_lay_b2 C hG hA1  fu _ _ hf
theorem dX9_refusal_0 : decode cX9_refusal 0 = .ok (.aload_n 0, 1) := by decide +kernel
theorem dX9_refusal_1 : decode cX9_refusal 1 = .ok (.invokevirtual 179, 3) := by decide +kernel
theorem dX9_refusal_4 : decode cX9_refusal 4 = .ok (.ifCond .lt 6, 3) := by decide +kernel
theorem dX9_refusal_7 : decode cX9_refusal 7 = .ok (.bipush (-5), 2) := by decide +kernel
theorem dX9_refusal_9 : decode cX9_refusal 9 = .ok (.ireturn, 1) := by decide +kernel
theorem dX9_refusal_10 : decode cX9_refusal 10 = .ok (.aload_n 0, 1) := by decide +kernel
theorem dX9_refusal_11 : decode cX9_refusal 11 = .ok (.aload_n 0, 1) := by decide +kernel
theorem dX9_refusal_12 : decode cX9_refusal 12 = .ok (.getfield 40, 3) := by decide +kernel
theorem dX9_refusal_15 : decode cX9_refusal 15 = .ok (.invokevirtual 183, 3) := by decide +kernel
theorem dX9_refusal_18 : decode cX9_refusal 18 = .ok (.aload_n 0, 1) := by decide +kernel
theorem dX9_refusal_19 : decode cX9_refusal 19 = .ok (.invokevirtual 187, 3) := by decide +kernel
theorem dX9_refusal_22 : decode cX9_refusal 22 = .ok (.aload_n 0, 1) := by decide +kernel
theorem dX9_refusal_23 : decode cX9_refusal 23 = .ok (.aload_n 0, 1) := by decide +kernel
theorem dX9_refusal_24 : decode cX9_refusal 24 = .ok (.getfield 43, 3) := by decide +kernel
theorem dX9_refusal_27 : decode cX9_refusal 27 = .ok (.invokevirtual 183, 3) := by decide +kernel
theorem dX9_refusal_30 : decode cX9_refusal 30 = .ok (.aload_n 0, 1) := by decide +kernel
theorem dX9_refusal_31 : decode cX9_refusal 31 = .ok (.aload_n 0, 1) := by decide +kernel
theorem dX9_refusal_32 : decode cX9_refusal 32 = .ok (.iconst 0, 1) := by decide +kernel
theorem dX9_refusal_33 : decode cX9_refusal 33 = .ok (.invokevirtual 190, 3) := by decide +kernel
theorem dX9_refusal_36 : decode cX9_refusal 36 = .ok (.putfield 193, 3) := by decide +kernel
theorem dX9_refusal_39 : decode cX9_refusal 39 = .ok (.aload_n 0, 1) := by decide +kernel
theorem dX9_refusal_40 : decode cX9_refusal 40 = .ok (.aload_n 0, 1) := by decide +kernel
theorem dX9_refusal_41 : decode cX9_refusal 41 = .ok (.bipush 6, 2) := by decide +kernel
theorem dX9_refusal_43 : decode cX9_refusal 43 = .ok (.invokevirtual 190, 3) := by decide +kernel
theorem dX9_refusal_46 : decode cX9_refusal 46 = .ok (.putfield 196, 3) := by decide +kernel
theorem dX9_refusal_49 : decode cX9_refusal 49 = .ok (.aload_n 0, 1) := by decide +kernel
theorem dX9_refusal_50 : decode cX9_refusal 50 = .ok (.aload_n 0, 1) := by decide +kernel
theorem dX9_refusal_51 : decode cX9_refusal 51 = .ok (.getfield 40, 3) := by decide +kernel
theorem dX9_refusal_54 : decode cX9_refusal 54 = .ok (.invokevirtual 199, 3) := by decide +kernel
theorem dX9_refusal_57 : decode cX9_refusal 57 = .ok (.aload_n 0, 1) := by decide +kernel
theorem dX9_refusal_58 : decode cX9_refusal 58 = .ok (.getfield 165, 3) := by decide +kernel
theorem dX9_refusal_61 : decode cX9_refusal 61 = .ok (.ifCond .lt 8, 3) := by decide +kernel
theorem dX9_refusal_64 : decode cX9_refusal 64 = .ok (.bipush (-3), 2) := by decide +kernel
theorem dX9_refusal_66 : decode cX9_refusal 66 = .ok (.goto 5, 3) := by decide +kernel
theorem dX9_refusal_69 : decode cX9_refusal 69 = .ok (.bipush (-6), 2) := by decide +kernel
theorem dX9_refusal_71 : decode cX9_refusal 71 = .ok (.ireturn, 1) := by decide +kernel
abbrev cxX9_refusal (G : Rg) (X : Ct) : Prop := Cx G X cX9_refusal 1 RX9 (some .int) 6 136 (Cond.code yX9_refusal cX9_refusal 1 (some .int))
def fX9_refusal  (M : Mm) : Option (Int32 × Mm) :=
bd (fX9_fault M) fun r1 M1 =>
if r1 < (nI 0) then
(bd (fX9_store 11 M1) fun _ M3 =>
bd (fX9_goMonths M3) fun _ M4 =>
bd (fX9_store 12 M4) fun _ M5 =>
bd (fX9_sumOpen (nI 0) M5) fun r6 M6 =>
bd (fX9_sumOpen (nI 6) (sI M6 0 21 r6)) fun r7 M7 =>
bd (fX9_lay 11 (sI M7 0 22 r7)) fun _ M8 =>
if (M8.1 0 19) < (nI 0) then
(some ((mI 6), M8))
else
(some ((mI 3), M8)))
else
(some ((mI 5), M1))
set_option maxHeartbeats 4000000 in
set_option maxRecDepth 100000 in
theorem mX9_refusal (l : Launch) {G : Rg} (hG : gS G = shM)   {M Mf : Mm} {r : Int32} (hf : fX9_refusal  M = some (r, Mf)) : Mt l G yX9_refusal cX9_refusal 1 (some .int) 6 136 [.ref (gA G 0)] M (some (.int r)) Mf := by
  refine Mt.of (by decide) (Nat.le_of_ble_eq_true rfl) ?_
  intro X C hX
  subst hX
  have C : cxX9_refusal G X := C
  show V G X 1 (some (.int r)) Mf 0 [(0, .ref (gA G 0))] [] M
  rw [fX9_refusal] at hf
  refine V.aload_n (pc := 0) C 0 rfl dX9_refusal_0 ?_
  obtain ⟨r1, M1, h1, hf⟩ := bd_some hf
  refine V.callVi (pc := 1) (As := []) (rest := []) C (mX9_fault X.2.1 hG  h1) mf_X9_fault clX9 (sm_0 hG) wM_X9_179 rfl rfl ⟨by decide, by decide⟩ (Nat.le_of_ble_eq_true rfl) dX9_refusal_1 ?_
  rcases it_some hf with ⟨h2, hf⟩ | ⟨h2, hf⟩
  · refine V.if_ltT (pc := 4) C 10 h2 (by decide) dX9_refusal_4 ?_
    refine V.aload_n (pc := 10) C 0 rfl dX9_refusal_10 ?_
    refine V.aload_n (pc := 11) C 0 rfl dX9_refusal_11 ?_
    refine V.getR (pc := 12) C clX9 inX9 (sm_0 hG) 17 (by decide) wF_X9_40 rfl dX9_refusal_12 ?_
    obtain ⟨_, M3, h3, hf⟩ := bd_some hf
    refine V.callVv (pc := 15) (As := [.ref (gA G 11)]) (rest := []) C (mX9_store X.2.1 hG (sm_11 hG) h3) mf_X9_store clX9 (sm_0 hG) wM_X9_183 rfl rfl ⟨by decide, by decide⟩ (Nat.le_of_ble_eq_true rfl) dX9_refusal_15 ?_
    refine V.aload_n (pc := 18) C 0 rfl dX9_refusal_18 ?_
    obtain ⟨_, M4, h4, hf⟩ := bd_some hf
    refine V.callVv (pc := 19) (As := []) (rest := []) C (mX9_goMonths X.2.1 hG  h4) mf_X9_goMonths clX9 (sm_0 hG) wM_X9_187 rfl rfl ⟨by decide, by decide⟩ (Nat.le_of_ble_eq_true rfl) dX9_refusal_19 ?_
    refine V.aload_n (pc := 22) C 0 rfl dX9_refusal_22 ?_
    refine V.aload_n (pc := 23) C 0 rfl dX9_refusal_23 ?_
    refine V.getR (pc := 24) C clX9 inX9 (sm_0 hG) 18 (by decide) wF_X9_43 rfl dX9_refusal_24 ?_
    obtain ⟨_, M5, h5, hf⟩ := bd_some hf
    refine V.callVv (pc := 27) (As := [.ref (gA G 12)]) (rest := []) C (mX9_store X.2.1 hG (sm_12 hG) h5) mf_X9_store clX9 (sm_0 hG) wM_X9_183 rfl rfl ⟨by decide, by decide⟩ (Nat.le_of_ble_eq_true rfl) dX9_refusal_27 ?_
    refine V.aload_n (pc := 30) C 0 rfl dX9_refusal_30 ?_
    refine V.aload_n (pc := 31) C 0 rfl dX9_refusal_31 ?_
    refine V.iconst (pc := 32) C (nI 0) (by decide) dX9_refusal_32 ?_
    obtain ⟨r6, M6, h6, hf⟩ := bd_some hf
    refine V.callVi (pc := 33) (As := [.int (nI 0)]) (rest := [.ref (gA G 0)]) C (mX9_sumOpen X.2.1 hG  h6) mf_X9_sumOpen clX9 (sm_0 hG) wM_X9_190 rfl rfl ⟨by decide, by decide⟩ (Nat.le_of_ble_eq_true rfl) dX9_refusal_33 ?_
    refine V.putI (pc := 36) C clX9 inX9 (sm_0 hG) 21 (by decide) wF_X9_193 tyX9 tyX9_ok nmX9 rfl (tyX9_ok 21 (by decide)) rfl dX9_refusal_36 ?_
    refine V.aload_n (pc := 39) C 0 rfl dX9_refusal_39 ?_
    refine V.aload_n (pc := 40) C 0 rfl dX9_refusal_40 ?_
    refine V.bipush (pc := 41) C (nI 6) (by decide) dX9_refusal_41 ?_
    obtain ⟨r7, M7, h7, hf⟩ := bd_some hf
    refine V.callVi (pc := 43) (As := [.int (nI 6)]) (rest := [.ref (gA G 0)]) C (mX9_sumOpen X.2.1 hG  h7) mf_X9_sumOpen clX9 (sm_0 hG) wM_X9_190 rfl rfl ⟨by decide, by decide⟩ (Nat.le_of_ble_eq_true rfl) dX9_refusal_43 ?_
    refine V.putI (pc := 46) C clX9 inX9 (sm_0 hG) 22 (by decide) wF_X9_196 tyX9 tyX9_ok nmX9 rfl (tyX9_ok 22 (by decide)) rfl dX9_refusal_46 ?_
    refine V.aload_n (pc := 49) C 0 rfl dX9_refusal_49 ?_
    refine V.aload_n (pc := 50) C 0 rfl dX9_refusal_50 ?_
    refine V.getR (pc := 51) C clX9 inX9 (sm_0 hG) 17 (by decide) wF_X9_40 rfl dX9_refusal_51 ?_
    obtain ⟨_, M8, h8, hf⟩ := bd_some hf
    refine V.callVv (pc := 54) (As := [.ref (gA G 11)]) (rest := []) C (mX9_lay X.2.1 hG (sm_11 hG) h8) mf_X9_lay clX9 (sm_0 hG) wM_X9_199 rfl rfl ⟨by decide, by decide⟩ (Nat.le_of_ble_eq_true rfl) dX9_refusal_54 ?_
    refine V.aload_n (pc := 57) C 0 rfl dX9_refusal_57 ?_
    refine V.getI (pc := 58) C clX9 inX9 (sm_0 hG) 19 (by decide) wF_X9_165 rfl dX9_refusal_58 ?_
    rcases it_some hf with ⟨h9, hf⟩ | ⟨h9, hf⟩
    · refine V.if_ltT (pc := 61) C 69 h9 (by decide) dX9_refusal_61 ?_
      refine V.bipush (pc := 69) C (mI 6) (by decide) dX9_refusal_69 ?_
      exact V.retI (pc := 71) C hf dX9_refusal_71
    · refine V.if_ltF (pc := 61) C 69 h9 (by decide) dX9_refusal_61 ?_
      refine V.bipush (pc := 64) C (mI 3) (by decide) dX9_refusal_64 ?_
      refine V.goto (pc := 66) C 71 (by decide) dX9_refusal_66 ?_
      exact V.retI (pc := 71) C hf dX9_refusal_71
  · refine V.if_ltF (pc := 4) C 10 h2 (by decide) dX9_refusal_4 ?_
    refine V.bipush (pc := 7) C (mI 5) (by decide) dX9_refusal_7 ?_
    exact V.retI (pc := 9) C hf dX9_refusal_9
theorem dX9_judge_0 : decode cX9_judge 0 = .ok (.iload_n 1, 1) := by decide +kernel
theorem dX9_judge_1 : decode cX9_judge 1 = .ok (.i2l, 1) := by decide +kernel
theorem dX9_judge_2 : decode cX9_judge 2 = .ok (.lconst 0, 1) := by decide +kernel
theorem dX9_judge_3 : decode cX9_judge 3 = .ok (.ldc2_w 202, 3) := by decide +kernel
theorem dX9_judge_6 : decode cX9_judge 6 = .ok (.invokestatic 69, 3) := by decide +kernel
theorem dX9_judge_9 : decode cX9_judge 9 = .ok (.ifCond .ne 6, 3) := by decide +kernel
theorem dX9_judge_12 : decode cX9_judge 12 = .ok (.bipush (-2), 2) := by decide +kernel
theorem dX9_judge_14 : decode cX9_judge 14 = .ok (.ireturn, 1) := by decide +kernel
theorem dX9_judge_15 : decode cX9_judge 15 = .ok (.aload_n 0, 1) := by decide +kernel
theorem dX9_judge_16 : decode cX9_judge 16 = .ok (.invokevirtual 204, 3) := by decide +kernel
theorem dX9_judge_19 : decode cX9_judge 19 = .ok (.istore_n 2, 1) := by decide +kernel
theorem dX9_judge_20 : decode cX9_judge 20 = .ok (.iload_n 2, 1) := by decide +kernel
theorem dX9_judge_21 : decode cX9_judge 21 = .ok (.bipush (-5), 2) := by decide +kernel
theorem dX9_judge_23 : decode cX9_judge 23 = .ok (.if_icmp .eq 14, 3) := by decide +kernel
theorem dX9_judge_26 : decode cX9_judge 26 = .ok (.iload_n 1, 1) := by decide +kernel
theorem dX9_judge_27 : decode cX9_judge 27 = .ok (.iconst 1, 1) := by decide +kernel
theorem dX9_judge_28 : decode cX9_judge 28 = .ok (.if_icmp .le 11, 3) := by decide +kernel
theorem dX9_judge_31 : decode cX9_judge 31 = .ok (.iload_n 2, 1) := by decide +kernel
theorem dX9_judge_32 : decode cX9_judge 32 = .ok (.bipush (-3), 2) := by decide +kernel
theorem dX9_judge_34 : decode cX9_judge 34 = .ok (.if_icmp .ne 5, 3) := by decide +kernel
theorem dX9_judge_37 : decode cX9_judge 37 = .ok (.iload_n 2, 1) := by decide +kernel
theorem dX9_judge_38 : decode cX9_judge 38 = .ok (.ireturn, 1) := by decide +kernel
theorem dX9_judge_39 : decode cX9_judge 39 = .ok (.iload_n 1, 1) := by decide +kernel
theorem dX9_judge_40 : decode cX9_judge 40 = .ok (.ifCond .ne 10, 3) := by decide +kernel
theorem dX9_judge_43 : decode cX9_judge 43 = .ok (.aload_n 0, 1) := by decide +kernel
theorem dX9_judge_44 : decode cX9_judge 44 = .ok (.getfield 165, 3) := by decide +kernel
theorem dX9_judge_47 : decode cX9_judge 47 = .ok (.goto 19, 3) := by decide +kernel
theorem dX9_judge_50 : decode cX9_judge 50 = .ok (.iload_n 1, 1) := by decide +kernel
theorem dX9_judge_51 : decode cX9_judge 51 = .ok (.iconst 1, 1) := by decide +kernel
theorem dX9_judge_52 : decode cX9_judge 52 = .ok (.if_icmp .ne 10, 3) := by decide +kernel
theorem dX9_judge_55 : decode cX9_judge 55 = .ok (.aload_n 0, 1) := by decide +kernel
theorem dX9_judge_56 : decode cX9_judge 56 = .ok (.getfield 168, 3) := by decide +kernel
theorem dX9_judge_59 : decode cX9_judge 59 = .ok (.goto 7, 3) := by decide +kernel
theorem dX9_judge_62 : decode cX9_judge 62 = .ok (.aload_n 0, 1) := by decide +kernel
theorem dX9_judge_63 : decode cX9_judge 63 = .ok (.getfield 156, 3) := by decide +kernel
theorem dX9_judge_66 : decode cX9_judge 66 = .ok (.ireturn, 1) := by decide +kernel
abbrev cxX9_judge (G : Rg) (X : Ct) : Prop := Cx G X cX9_judge 3 RX9 (some .int) 7 156 (Cond.code yX9_judge cX9_judge 3 (some .int))
def fX9_judge_b39   (v1 : Int32) (M : Mm) : Option (Int32 × Mm) :=
if v1 = (nI 0) then
(some ((M.1 0 19), M))
else
(if v1 = (nI 1) then
(some ((M.1 0 20), M))
else
(some ((M.1 0 15), M)))
set_option maxHeartbeats 4000000 in
set_option maxRecDepth 100000 in
theorem vX9_judge_b39 {G : Rg} {X : Ct} {r : Int32} {Mf : Mm}   (C : cxX9_judge G X) (hG : gS G = shM)   (v1 : Int32) (M : Mm) (hf : fX9_judge_b39 v1 M = some (r, Mf)) : V G X 3 (some (.int r)) Mf 39 [(0, .ref (gA G 0)), (1, .int v1)] [] M := by
  rw [fX9_judge_b39] at hf
  refine V.iload_n (pc := 39) C 1 rfl dX9_judge_39 ?_
  rcases it_some hf with ⟨h1, hf⟩ | ⟨h1, hf⟩
  · refine V.if_neF (pc := 40) C 50 h1 (by decide) dX9_judge_40 ?_
    refine V.aload_n (pc := 43) C 0 rfl dX9_judge_43 ?_
    refine V.getI (pc := 44) C clX9 inX9 (sm_0 hG) 19 (by decide) wF_X9_165 rfl dX9_judge_44 ?_
    refine V.goto (pc := 47) C 66 (by decide) dX9_judge_47 ?_
    exact V.retI (pc := 66) C hf dX9_judge_66
  · refine V.if_neT (pc := 40) C 50 h1 (by decide) dX9_judge_40 ?_
    refine V.iload_n (pc := 50) C 1 rfl dX9_judge_50 ?_
    refine V.iconst (pc := 51) C (nI 1) (by decide) dX9_judge_51 ?_
    rcases it_some hf with ⟨h2, hf⟩ | ⟨h2, hf⟩
    · refine V.ic_neF (pc := 52) C 62 h2 (by decide) dX9_judge_52 ?_
      refine V.aload_n (pc := 55) C 0 rfl dX9_judge_55 ?_
      refine V.getI (pc := 56) C clX9 inX9 (sm_0 hG) 20 (by decide) wF_X9_168 rfl dX9_judge_56 ?_
      refine V.goto (pc := 59) C 66 (by decide) dX9_judge_59 ?_
      exact V.retI (pc := 66) C hf dX9_judge_66
    · refine V.ic_neT (pc := 52) C 62 h2 (by decide) dX9_judge_52 ?_
      refine V.aload_n (pc := 62) C 0 rfl dX9_judge_62 ?_
      refine V.getI (pc := 63) C clX9 inX9 (sm_0 hG) 15 (by decide) wF_X9_156 rfl dX9_judge_63 ?_
      exact V.retI (pc := 66) C hf dX9_judge_66
def fX9_judge (x1 : Int32) (M : Mm) : Option (Int32 × Mm) :=
bd (fX9_in x1.toInt64 (lN 0) (lN 2) M) fun r1 M1 =>
if r1 = (nI 0) then
(some ((mI 2), M1))
else
(bd (fX9_refusal M1) fun r3 M3 =>
if r3 = (mI 5) then
(some (r3, M3))
else
(if x1 ≤ (nI 1) then
(fX9_judge_b39 x1 M3)
else
(if r3 = (mI 3) then
(some (r3, M3))
else
(fX9_judge_b39 x1 M3))))
set_option maxHeartbeats 4000000 in
set_option maxRecDepth 100000 in
theorem mX9_judge (l : Launch) {G : Rg} (hG : gS G = shM) {x1 : Int32}  {M Mf : Mm} {r : Int32} (hf : fX9_judge x1 M = some (r, Mf)) : Mt l G yX9_judge cX9_judge 3 (some .int) 7 156 [.ref (gA G 0), .int x1] M (some (.int r)) Mf := by
  refine Mt.of (by decide) (Nat.le_of_ble_eq_true rfl) ?_
  intro X C hX
  subst hX
  have C : cxX9_judge G X := C
  show V G X 3 (some (.int r)) Mf 0 [(0, .ref (gA G 0)), (1, .int x1)] [] M
  rw [fX9_judge] at hf
  refine V.iload_n (pc := 0) C 1 rfl dX9_judge_0 ?_
  refine V.i2l (pc := 1) C dX9_judge_1 ?_
  refine V.lconst (pc := 2) C (lN 0) (by decide) dX9_judge_2 ?_
  refine V.ldc2 (pc := 3) C wL_X9_202 dX9_judge_3 ?_
  obtain ⟨r1, M1, h1, hf⟩ := bd_some hf
  refine V.callSi (pc := 6) (As := [.long x1.toInt64, .long (lN 0), .long (lN 2)]) (rest := []) C (mX9_in X.2.1 hG  h1) mf_X9_in wM_X9_69 rfl rfl ⟨by decide, by decide⟩ (Nat.le_of_ble_eq_true rfl) dX9_judge_6 ?_
  rcases it_some hf with ⟨h2, hf⟩ | ⟨h2, hf⟩
  · refine V.if_neF (pc := 9) C 15 h2 (by decide) dX9_judge_9 ?_
    refine V.bipush (pc := 12) C (mI 2) (by decide) dX9_judge_12 ?_
    exact V.retI (pc := 14) C hf dX9_judge_14
  · refine V.if_neT (pc := 9) C 15 h2 (by decide) dX9_judge_9 ?_
    refine V.aload_n (pc := 15) C 0 rfl dX9_judge_15 ?_
    obtain ⟨r3, M3, h3, hf⟩ := bd_some hf
    refine V.callVi (pc := 16) (As := []) (rest := []) C (mX9_refusal X.2.1 hG  h3) mf_X9_refusal clX9 (sm_0 hG) wM_X9_204 rfl rfl ⟨by decide, by decide⟩ (Nat.le_of_ble_eq_true rfl) dX9_judge_16 ?_
    refine V.istore_n (pc := 19) (lv' := [(2, .int r3), (0, .ref (gA G 0)), (1, .int x1)]) C (by decide) rfl dX9_judge_19 ?_
    refine V.iload_n (pc := 20) C 0 rfl dX9_judge_20 ?_
    refine V.bipush (pc := 21) C (mI 5) (by decide) dX9_judge_21 ?_
    rcases it_some hf with ⟨h4, hf⟩ | ⟨h4, hf⟩
    · refine V.ic_eqT (pc := 23) C 37 h4 (by decide) dX9_judge_23 ?_
      refine V.iload_n (pc := 37) C 0 rfl dX9_judge_37 ?_
      exact V.retI (pc := 38) C hf dX9_judge_38
    · refine V.ic_eqF (pc := 23) C 37 h4 (by decide) dX9_judge_23 ?_
      refine V.iload_n (pc := 26) C 2 rfl dX9_judge_26 ?_
      refine V.iconst (pc := 27) C (nI 1) (by decide) dX9_judge_27 ?_
      rcases it_some hf with ⟨h5, hf⟩ | ⟨h5, hf⟩
      · refine V.ic_leT (pc := 28) C 39 h5 (by decide) dX9_judge_28 ?_
        refine V.sub C [1, 2] (lv' := [(0, .ref (gA G 0)), (1, .int x1)]) rfl ?_
        exact vX9_judge_b39 C hG    _ _ hf
      · refine V.ic_leF (pc := 28) C 39 h5 (by decide) dX9_judge_28 ?_
        refine V.iload_n (pc := 31) C 0 rfl dX9_judge_31 ?_
        refine V.bipush (pc := 32) C (mI 3) (by decide) dX9_judge_32 ?_
        rcases it_some hf with ⟨h6, hf⟩ | ⟨h6, hf⟩
        · refine V.ic_neF (pc := 34) C 39 h6 (by decide) dX9_judge_34 ?_
          refine V.iload_n (pc := 37) C 0 rfl dX9_judge_37 ?_
          exact V.retI (pc := 38) C hf dX9_judge_38
        · refine V.ic_neT (pc := 34) C 39 h6 (by decide) dX9_judge_34 ?_
          refine V.sub C [1, 2] (lv' := [(0, .ref (gA G 0)), (1, .int x1)]) rfl ?_
          exact vX9_judge_b39 C hG    _ _ hf
theorem dX9_behind_0 : decode cX9_behind 0 = .ok (.aload_n 0, 1) := by decide +kernel
theorem dX9_behind_1 : decode cX9_behind 1 = .ok (.iload_n 1, 1) := by decide +kernel
theorem dX9_behind_2 : decode cX9_behind 2 = .ok (.invokevirtual 86, 3) := by decide +kernel
theorem dX9_behind_5 : decode cX9_behind 5 = .ok (.ifCond .ne 5, 3) := by decide +kernel
theorem dX9_behind_8 : decode cX9_behind 8 = .ok (.iconst (-1), 1) := by decide +kernel
theorem dX9_behind_9 : decode cX9_behind 9 = .ok (.ireturn, 1) := by decide +kernel
theorem dX9_behind_10 : decode cX9_behind 10 = .ok (.iload_n 2, 1) := by decide +kernel
theorem dX9_behind_11 : decode cX9_behind 11 = .ok (.i2l, 1) := by decide +kernel
theorem dX9_behind_12 : decode cX9_behind 12 = .ok (.lconst 0, 1) := by decide +kernel
theorem dX9_behind_13 : decode cX9_behind 13 = .ok (.lconst 1, 1) := by decide +kernel
theorem dX9_behind_14 : decode cX9_behind 14 = .ok (.invokestatic 69, 3) := by decide +kernel
theorem dX9_behind_17 : decode cX9_behind 17 = .ok (.ifCond .ne 6, 3) := by decide +kernel
theorem dX9_behind_20 : decode cX9_behind 20 = .ok (.bipush (-2), 2) := by decide +kernel
theorem dX9_behind_22 : decode cX9_behind 22 = .ok (.ireturn, 1) := by decide +kernel
theorem dX9_behind_23 : decode cX9_behind 23 = .ok (.aload_n 0, 1) := by decide +kernel
theorem dX9_behind_24 : decode cX9_behind 24 = .ok (.invokevirtual 204, 3) := by decide +kernel
theorem dX9_behind_27 : decode cX9_behind 27 = .ok (.istore_n 3, 1) := by decide +kernel
theorem dX9_behind_28 : decode cX9_behind 28 = .ok (.iload_n 3, 1) := by decide +kernel
theorem dX9_behind_29 : decode cX9_behind 29 = .ok (.bipush (-6), 2) := by decide +kernel
theorem dX9_behind_31 : decode cX9_behind 31 = .ok (.if_icmp .eq 7, 3) := by decide +kernel
theorem dX9_behind_34 : decode cX9_behind 34 = .ok (.iload_n 3, 1) := by decide +kernel
theorem dX9_behind_35 : decode cX9_behind 35 = .ok (.goto 14, 3) := by decide +kernel
theorem dX9_behind_38 : decode cX9_behind 38 = .ok (.aload_n 0, 1) := by decide +kernel
theorem dX9_behind_39 : decode cX9_behind 39 = .ok (.getfield 43, 3) := by decide +kernel
theorem dX9_behind_42 : decode cX9_behind 42 = .ok (.bipush 12, 2) := by decide +kernel
theorem dX9_behind_44 : decode cX9_behind 44 = .ok (.iload_n 2, 1) := by decide +kernel
theorem dX9_behind_45 : decode cX9_behind 45 = .ok (.imul, 1) := by decide +kernel
theorem dX9_behind_46 : decode cX9_behind 46 = .ok (.iload_n 1, 1) := by decide +kernel
theorem dX9_behind_47 : decode cX9_behind 47 = .ok (.iadd, 1) := by decide +kernel
theorem dX9_behind_48 : decode cX9_behind 48 = .ok (.iaload, 1) := by decide +kernel
theorem dX9_behind_49 : decode cX9_behind 49 = .ok (.ireturn, 1) := by decide +kernel
abbrev cxX9_behind (G : Rg) (X : Ct) : Prop := Cx G X cX9_behind 4 RX9 (some .int) 7 156 (Cond.code yX9_behind cX9_behind 4 (some .int))
def fX9_behind (x1 : Int32) (x2 : Int32) (M : Mm) : Option (Int32 × Mm) :=
bd (fX9_isOfficer x1 M) fun r1 M1 =>
if r1 = (nI 0) then
(some ((mI 1), M1))
else
(bd (fX9_in x2.toInt64 (lN 0) (lN 1) M1) fun r3 M3 =>
if r3 = (nI 0) then
(some ((mI 2), M3))
else
(bd (fX9_refusal M3) fun r5 M5 =>
if r5 = (mI 6) then
(gd (inb (((nI 12) * x2) + x1) 25) (
some ((M5.1 12 (((nI 12) * x2) + x1).toNatClampNeg), M5)))
else
(some (r5, M5))))
set_option maxHeartbeats 4000000 in
set_option maxRecDepth 100000 in
theorem mX9_behind (l : Launch) {G : Rg} (hG : gS G = shM) {x1 : Int32} {x2 : Int32}  {M Mf : Mm} {r : Int32} (hf : fX9_behind x1 x2 M = some (r, Mf)) : Mt l G yX9_behind cX9_behind 4 (some .int) 7 156 [.ref (gA G 0), .int x1, .int x2] M (some (.int r)) Mf := by
  refine Mt.of (by decide) (Nat.le_of_ble_eq_true rfl) ?_
  intro X C hX
  subst hX
  have C : cxX9_behind G X := C
  show V G X 4 (some (.int r)) Mf 0 [(0, .ref (gA G 0)), (1, .int x1), (2, .int x2)] [] M
  rw [fX9_behind] at hf
  refine V.aload_n (pc := 0) C 0 rfl dX9_behind_0 ?_
  refine V.iload_n (pc := 1) C 1 rfl dX9_behind_1 ?_
  obtain ⟨r1, M1, h1, hf⟩ := bd_some hf
  refine V.callVi (pc := 2) (As := [.int x1]) (rest := []) C (mX9_isOfficer X.2.1 hG  h1) mf_X9_isOfficer clX9 (sm_0 hG) wM_X9_86 rfl rfl ⟨by decide, by decide⟩ (Nat.le_of_ble_eq_true rfl) dX9_behind_2 ?_
  rcases it_some hf with ⟨h2, hf⟩ | ⟨h2, hf⟩
  · refine V.if_neF (pc := 5) C 10 h2 (by decide) dX9_behind_5 ?_
    refine V.iconst (pc := 8) C (mI 1) (by decide) dX9_behind_8 ?_
    exact V.retI (pc := 9) C hf dX9_behind_9
  · refine V.if_neT (pc := 5) C 10 h2 (by decide) dX9_behind_5 ?_
    refine V.iload_n (pc := 10) C 2 rfl dX9_behind_10 ?_
    refine V.i2l (pc := 11) C dX9_behind_11 ?_
    refine V.lconst (pc := 12) C (lN 0) (by decide) dX9_behind_12 ?_
    refine V.lconst (pc := 13) C (lN 1) (by decide) dX9_behind_13 ?_
    obtain ⟨r3, M3, h3, hf⟩ := bd_some hf
    refine V.callSi (pc := 14) (As := [.long x2.toInt64, .long (lN 0), .long (lN 1)]) (rest := []) C (mX9_in X.2.1 hG  h3) mf_X9_in wM_X9_69 rfl rfl ⟨by decide, by decide⟩ (Nat.le_of_ble_eq_true rfl) dX9_behind_14 ?_
    rcases it_some hf with ⟨h4, hf⟩ | ⟨h4, hf⟩
    · refine V.if_neF (pc := 17) C 23 h4 (by decide) dX9_behind_17 ?_
      refine V.bipush (pc := 20) C (mI 2) (by decide) dX9_behind_20 ?_
      exact V.retI (pc := 22) C hf dX9_behind_22
    · refine V.if_neT (pc := 17) C 23 h4 (by decide) dX9_behind_17 ?_
      refine V.aload_n (pc := 23) C 0 rfl dX9_behind_23 ?_
      obtain ⟨r5, M5, h5, hf⟩ := bd_some hf
      refine V.callVi (pc := 24) (As := []) (rest := []) C (mX9_refusal X.2.1 hG  h5) mf_X9_refusal clX9 (sm_0 hG) wM_X9_204 rfl rfl ⟨by decide, by decide⟩ (Nat.le_of_ble_eq_true rfl) dX9_behind_24 ?_
      refine V.istore_n (pc := 27) (lv' := [(3, .int r5), (0, .ref (gA G 0)), (1, .int x1), (2, .int x2)]) C (by decide) rfl dX9_behind_27 ?_
      refine V.iload_n (pc := 28) C 0 rfl dX9_behind_28 ?_
      refine V.bipush (pc := 29) C (mI 6) (by decide) dX9_behind_29 ?_
      rcases it_some hf with ⟨h6, hf⟩ | ⟨h6, hf⟩
      · refine V.ic_eqT (pc := 31) C 38 h6 (by decide) dX9_behind_31 ?_
        refine V.aload_n (pc := 38) C 1 rfl dX9_behind_38 ?_
        refine V.getR (pc := 39) C clX9 inX9 (sm_0 hG) 18 (by decide) wF_X9_43 rfl dX9_behind_39 ?_
        refine V.bipush (pc := 42) C (nI 12) (by decide) dX9_behind_42 ?_
        refine V.iload_n (pc := 44) C 3 rfl dX9_behind_44 ?_
        refine V.imul (pc := 45) C dX9_behind_45 ?_
        refine V.iload_n (pc := 46) C 2 rfl dX9_behind_46 ?_
        refine V.iadd (pc := 47) C dX9_behind_47 ?_
        obtain ⟨g7, hf⟩ := gd_some hf
        refine V.iald (pc := 48) C (sm_12 hG) (inb_in g7) dX9_behind_48 ?_
        exact V.retI (pc := 49) C hf dX9_behind_49
      · refine V.ic_eqF (pc := 31) C 38 h6 (by decide) dX9_behind_31 ?_
        refine V.iload_n (pc := 34) C 0 rfl dX9_behind_34 ?_
        refine V.goto (pc := 35) C 49 (by decide) dX9_behind_35 ?_
        exact V.retI (pc := 49) C hf dX9_behind_49
theorem dX9_ledger_0 : decode cX9_ledger 0 = .ok (.iload_n 1, 1) := by decide +kernel
theorem dX9_ledger_1 : decode cX9_ledger 1 = .ok (.i2l, 1) := by decide +kernel
theorem dX9_ledger_2 : decode cX9_ledger 2 = .ok (.lconst 0, 1) := by decide +kernel
theorem dX9_ledger_3 : decode cX9_ledger 3 = .ok (.ldc2_w 202, 3) := by decide +kernel
theorem dX9_ledger_6 : decode cX9_ledger 6 = .ok (.invokestatic 69, 3) := by decide +kernel
theorem dX9_ledger_9 : decode cX9_ledger 9 = .ok (.ifCond .ne 6, 3) := by decide +kernel
theorem dX9_ledger_12 : decode cX9_ledger 12 = .ok (.bipush (-2), 2) := by decide +kernel
theorem dX9_ledger_14 : decode cX9_ledger 14 = .ok (.ireturn, 1) := by decide +kernel
theorem dX9_ledger_15 : decode cX9_ledger 15 = .ok (.aload_n 0, 1) := by decide +kernel
theorem dX9_ledger_16 : decode cX9_ledger 16 = .ok (.invokevirtual 204, 3) := by decide +kernel
theorem dX9_ledger_19 : decode cX9_ledger 19 = .ok (.istore_n 2, 1) := by decide +kernel
theorem dX9_ledger_20 : decode cX9_ledger 20 = .ok (.iload_n 2, 1) := by decide +kernel
theorem dX9_ledger_21 : decode cX9_ledger 21 = .ok (.bipush (-6), 2) := by decide +kernel
theorem dX9_ledger_23 : decode cX9_ledger 23 = .ok (.if_icmp .eq 7, 3) := by decide +kernel
theorem dX9_ledger_26 : decode cX9_ledger 26 = .ok (.iload_n 2, 1) := by decide +kernel
theorem dX9_ledger_27 : decode cX9_ledger 27 = .ok (.goto 33, 3) := by decide +kernel
theorem dX9_ledger_30 : decode cX9_ledger 30 = .ok (.iload_n 1, 1) := by decide +kernel
theorem dX9_ledger_31 : decode cX9_ledger 31 = .ok (.ifCond .ne 13, 3) := by decide +kernel
theorem dX9_ledger_34 : decode cX9_ledger 34 = .ok (.aload_n 0, 1) := by decide +kernel
theorem dX9_ledger_35 : decode cX9_ledger 35 = .ok (.getfield 43, 3) := by decide +kernel
theorem dX9_ledger_38 : decode cX9_ledger 38 = .ok (.bipush 24, 2) := by decide +kernel
theorem dX9_ledger_40 : decode cX9_ledger 40 = .ok (.iaload, 1) := by decide +kernel
theorem dX9_ledger_41 : decode cX9_ledger 41 = .ok (.goto 19, 3) := by decide +kernel
theorem dX9_ledger_44 : decode cX9_ledger 44 = .ok (.iload_n 1, 1) := by decide +kernel
theorem dX9_ledger_45 : decode cX9_ledger 45 = .ok (.iconst 1, 1) := by decide +kernel
theorem dX9_ledger_46 : decode cX9_ledger 46 = .ok (.if_icmp .ne 10, 3) := by decide +kernel
theorem dX9_ledger_49 : decode cX9_ledger 49 = .ok (.aload_n 0, 1) := by decide +kernel
theorem dX9_ledger_50 : decode cX9_ledger 50 = .ok (.getfield 193, 3) := by decide +kernel
theorem dX9_ledger_53 : decode cX9_ledger 53 = .ok (.goto 7, 3) := by decide +kernel
theorem dX9_ledger_56 : decode cX9_ledger 56 = .ok (.aload_n 0, 1) := by decide +kernel
theorem dX9_ledger_57 : decode cX9_ledger 57 = .ok (.getfield 196, 3) := by decide +kernel
theorem dX9_ledger_60 : decode cX9_ledger 60 = .ok (.ireturn, 1) := by decide +kernel
abbrev cxX9_ledger (G : Rg) (X : Ct) : Prop := Cx G X cX9_ledger 3 RX9 (some .int) 7 156 (Cond.code yX9_ledger cX9_ledger 3 (some .int))
def fX9_ledger (x1 : Int32) (M : Mm) : Option (Int32 × Mm) :=
bd (fX9_in x1.toInt64 (lN 0) (lN 2) M) fun r1 M1 =>
if r1 = (nI 0) then
(some ((mI 2), M1))
else
(bd (fX9_refusal M1) fun r3 M3 =>
if r3 = (mI 6) then
(if x1 = (nI 0) then
(some ((M3.1 12 (nI 24).toNatClampNeg), M3))
else
(if x1 = (nI 1) then
(some ((M3.1 0 21), M3))
else
(some ((M3.1 0 22), M3))))
else
(some (r3, M3)))
set_option maxHeartbeats 4000000 in
set_option maxRecDepth 100000 in
theorem mX9_ledger (l : Launch) {G : Rg} (hG : gS G = shM) {x1 : Int32}  {M Mf : Mm} {r : Int32} (hf : fX9_ledger x1 M = some (r, Mf)) : Mt l G yX9_ledger cX9_ledger 3 (some .int) 7 156 [.ref (gA G 0), .int x1] M (some (.int r)) Mf := by
  refine Mt.of (by decide) (Nat.le_of_ble_eq_true rfl) ?_
  intro X C hX
  subst hX
  have C : cxX9_ledger G X := C
  show V G X 3 (some (.int r)) Mf 0 [(0, .ref (gA G 0)), (1, .int x1)] [] M
  rw [fX9_ledger] at hf
  refine V.iload_n (pc := 0) C 1 rfl dX9_ledger_0 ?_
  refine V.i2l (pc := 1) C dX9_ledger_1 ?_
  refine V.lconst (pc := 2) C (lN 0) (by decide) dX9_ledger_2 ?_
  refine V.ldc2 (pc := 3) C wL_X9_202 dX9_ledger_3 ?_
  obtain ⟨r1, M1, h1, hf⟩ := bd_some hf
  refine V.callSi (pc := 6) (As := [.long x1.toInt64, .long (lN 0), .long (lN 2)]) (rest := []) C (mX9_in X.2.1 hG  h1) mf_X9_in wM_X9_69 rfl rfl ⟨by decide, by decide⟩ (Nat.le_of_ble_eq_true rfl) dX9_ledger_6 ?_
  rcases it_some hf with ⟨h2, hf⟩ | ⟨h2, hf⟩
  · refine V.if_neF (pc := 9) C 15 h2 (by decide) dX9_ledger_9 ?_
    refine V.bipush (pc := 12) C (mI 2) (by decide) dX9_ledger_12 ?_
    exact V.retI (pc := 14) C hf dX9_ledger_14
  · refine V.if_neT (pc := 9) C 15 h2 (by decide) dX9_ledger_9 ?_
    refine V.aload_n (pc := 15) C 0 rfl dX9_ledger_15 ?_
    obtain ⟨r3, M3, h3, hf⟩ := bd_some hf
    refine V.callVi (pc := 16) (As := []) (rest := []) C (mX9_refusal X.2.1 hG  h3) mf_X9_refusal clX9 (sm_0 hG) wM_X9_204 rfl rfl ⟨by decide, by decide⟩ (Nat.le_of_ble_eq_true rfl) dX9_ledger_16 ?_
    refine V.istore_n (pc := 19) (lv' := [(2, .int r3), (0, .ref (gA G 0)), (1, .int x1)]) C (by decide) rfl dX9_ledger_19 ?_
    refine V.iload_n (pc := 20) C 0 rfl dX9_ledger_20 ?_
    refine V.bipush (pc := 21) C (mI 6) (by decide) dX9_ledger_21 ?_
    rcases it_some hf with ⟨h4, hf⟩ | ⟨h4, hf⟩
    · refine V.ic_eqT (pc := 23) C 30 h4 (by decide) dX9_ledger_23 ?_
      refine V.iload_n (pc := 30) C 2 rfl dX9_ledger_30 ?_
      rcases it_some hf with ⟨h5, hf⟩ | ⟨h5, hf⟩
      · refine V.if_neF (pc := 31) C 44 h5 (by decide) dX9_ledger_31 ?_
        refine V.aload_n (pc := 34) C 1 rfl dX9_ledger_34 ?_
        refine V.getR (pc := 35) C clX9 inX9 (sm_0 hG) 18 (by decide) wF_X9_43 rfl dX9_ledger_35 ?_
        refine V.bipush (pc := 38) C (nI 24) (by decide) dX9_ledger_38 ?_
        refine V.iald (pc := 40) C (sm_12 hG) (inb_in (by decide)) dX9_ledger_40 ?_
        refine V.goto (pc := 41) C 60 (by decide) dX9_ledger_41 ?_
        exact V.retI (pc := 60) C hf dX9_ledger_60
      · refine V.if_neT (pc := 31) C 44 h5 (by decide) dX9_ledger_31 ?_
        refine V.iload_n (pc := 44) C 2 rfl dX9_ledger_44 ?_
        refine V.iconst (pc := 45) C (nI 1) (by decide) dX9_ledger_45 ?_
        rcases it_some hf with ⟨h6, hf⟩ | ⟨h6, hf⟩
        · refine V.ic_neF (pc := 46) C 56 h6 (by decide) dX9_ledger_46 ?_
          refine V.aload_n (pc := 49) C 1 rfl dX9_ledger_49 ?_
          refine V.getI (pc := 50) C clX9 inX9 (sm_0 hG) 21 (by decide) wF_X9_193 rfl dX9_ledger_50 ?_
          refine V.goto (pc := 53) C 60 (by decide) dX9_ledger_53 ?_
          exact V.retI (pc := 60) C hf dX9_ledger_60
        · refine V.ic_neT (pc := 46) C 56 h6 (by decide) dX9_ledger_46 ?_
          refine V.aload_n (pc := 56) C 1 rfl dX9_ledger_56 ?_
          refine V.getI (pc := 57) C clX9 inX9 (sm_0 hG) 22 (by decide) wF_X9_196 rfl dX9_ledger_57 ?_
          exact V.retI (pc := 60) C hf dX9_ledger_60
    · refine V.ic_eqF (pc := 23) C 30 h4 (by decide) dX9_ledger_23 ?_
      refine V.iload_n (pc := 26) C 0 rfl dX9_ledger_26 ?_
      refine V.goto (pc := 27) C 60 (by decide) dX9_ledger_27 ?_
      exact V.retI (pc := 60) C hf dX9_ledger_60
theorem dX9_done_0 : decode cX9_done 0 = .ok (.aload_n 0, 1) := by decide +kernel
theorem dX9_done_1 : decode cX9_done 1 = .ok (.invokevirtual 204, 3) := by decide +kernel
theorem dX9_done_4 : decode cX9_done 4 = .ok (.istore_n 1, 1) := by decide +kernel
theorem dX9_done_5 : decode cX9_done 5 = .ok (.iload_n 1, 1) := by decide +kernel
theorem dX9_done_6 : decode cX9_done 6 = .ok (.bipush (-6), 2) := by decide +kernel
theorem dX9_done_8 : decode cX9_done 8 = .ok (.if_icmp .eq 5, 3) := by decide +kernel
theorem dX9_done_11 : decode cX9_done 11 = .ok (.iload_n 1, 1) := by decide +kernel
theorem dX9_done_12 : decode cX9_done 12 = .ok (.ireturn, 1) := by decide +kernel
theorem dX9_done_13 : decode cX9_done 13 = .ok (.aload_n 0, 1) := by decide +kernel
theorem dX9_done_14 : decode cX9_done 14 = .ok (.invokevirtual 187, 3) := by decide +kernel
theorem dX9_done_17 : decode cX9_done 17 = .ok (.aload_n 0, 1) := by decide +kernel
theorem dX9_done_18 : decode cX9_done 18 = .ok (.iconst 0, 1) := by decide +kernel
theorem dX9_done_19 : decode cX9_done 19 = .ok (.putfield 97, 3) := by decide +kernel
theorem dX9_done_22 : decode cX9_done 22 = .ok (.aload_n 0, 1) := by decide +kernel
theorem dX9_done_23 : decode cX9_done 23 = .ok (.getfield 108, 3) := by decide +kernel
theorem dX9_done_26 : decode cX9_done 26 = .ok (.ireturn, 1) := by decide +kernel
abbrev cxX9_done (G : Rg) (X : Ct) : Prop := Cx G X cX9_done 2 RX9 (some .int) 7 156 (Cond.code yX9_done cX9_done 2 (some .int))
def fX9_done  (M : Mm) : Option (Int32 × Mm) :=
bd (fX9_refusal M) fun r1 M1 =>
if r1 = (mI 6) then
(bd (fX9_goMonths M1) fun _ M3 =>
some (((sI M3 0 10 (nI 0)).1 0 14), (sI M3 0 10 (nI 0))))
else
(some (r1, M1))
set_option maxHeartbeats 4000000 in
set_option maxRecDepth 100000 in
theorem mX9_done (l : Launch) {G : Rg} (hG : gS G = shM)   {M Mf : Mm} {r : Int32} (hf : fX9_done  M = some (r, Mf)) : Mt l G yX9_done cX9_done 2 (some .int) 7 156 [.ref (gA G 0)] M (some (.int r)) Mf := by
  refine Mt.of (by decide) (Nat.le_of_ble_eq_true rfl) ?_
  intro X C hX
  subst hX
  have C : cxX9_done G X := C
  show V G X 2 (some (.int r)) Mf 0 [(0, .ref (gA G 0))] [] M
  rw [fX9_done] at hf
  refine V.aload_n (pc := 0) C 0 rfl dX9_done_0 ?_
  obtain ⟨r1, M1, h1, hf⟩ := bd_some hf
  refine V.callVi (pc := 1) (As := []) (rest := []) C (mX9_refusal X.2.1 hG  h1) mf_X9_refusal clX9 (sm_0 hG) wM_X9_204 rfl rfl ⟨by decide, by decide⟩ (Nat.le_of_ble_eq_true rfl) dX9_done_1 ?_
  refine V.istore_n (pc := 4) (lv' := [(1, .int r1), (0, .ref (gA G 0))]) C (by decide) rfl dX9_done_4 ?_
  refine V.iload_n (pc := 5) C 0 rfl dX9_done_5 ?_
  refine V.bipush (pc := 6) C (mI 6) (by decide) dX9_done_6 ?_
  rcases it_some hf with ⟨h2, hf⟩ | ⟨h2, hf⟩
  · refine V.ic_eqT (pc := 8) C 13 h2 (by decide) dX9_done_8 ?_
    refine V.aload_n (pc := 13) C 1 rfl dX9_done_13 ?_
    obtain ⟨_, M3, h3, hf⟩ := bd_some hf
    refine V.callVv (pc := 14) (As := []) (rest := []) C (mX9_goMonths X.2.1 hG  h3) mf_X9_goMonths clX9 (sm_0 hG) wM_X9_187 rfl rfl ⟨by decide, by decide⟩ (Nat.le_of_ble_eq_true rfl) dX9_done_14 ?_
    refine V.aload_n (pc := 17) C 1 rfl dX9_done_17 ?_
    refine V.iconst (pc := 18) C (nI 0) (by decide) dX9_done_18 ?_
    refine V.putI (pc := 19) C clX9 inX9 (sm_0 hG) 10 (by decide) wF_X9_97 tyX9 tyX9_ok nmX9 rfl (tyX9_ok 10 (by decide)) rfl dX9_done_19 ?_
    refine V.aload_n (pc := 22) C 1 rfl dX9_done_22 ?_
    refine V.getI (pc := 23) C clX9 inX9 (sm_0 hG) 14 (by decide) wF_X9_108 rfl dX9_done_23 ?_
    exact V.retI (pc := 26) C hf dX9_done_26
  · refine V.ic_eqF (pc := 8) C 13 h2 (by decide) dX9_done_8 ?_
    refine V.iload_n (pc := 11) C 0 rfl dX9_done_11 ?_
    exact V.retI (pc := 12) C hf dX9_done_12
theorem dX9_owed_0 : decode cX9_owed 0 = .ok (.aload_n 0, 1) := by decide +kernel
theorem dX9_owed_1 : decode cX9_owed 1 = .ok (.iconst 0, 1) := by decide +kernel
theorem dX9_owed_2 : decode cX9_owed 2 = .ok (.invokevirtual 190, 3) := by decide +kernel
theorem dX9_owed_5 : decode cX9_owed 5 = .ok (.aload_n 0, 1) := by decide +kernel
theorem dX9_owed_6 : decode cX9_owed 6 = .ok (.bipush 6, 2) := by decide +kernel
theorem dX9_owed_8 : decode cX9_owed 8 = .ok (.invokevirtual 190, 3) := by decide +kernel
theorem dX9_owed_11 : decode cX9_owed 11 = .ok (.isub, 1) := by decide +kernel
theorem dX9_owed_12 : decode cX9_owed 12 = .ok (.sipush 1000, 3) := by decide +kernel
theorem dX9_owed_15 : decode cX9_owed 15 = .ok (.iadd, 1) := by decide +kernel
theorem dX9_owed_16 : decode cX9_owed 16 = .ok (.ireturn, 1) := by decide +kernel
abbrev cxX9_owed (G : Rg) (X : Ct) : Prop := Cx G X cX9_owed 1 RX9 (some .int) 4 90 (Cond.code yX9_owed cX9_owed 1 (some .int))
def fX9_owed  (M : Mm) : Option (Int32 × Mm) :=
bd (fX9_sumOpen (nI 0) M) fun r1 M1 =>
bd (fX9_sumOpen (nI 6) M1) fun r2 M2 =>
some (((r1 - r2) + (nI 1000)), M2)
set_option maxHeartbeats 4000000 in
set_option maxRecDepth 100000 in
theorem mX9_owed (l : Launch) {G : Rg} (hG : gS G = shM)   {M Mf : Mm} {r : Int32} (hf : fX9_owed  M = some (r, Mf)) : Mt l G yX9_owed cX9_owed 1 (some .int) 4 90 [.ref (gA G 0)] M (some (.int r)) Mf := by
  refine Mt.of (by decide) (Nat.le_of_ble_eq_true rfl) ?_
  intro X C hX
  subst hX
  have C : cxX9_owed G X := C
  show V G X 1 (some (.int r)) Mf 0 [(0, .ref (gA G 0))] [] M
  rw [fX9_owed] at hf
  refine V.aload_n (pc := 0) C 0 rfl dX9_owed_0 ?_
  refine V.iconst (pc := 1) C (nI 0) (by decide) dX9_owed_1 ?_
  obtain ⟨r1, M1, h1, hf⟩ := bd_some hf
  refine V.callVi (pc := 2) (As := [.int (nI 0)]) (rest := []) C (mX9_sumOpen X.2.1 hG  h1) mf_X9_sumOpen clX9 (sm_0 hG) wM_X9_190 rfl rfl ⟨by decide, by decide⟩ (Nat.le_of_ble_eq_true rfl) dX9_owed_2 ?_
  refine V.aload_n (pc := 5) C 0 rfl dX9_owed_5 ?_
  refine V.bipush (pc := 6) C (nI 6) (by decide) dX9_owed_6 ?_
  obtain ⟨r2, M2, h2, hf⟩ := bd_some hf
  refine V.callVi (pc := 8) (As := [.int (nI 6)]) (rest := [.int r1]) C (mX9_sumOpen X.2.1 hG  h2) mf_X9_sumOpen clX9 (sm_0 hG) wM_X9_190 rfl rfl ⟨by decide, by decide⟩ (Nat.le_of_ble_eq_true rfl) dX9_owed_8 ?_
  refine V.isub (pc := 11) C dX9_owed_11 ?_
  refine V.sipush (pc := 12) C (nI 1000) (by decide) dX9_owed_12 ?_
  refine V.iadd (pc := 15) C dX9_owed_15 ?_
  exact V.retI (pc := 16) C hf dX9_owed_16
theorem dX9_isBetter_0 : decode cX9_isBetter 0 = .ok (.aload_n 0, 1) := by decide +kernel
theorem dX9_isBetter_1 : decode cX9_isBetter 1 = .ok (.getfield 207, 3) := by decide +kernel
theorem dX9_isBetter_4 : decode cX9_isBetter 4 = .ok (.ifCond .ge 5, 3) := by decide +kernel
theorem dX9_isBetter_7 : decode cX9_isBetter 7 = .ok (.iconst 1, 1) := by decide +kernel
theorem dX9_isBetter_8 : decode cX9_isBetter 8 = .ok (.ireturn, 1) := by decide +kernel
theorem dX9_isBetter_9 : decode cX9_isBetter 9 = .ok (.iload_n 1, 1) := by decide +kernel
theorem dX9_isBetter_10 : decode cX9_isBetter 10 = .ok (.invokestatic 82, 3) := by decide +kernel
theorem dX9_isBetter_13 : decode cX9_isBetter 13 = .ok (.aload_n 0, 1) := by decide +kernel
theorem dX9_isBetter_14 : decode cX9_isBetter 14 = .ok (.getfield 207, 3) := by decide +kernel
theorem dX9_isBetter_17 : decode cX9_isBetter 17 = .ok (.invokestatic 82, 3) := by decide +kernel
theorem dX9_isBetter_20 : decode cX9_isBetter 20 = .ok (.isub, 1) := by decide +kernel
theorem dX9_isBetter_21 : decode cX9_isBetter 21 = .ok (.istore 4, 2) := by decide +kernel
theorem dX9_isBetter_23 : decode cX9_isBetter 23 = .ok (.aload_n 0, 1) := by decide +kernel
theorem dX9_isBetter_24 : decode cX9_isBetter 24 = .ok (.getfield 210, 3) := by decide +kernel
theorem dX9_isBetter_27 : decode cX9_isBetter 27 = .ok (.invokestatic 82, 3) := by decide +kernel
theorem dX9_isBetter_30 : decode cX9_isBetter 30 = .ok (.iload_n 2, 1) := by decide +kernel
theorem dX9_isBetter_31 : decode cX9_isBetter 31 = .ok (.invokestatic 82, 3) := by decide +kernel
theorem dX9_isBetter_34 : decode cX9_isBetter 34 = .ok (.isub, 1) := by decide +kernel
theorem dX9_isBetter_35 : decode cX9_isBetter 35 = .ok (.istore 5, 2) := by decide +kernel
theorem dX9_isBetter_37 : decode cX9_isBetter 37 = .ok (.iload_n 3, 1) := by decide +kernel
theorem dX9_isBetter_38 : decode cX9_isBetter 38 = .ok (.ifCond .eq 24, 3) := by decide +kernel
theorem dX9_isBetter_41 : decode cX9_isBetter 41 = .ok (.iload 4, 2) := by decide +kernel
theorem dX9_isBetter_43 : decode cX9_isBetter 43 = .ok (.ifCond .gt 13, 3) := by decide +kernel
theorem dX9_isBetter_46 : decode cX9_isBetter 46 = .ok (.iload 4, 2) := by decide +kernel
theorem dX9_isBetter_48 : decode cX9_isBetter 48 = .ok (.ifCond .ne 12, 3) := by decide +kernel
theorem dX9_isBetter_51 : decode cX9_isBetter 51 = .ok (.iload 5, 2) := by decide +kernel
theorem dX9_isBetter_53 : decode cX9_isBetter 53 = .ok (.ifCond .le 7, 3) := by decide +kernel
theorem dX9_isBetter_56 : decode cX9_isBetter 56 = .ok (.iconst 1, 1) := by decide +kernel
theorem dX9_isBetter_57 : decode cX9_isBetter 57 = .ok (.goto 4, 3) := by decide +kernel
theorem dX9_isBetter_60 : decode cX9_isBetter 60 = .ok (.iconst 0, 1) := by decide +kernel
theorem dX9_isBetter_61 : decode cX9_isBetter 61 = .ok (.ireturn, 1) := by decide +kernel
theorem dX9_isBetter_62 : decode cX9_isBetter 62 = .ok (.iload 5, 2) := by decide +kernel
theorem dX9_isBetter_64 : decode cX9_isBetter 64 = .ok (.ifCond .gt 13, 3) := by decide +kernel
theorem dX9_isBetter_67 : decode cX9_isBetter 67 = .ok (.iload 5, 2) := by decide +kernel
theorem dX9_isBetter_69 : decode cX9_isBetter 69 = .ok (.ifCond .ne 12, 3) := by decide +kernel
theorem dX9_isBetter_72 : decode cX9_isBetter 72 = .ok (.iload 4, 2) := by decide +kernel
theorem dX9_isBetter_74 : decode cX9_isBetter 74 = .ok (.ifCond .ge 7, 3) := by decide +kernel
theorem dX9_isBetter_77 : decode cX9_isBetter 77 = .ok (.iconst 1, 1) := by decide +kernel
theorem dX9_isBetter_78 : decode cX9_isBetter 78 = .ok (.goto 4, 3) := by decide +kernel
theorem dX9_isBetter_81 : decode cX9_isBetter 81 = .ok (.iconst 0, 1) := by decide +kernel
theorem dX9_isBetter_82 : decode cX9_isBetter 82 = .ok (.ireturn, 1) := by decide +kernel
abbrev cxX9_isBetter (G : Rg) (X : Ct) : Prop := Cx G X cX9_isBetter 6 RX9 (some .boolean) 1 22 (Cond.code yX9_isBetter cX9_isBetter 6 (some .boolean))
def fX9_isBetter (x1 : Int32) (x2 : Int32) (x3 : Int32) (M : Mm) : Option (Int32 × Mm) :=
if (nI 0) ≤ (M.1 0 23) then
(bd (fX9_ones x1 M) fun r2 M2 =>
bd (fX9_ones (M2.1 0 23) M2) fun r3 M3 =>
bd (fX9_ones (M3.1 0 24) M3) fun r4 M4 =>
bd (fX9_ones x2 M4) fun r5 M5 =>
if x3 = (nI 0) then
(if (nI 0) < (r4 - r5) then
(some ((nI 1), M5))
else
(if (r4 - r5) = (nI 0) then
(if (nI 0) ≤ (r2 - r3) then
(some ((nI 0), M5))
else
(some ((nI 1), M5)))
else
(some ((nI 0), M5))))
else
(if (nI 0) < (r2 - r3) then
(some ((nI 1), M5))
else
(if (r2 - r3) = (nI 0) then
(if (r4 - r5) ≤ (nI 0) then
(some ((nI 0), M5))
else
(some ((nI 1), M5)))
else
(some ((nI 0), M5)))))
else
(some ((nI 1), M))
set_option maxHeartbeats 4000000 in
set_option maxRecDepth 100000 in
theorem mX9_isBetter (l : Launch) {G : Rg} (hG : gS G = shM) {x1 : Int32} {x2 : Int32} {x3 : Int32}  {M Mf : Mm} {r : Int32} (hf : fX9_isBetter x1 x2 x3 M = some (r, Mf)) : Mt l G yX9_isBetter cX9_isBetter 6 (some .boolean) 1 22 [.ref (gA G 0), .int x1, .int x2, .int x3] M (some (.int r)) Mf := by
  refine Mt.of (by decide) (Nat.le_of_ble_eq_true rfl) ?_
  intro X C hX
  subst hX
  have C : cxX9_isBetter G X := C
  show V G X 6 (some (.int r)) Mf 0 [(0, .ref (gA G 0)), (1, .int x1), (2, .int x2), (3, .int x3)] [] M
  rw [fX9_isBetter] at hf
  refine V.aload_n (pc := 0) C 0 rfl dX9_isBetter_0 ?_
  refine V.getI (pc := 1) C clX9 inX9 (sm_0 hG) 23 (by decide) wF_X9_207 rfl dX9_isBetter_1 ?_
  rcases it_some hf with ⟨h1, hf⟩ | ⟨h1, hf⟩
  · refine V.if_geT (pc := 4) C 9 h1 (by decide) dX9_isBetter_4 ?_
    refine V.iload_n (pc := 9) C 1 rfl dX9_isBetter_9 ?_
    obtain ⟨r2, M2, h2, hf⟩ := bd_some hf
    refine V.callSi (pc := 10) (As := [.int x1]) (rest := []) C (mX9_ones X.2.1 hG  h2) mf_X9_ones wM_X9_82 rfl rfl ⟨by decide, by decide⟩ (Nat.le_of_ble_eq_true rfl) dX9_isBetter_10 ?_
    refine V.aload_n (pc := 13) C 0 rfl dX9_isBetter_13 ?_
    refine V.getI (pc := 14) C clX9 inX9 (sm_0 hG) 23 (by decide) wF_X9_207 rfl dX9_isBetter_14 ?_
    obtain ⟨r3, M3, h3, hf⟩ := bd_some hf
    refine V.callSi (pc := 17) (As := [.int (M2.1 0 23)]) (rest := [.int r2]) C (mX9_ones X.2.1 hG  h3) mf_X9_ones wM_X9_82 rfl rfl ⟨by decide, by decide⟩ (Nat.le_of_ble_eq_true rfl) dX9_isBetter_17 ?_
    refine V.isub (pc := 20) C dX9_isBetter_20 ?_
    refine V.istore (pc := 21) (lv' := [(4, .int (r2 - r3)), (0, .ref (gA G 0)), (1, .int x1), (2, .int x2), (3, .int x3)]) C (by decide) rfl dX9_isBetter_21 ?_
    refine V.aload_n (pc := 23) C 1 rfl dX9_isBetter_23 ?_
    refine V.getI (pc := 24) C clX9 inX9 (sm_0 hG) 24 (by decide) wF_X9_210 rfl dX9_isBetter_24 ?_
    obtain ⟨r4, M4, h4, hf⟩ := bd_some hf
    refine V.callSi (pc := 27) (As := [.int (M3.1 0 24)]) (rest := []) C (mX9_ones X.2.1 hG  h4) mf_X9_ones wM_X9_82 rfl rfl ⟨by decide, by decide⟩ (Nat.le_of_ble_eq_true rfl) dX9_isBetter_27 ?_
    refine V.iload_n (pc := 30) C 3 rfl dX9_isBetter_30 ?_
    obtain ⟨r5, M5, h5, hf⟩ := bd_some hf
    refine V.callSi (pc := 31) (As := [.int x2]) (rest := [.int r4]) C (mX9_ones X.2.1 hG  h5) mf_X9_ones wM_X9_82 rfl rfl ⟨by decide, by decide⟩ (Nat.le_of_ble_eq_true rfl) dX9_isBetter_31 ?_
    refine V.isub (pc := 34) C dX9_isBetter_34 ?_
    refine V.istore (pc := 35) (lv' := [(5, .int (r4 - r5)), (4, .int (r2 - r3)), (0, .ref (gA G 0)), (1, .int x1), (2, .int x2), (3, .int x3)]) C (by decide) rfl dX9_isBetter_35 ?_
    refine V.iload_n (pc := 37) C 5 rfl dX9_isBetter_37 ?_
    rcases it_some hf with ⟨h6, hf⟩ | ⟨h6, hf⟩
    · refine V.if_eqT (pc := 38) C 62 h6 (by decide) dX9_isBetter_38 ?_
      refine V.iload (pc := 62) C 0 rfl dX9_isBetter_62 ?_
      rcases it_some hf with ⟨h7, hf⟩ | ⟨h7, hf⟩
      · refine V.if_gtT (pc := 64) C 77 h7 (by decide) dX9_isBetter_64 ?_
        refine V.iconst (pc := 77) C (nI 1) (by decide) dX9_isBetter_77 ?_
        refine V.goto (pc := 78) C 82 (by decide) dX9_isBetter_78 ?_
        exact V.retZ (pc := 82) C (Or.inr rfl) hf dX9_isBetter_82
      · refine V.if_gtF (pc := 64) C 77 h7 (by decide) dX9_isBetter_64 ?_
        refine V.iload (pc := 67) C 0 rfl dX9_isBetter_67 ?_
        rcases it_some hf with ⟨h8, hf⟩ | ⟨h8, hf⟩
        · refine V.if_neF (pc := 69) C 81 h8 (by decide) dX9_isBetter_69 ?_
          refine V.iload (pc := 72) C 1 rfl dX9_isBetter_72 ?_
          rcases it_some hf with ⟨h9, hf⟩ | ⟨h9, hf⟩
          · refine V.if_geT (pc := 74) C 81 h9 (by decide) dX9_isBetter_74 ?_
            refine V.iconst (pc := 81) C (nI 0) (by decide) dX9_isBetter_81 ?_
            exact V.retZ (pc := 82) C (Or.inl rfl) hf dX9_isBetter_82
          · refine V.if_geF (pc := 74) C 81 h9 (by decide) dX9_isBetter_74 ?_
            refine V.iconst (pc := 77) C (nI 1) (by decide) dX9_isBetter_77 ?_
            refine V.goto (pc := 78) C 82 (by decide) dX9_isBetter_78 ?_
            exact V.retZ (pc := 82) C (Or.inr rfl) hf dX9_isBetter_82
        · refine V.if_neT (pc := 69) C 81 h8 (by decide) dX9_isBetter_69 ?_
          refine V.iconst (pc := 81) C (nI 0) (by decide) dX9_isBetter_81 ?_
          exact V.retZ (pc := 82) C (Or.inl rfl) hf dX9_isBetter_82
    · refine V.if_eqF (pc := 38) C 62 h6 (by decide) dX9_isBetter_38 ?_
      refine V.iload (pc := 41) C 1 rfl dX9_isBetter_41 ?_
      rcases it_some hf with ⟨h10, hf⟩ | ⟨h10, hf⟩
      · refine V.if_gtT (pc := 43) C 56 h10 (by decide) dX9_isBetter_43 ?_
        refine V.iconst (pc := 56) C (nI 1) (by decide) dX9_isBetter_56 ?_
        refine V.goto (pc := 57) C 61 (by decide) dX9_isBetter_57 ?_
        exact V.retZ (pc := 61) C (Or.inr rfl) hf dX9_isBetter_61
      · refine V.if_gtF (pc := 43) C 56 h10 (by decide) dX9_isBetter_43 ?_
        refine V.iload (pc := 46) C 1 rfl dX9_isBetter_46 ?_
        rcases it_some hf with ⟨h11, hf⟩ | ⟨h11, hf⟩
        · refine V.if_neF (pc := 48) C 60 h11 (by decide) dX9_isBetter_48 ?_
          refine V.iload (pc := 51) C 0 rfl dX9_isBetter_51 ?_
          rcases it_some hf with ⟨h12, hf⟩ | ⟨h12, hf⟩
          · refine V.if_leT (pc := 53) C 60 h12 (by decide) dX9_isBetter_53 ?_
            refine V.iconst (pc := 60) C (nI 0) (by decide) dX9_isBetter_60 ?_
            exact V.retZ (pc := 61) C (Or.inl rfl) hf dX9_isBetter_61
          · refine V.if_leF (pc := 53) C 60 h12 (by decide) dX9_isBetter_53 ?_
            refine V.iconst (pc := 56) C (nI 1) (by decide) dX9_isBetter_56 ?_
            refine V.goto (pc := 57) C 61 (by decide) dX9_isBetter_57 ?_
            exact V.retZ (pc := 61) C (Or.inr rfl) hf dX9_isBetter_61
        · refine V.if_neT (pc := 48) C 60 h11 (by decide) dX9_isBetter_48 ?_
          refine V.iconst (pc := 60) C (nI 0) (by decide) dX9_isBetter_60 ?_
          exact V.retZ (pc := 61) C (Or.inl rfl) hf dX9_isBetter_61
  · refine V.if_geF (pc := 4) C 9 h1 (by decide) dX9_isBetter_4 ?_
    refine V.iconst (pc := 7) C (nI 1) (by decide) dX9_isBetter_7 ?_
    exact V.retZ (pc := 8) C (Or.inr rfl) hf dX9_isBetter_8
theorem dX9_canExchange_0 : decode cX9_canExchange 0 = .ok (.iload_n 1, 1) := by decide +kernel
theorem dX9_canExchange_1 : decode cX9_canExchange 1 = .ok (.iload_n 2, 1) := by decide +kernel
theorem dX9_canExchange_2 : decode cX9_canExchange 2 = .ok (.bipush 6, 2) := by decide +kernel
theorem dX9_canExchange_4 : decode cX9_canExchange 4 = .ok (.ishl, 1) := by decide +kernel
theorem dX9_canExchange_5 : decode cX9_canExchange 5 = .ok (.ior, 1) := by decide +kernel
theorem dX9_canExchange_6 : decode cX9_canExchange 6 = .ok (.istore_n 3, 1) := by decide +kernel
theorem dX9_canExchange_7 : decode cX9_canExchange 7 = .ok (.aload_n 0, 1) := by decide +kernel
theorem dX9_canExchange_8 : decode cX9_canExchange 8 = .ok (.iload_n 3, 1) := by decide +kernel
theorem dX9_canExchange_9 : decode cX9_canExchange 9 = .ok (.invokevirtual 140, 3) := by decide +kernel
theorem dX9_canExchange_12 : decode cX9_canExchange 12 = .ok (.ifCond .eq 15, 3) := by decide +kernel
theorem dX9_canExchange_15 : decode cX9_canExchange 15 = .ok (.aload_n 0, 1) := by decide +kernel
theorem dX9_canExchange_16 : decode cX9_canExchange 16 = .ok (.iload_n 3, 1) := by decide +kernel
theorem dX9_canExchange_17 : decode cX9_canExchange 17 = .ok (.invokevirtual 143, 3) := by decide +kernel
theorem dX9_canExchange_20 : decode cX9_canExchange 20 = .ok (.ifCond .ne 7, 3) := by decide +kernel
theorem dX9_canExchange_23 : decode cX9_canExchange 23 = .ok (.iconst 1, 1) := by decide +kernel
theorem dX9_canExchange_24 : decode cX9_canExchange 24 = .ok (.goto 4, 3) := by decide +kernel
theorem dX9_canExchange_27 : decode cX9_canExchange 27 = .ok (.iconst 0, 1) := by decide +kernel
theorem dX9_canExchange_28 : decode cX9_canExchange 28 = .ok (.ireturn, 1) := by decide +kernel
abbrev cxX9_canExchange (G : Rg) (X : Ct) : Prop := Cx G X cX9_canExchange 4 RX9 (some .boolean) 4 90 (Cond.code yX9_canExchange cX9_canExchange 4 (some .boolean))
def fX9_canExchange (x1 : Int32) (x2 : Int32) (M : Mm) : Option (Int32 × Mm) :=
bd (fX9_areAllOpen (x1 ||| (jshl x2 (nI 6))) M) fun r1 M1 =>
if r1 = (nI 0) then
(some ((nI 0), M1))
else
(bd (fX9_worthOf (x1 ||| (jshl x2 (nI 6))) M1) fun r3 M3 =>
if r3 = (nI 0) then
(some ((nI 1), M3))
else
(some ((nI 0), M3)))
set_option maxHeartbeats 4000000 in
set_option maxRecDepth 100000 in
theorem mX9_canExchange (l : Launch) {G : Rg} (hG : gS G = shM) {x1 : Int32} {x2 : Int32}  {M Mf : Mm} {r : Int32} (hf : fX9_canExchange x1 x2 M = some (r, Mf)) : Mt l G yX9_canExchange cX9_canExchange 4 (some .boolean) 4 90 [.ref (gA G 0), .int x1, .int x2] M (some (.int r)) Mf := by
  refine Mt.of (by decide) (Nat.le_of_ble_eq_true rfl) ?_
  intro X C hX
  subst hX
  have C : cxX9_canExchange G X := C
  show V G X 4 (some (.int r)) Mf 0 [(0, .ref (gA G 0)), (1, .int x1), (2, .int x2)] [] M
  rw [fX9_canExchange] at hf
  refine V.iload_n (pc := 0) C 1 rfl dX9_canExchange_0 ?_
  refine V.iload_n (pc := 1) C 2 rfl dX9_canExchange_1 ?_
  refine V.bipush (pc := 2) C (nI 6) (by decide) dX9_canExchange_2 ?_
  refine V.ishl (pc := 4) C dX9_canExchange_4 ?_
  refine V.ior (pc := 5) C dX9_canExchange_5 ?_
  refine V.istore_n (pc := 6) (lv' := [(3, .int (x1 ||| (jshl x2 (nI 6)))), (0, .ref (gA G 0)), (1, .int x1), (2, .int x2)]) C (by decide) rfl dX9_canExchange_6 ?_
  refine V.aload_n (pc := 7) C 1 rfl dX9_canExchange_7 ?_
  refine V.iload_n (pc := 8) C 0 rfl dX9_canExchange_8 ?_
  obtain ⟨r1, M1, h1, hf⟩ := bd_some hf
  refine V.callVi (pc := 9) (As := [.int (x1 ||| (jshl x2 (nI 6)))]) (rest := []) C (mX9_areAllOpen X.2.1 hG  h1) mf_X9_areAllOpen clX9 (sm_0 hG) wM_X9_140 rfl rfl ⟨by decide, by decide⟩ (Nat.le_of_ble_eq_true rfl) dX9_canExchange_9 ?_
  rcases it_some hf with ⟨h2, hf⟩ | ⟨h2, hf⟩
  · refine V.if_eqT (pc := 12) C 27 h2 (by decide) dX9_canExchange_12 ?_
    refine V.iconst (pc := 27) C (nI 0) (by decide) dX9_canExchange_27 ?_
    exact V.retZ (pc := 28) C (Or.inl rfl) hf dX9_canExchange_28
  · refine V.if_eqF (pc := 12) C 27 h2 (by decide) dX9_canExchange_12 ?_
    refine V.aload_n (pc := 15) C 1 rfl dX9_canExchange_15 ?_
    refine V.iload_n (pc := 16) C 0 rfl dX9_canExchange_16 ?_
    obtain ⟨r3, M3, h3, hf⟩ := bd_some hf
    refine V.callVi (pc := 17) (As := [.int (x1 ||| (jshl x2 (nI 6)))]) (rest := []) C (mX9_worthOf X.2.1 hG  h3) mf_X9_worthOf clX9 (sm_0 hG) wM_X9_143 rfl rfl ⟨by decide, by decide⟩ (Nat.le_of_ble_eq_true rfl) dX9_canExchange_17 ?_
    rcases it_some hf with ⟨h4, hf⟩ | ⟨h4, hf⟩
    · refine V.if_neF (pc := 20) C 27 h4 (by decide) dX9_canExchange_20 ?_
      refine V.iconst (pc := 23) C (nI 1) (by decide) dX9_canExchange_23 ?_
      refine V.goto (pc := 24) C 28 (by decide) dX9_canExchange_24 ?_
      exact V.retZ (pc := 28) C (Or.inr rfl) hf dX9_canExchange_28
    · refine V.if_neT (pc := 20) C 27 h4 (by decide) dX9_canExchange_20 ?_
      refine V.iconst (pc := 27) C (nI 0) (by decide) dX9_canExchange_27 ?_
      exact V.retZ (pc := 28) C (Or.inl rfl) hf dX9_canExchange_28
theorem dX9_findExchange_0 : decode cX9_findExchange 0 = .ok (.aload_n 0, 1) := by decide +kernel
theorem dX9_findExchange_1 : decode cX9_findExchange 1 = .ok (.bipush (-6), 2) := by decide +kernel
theorem dX9_findExchange_3 : decode cX9_findExchange 3 = .ok (.putfield 207, 3) := by decide +kernel
theorem dX9_findExchange_6 : decode cX9_findExchange 6 = .ok (.aload_n 0, 1) := by decide +kernel
theorem dX9_findExchange_7 : decode cX9_findExchange 7 = .ok (.bipush (-6), 2) := by decide +kernel
theorem dX9_findExchange_9 : decode cX9_findExchange 9 = .ok (.putfield 210, 3) := by decide +kernel
theorem dX9_findExchange_12 : decode cX9_findExchange 12 = .ok (.iconst 1, 1) := by decide +kernel
theorem dX9_findExchange_13 : decode cX9_findExchange 13 = .ok (.istore_n 3, 1) := by decide +kernel
theorem dX9_findExchange_14 : decode cX9_findExchange 14 = .ok (.iload_n 3, 1) := by decide +kernel
theorem dX9_findExchange_15 : decode cX9_findExchange 15 = .ok (.bipush 64, 2) := by decide +kernel
theorem dX9_findExchange_17 : decode cX9_findExchange 17 = .ok (.if_icmp .ge 77, 3) := by decide +kernel
theorem dX9_findExchange_20 : decode cX9_findExchange 20 = .ok (.iconst 1, 1) := by decide +kernel
theorem dX9_findExchange_21 : decode cX9_findExchange 21 = .ok (.istore 4, 2) := by decide +kernel
theorem dX9_findExchange_23 : decode cX9_findExchange 23 = .ok (.iload 4, 2) := by decide +kernel
theorem dX9_findExchange_25 : decode cX9_findExchange 25 = .ok (.bipush 64, 2) := by decide +kernel
theorem dX9_findExchange_27 : decode cX9_findExchange 27 = .ok (.if_icmp .ge 61, 3) := by decide +kernel
theorem dX9_findExchange_30 : decode cX9_findExchange 30 = .ok (.iload_n 1, 1) := by decide +kernel
theorem dX9_findExchange_31 : decode cX9_findExchange 31 = .ok (.iload_n 3, 1) := by decide +kernel
theorem dX9_findExchange_32 : decode cX9_findExchange 32 = .ok (.iconst (-1), 1) := by decide +kernel
theorem dX9_findExchange_33 : decode cX9_findExchange 33 = .ok (.ixor, 1) := by decide +kernel
theorem dX9_findExchange_34 : decode cX9_findExchange 34 = .ok (.iand, 1) := by decide +kernel
theorem dX9_findExchange_35 : decode cX9_findExchange 35 = .ok (.ifCond .ne 18, 3) := by decide +kernel
theorem dX9_findExchange_38 : decode cX9_findExchange 38 = .ok (.aload_n 0, 1) := by decide +kernel
theorem dX9_findExchange_39 : decode cX9_findExchange 39 = .ok (.iload_n 3, 1) := by decide +kernel
theorem dX9_findExchange_40 : decode cX9_findExchange 40 = .ok (.iload 4, 2) := by decide +kernel
theorem dX9_findExchange_42 : decode cX9_findExchange 42 = .ok (.iload_n 2, 1) := by decide +kernel
theorem dX9_findExchange_43 : decode cX9_findExchange 43 = .ok (.invokevirtual 213, 3) := by decide +kernel
theorem dX9_findExchange_46 : decode cX9_findExchange 46 = .ok (.ifCond .eq 7, 3) := by decide +kernel
theorem dX9_findExchange_49 : decode cX9_findExchange 49 = .ok (.iconst 1, 1) := by decide +kernel
theorem dX9_findExchange_50 : decode cX9_findExchange 50 = .ok (.goto 4, 3) := by decide +kernel
theorem dX9_findExchange_53 : decode cX9_findExchange 53 = .ok (.iconst 0, 1) := by decide +kernel
theorem dX9_findExchange_54 : decode cX9_findExchange 54 = .ok (.istore 5, 2) := by decide +kernel
theorem dX9_findExchange_56 : decode cX9_findExchange 56 = .ok (.iload 5, 2) := by decide +kernel
theorem dX9_findExchange_58 : decode cX9_findExchange 58 = .ok (.ifCond .eq 24, 3) := by decide +kernel
theorem dX9_findExchange_61 : decode cX9_findExchange 61 = .ok (.aload_n 0, 1) := by decide +kernel
theorem dX9_findExchange_62 : decode cX9_findExchange 62 = .ok (.iload_n 3, 1) := by decide +kernel
theorem dX9_findExchange_63 : decode cX9_findExchange 63 = .ok (.iload 4, 2) := by decide +kernel
theorem dX9_findExchange_65 : decode cX9_findExchange 65 = .ok (.invokevirtual 217, 3) := by decide +kernel
theorem dX9_findExchange_68 : decode cX9_findExchange 68 = .ok (.ifCond .eq 14, 3) := by decide +kernel
theorem dX9_findExchange_71 : decode cX9_findExchange 71 = .ok (.aload_n 0, 1) := by decide +kernel
theorem dX9_findExchange_72 : decode cX9_findExchange 72 = .ok (.iload_n 3, 1) := by decide +kernel
theorem dX9_findExchange_73 : decode cX9_findExchange 73 = .ok (.putfield 207, 3) := by decide +kernel
theorem dX9_findExchange_76 : decode cX9_findExchange 76 = .ok (.aload_n 0, 1) := by decide +kernel
theorem dX9_findExchange_77 : decode cX9_findExchange 77 = .ok (.iload 4, 2) := by decide +kernel
theorem dX9_findExchange_79 : decode cX9_findExchange 79 = .ok (.putfield 210, 3) := by decide +kernel
theorem dX9_findExchange_82 : decode cX9_findExchange 82 = .ok (.iinc 4 1, 3) := by decide +kernel
theorem dX9_findExchange_85 : decode cX9_findExchange 85 = .ok (.goto (-62), 3) := by decide +kernel
theorem dX9_findExchange_88 : decode cX9_findExchange 88 = .ok (.iinc 3 1, 3) := by decide +kernel
theorem dX9_findExchange_91 : decode cX9_findExchange 91 = .ok (.goto (-77), 3) := by decide +kernel
theorem dX9_findExchange_94 : decode cX9_findExchange 94 = .ok (.return_, 1) := by decide +kernel
abbrev cxX9_findExchange (G : Rg) (X : Ct) : Prop := Cx G X cX9_findExchange 6 RX9 (none) 5 113 (Cond.code yX9_findExchange cX9_findExchange 6 (none))
def fX9_findExchange_b54 (nx14 : Int32 → Int32 → Int32 → Mm → Option (Unit × Mm)) (nx23 : Int32 → Int32 → Int32 → Int32 → Mm → Option (Unit × Mm))  (v1 : Int32) (v2 : Int32) (v3 : Int32) (v4 : Int32) (s0 : Int32) (M : Mm) : Option (Unit × Mm) :=
if s0 = (nI 0) then
(nx23 v1 v2 v3 (v4 + (nI 1)) M)
else
(bd (fX9_canExchange v3 v4 M) fun r2 M2 =>
if r2 = (nI 0) then
(nx23 v1 v2 v3 (v4 + (nI 1)) M2)
else
(nx23 v1 v2 v3 (v4 + (nI 1)) (sI (sI M2 0 23 v3) 0 24 v4)))
set_option maxHeartbeats 4000000 in
set_option maxRecDepth 100000 in
theorem vX9_findExchange_b54 {G : Rg} {X : Ct} {r : Unit} {Mf : Mm}  {nx14 : Int32 → Int32 → Int32 → Mm → Option (Unit × Mm)} {nx23 : Int32 → Int32 → Int32 → Int32 → Mm → Option (Unit × Mm)} (C : cxX9_findExchange G X) (hG : gS G = shM)  (hx14 : ∀ (v1 : Int32) (v2 : Int32) (v3 : Int32) (M : Mm), nx14 v1 v2 v3 M = some (r, Mf) → V G X 6 none Mf 14 [(0, .ref (gA G 0)), (1, .int v1), (2, .int v2), (3, .int v3)] [] M) (hx23 : ∀ (v1 : Int32) (v2 : Int32) (v3 : Int32) (v4 : Int32) (M : Mm), nx23 v1 v2 v3 v4 M = some (r, Mf) → V G X 6 none Mf 23 [(0, .ref (gA G 0)), (1, .int v1), (2, .int v2), (3, .int v3), (4, .int v4)] [] M) (v1 : Int32) (v2 : Int32) (v3 : Int32) (v4 : Int32) (s0 : Int32) (M : Mm) (hf : fX9_findExchange_b54 nx14 nx23 v1 v2 v3 v4 s0 M = some (r, Mf)) : V G X 6 none Mf 54 [(0, .ref (gA G 0)), (1, .int v1), (2, .int v2), (3, .int v3), (4, .int v4)] [.int s0] M := by
  rw [fX9_findExchange_b54] at hf
  refine V.istore (pc := 54) (lv' := [(5, .int s0), (0, .ref (gA G 0)), (1, .int v1), (2, .int v2), (3, .int v3), (4, .int v4)]) C (by decide) rfl dX9_findExchange_54 ?_
  refine V.iload (pc := 56) C 0 rfl dX9_findExchange_56 ?_
  rcases it_some hf with ⟨h1, hf⟩ | ⟨h1, hf⟩
  · refine V.if_eqT (pc := 58) C 82 h1 (by decide) dX9_findExchange_58 ?_
    refine V.iinc (pc := 82) (lv' := [(4, .int (v4 + (nI 1))), (5, .int s0), (0, .ref (gA G 0)), (1, .int v1), (2, .int v2), (3, .int v3)]) C (v4 + (nI 1)) 5 rfl rfl (by decide) rfl dX9_findExchange_82 ?_
    refine V.goto (pc := 85) C 23 (by decide) dX9_findExchange_85 ?_
    refine V.sub C [2, 3, 4, 5, 0] (lv' := [(0, .ref (gA G 0)), (1, .int v1), (2, .int v2), (3, .int v3), (4, .int (v4 + (nI 1)))]) rfl ?_
    exact hx23 _ _ _ _ _ hf
  · refine V.if_eqF (pc := 58) C 82 h1 (by decide) dX9_findExchange_58 ?_
    refine V.aload_n (pc := 61) C 1 rfl dX9_findExchange_61 ?_
    refine V.iload_n (pc := 62) C 4 rfl dX9_findExchange_62 ?_
    refine V.iload (pc := 63) C 5 rfl dX9_findExchange_63 ?_
    obtain ⟨r2, M2, h2, hf⟩ := bd_some hf
    refine V.callVi (pc := 65) (As := [.int v3, .int v4]) (rest := []) C (mX9_canExchange X.2.1 hG  h2) mf_X9_canExchange clX9 (sm_0 hG) wM_X9_217 rfl rfl ⟨by decide, by decide⟩ (Nat.le_of_ble_eq_true rfl) dX9_findExchange_65 ?_
    rcases it_some hf with ⟨h3, hf⟩ | ⟨h3, hf⟩
    · refine V.if_eqT (pc := 68) C 82 h3 (by decide) dX9_findExchange_68 ?_
      refine V.iinc (pc := 82) (lv' := [(4, .int (v4 + (nI 1))), (5, .int s0), (0, .ref (gA G 0)), (1, .int v1), (2, .int v2), (3, .int v3)]) C (v4 + (nI 1)) 5 rfl rfl (by decide) rfl dX9_findExchange_82 ?_
      refine V.goto (pc := 85) C 23 (by decide) dX9_findExchange_85 ?_
      refine V.sub C [2, 3, 4, 5, 0] (lv' := [(0, .ref (gA G 0)), (1, .int v1), (2, .int v2), (3, .int v3), (4, .int (v4 + (nI 1)))]) rfl ?_
      exact hx23 _ _ _ _ _ hf
    · refine V.if_eqF (pc := 68) C 82 h3 (by decide) dX9_findExchange_68 ?_
      refine V.aload_n (pc := 71) C 1 rfl dX9_findExchange_71 ?_
      refine V.iload_n (pc := 72) C 4 rfl dX9_findExchange_72 ?_
      refine V.putI (pc := 73) C clX9 inX9 (sm_0 hG) 23 (by decide) wF_X9_207 tyX9 tyX9_ok nmX9 rfl (tyX9_ok 23 (by decide)) rfl dX9_findExchange_73 ?_
      refine V.aload_n (pc := 76) C 1 rfl dX9_findExchange_76 ?_
      refine V.iload (pc := 77) C 5 rfl dX9_findExchange_77 ?_
      refine V.putI (pc := 79) C clX9 inX9 (sm_0 hG) 24 (by decide) wF_X9_210 tyX9 tyX9_ok nmX9 rfl (tyX9_ok 24 (by decide)) rfl dX9_findExchange_79 ?_
      refine V.iinc (pc := 82) (lv' := [(4, .int (v4 + (nI 1))), (5, .int s0), (0, .ref (gA G 0)), (1, .int v1), (2, .int v2), (3, .int v3)]) C (v4 + (nI 1)) 5 rfl rfl (by decide) rfl dX9_findExchange_82 ?_
      refine V.goto (pc := 85) C 23 (by decide) dX9_findExchange_85 ?_
      refine V.sub C [2, 3, 4, 5, 0] (lv' := [(0, .ref (gA G 0)), (1, .int v1), (2, .int v2), (3, .int v3), (4, .int (v4 + (nI 1)))]) rfl ?_
      exact hx23 _ _ _ _ _ hf
def fX9_findExchange_b53 (nx14 : Int32 → Int32 → Int32 → Mm → Option (Unit × Mm)) (nx23 : Int32 → Int32 → Int32 → Int32 → Mm → Option (Unit × Mm))  (v1 : Int32) (v2 : Int32) (v3 : Int32) (v4 : Int32) (M : Mm) : Option (Unit × Mm) :=
fX9_findExchange_b54 nx14 nx23 v1 v2 v3 v4 (nI 0) M
set_option maxHeartbeats 4000000 in
set_option maxRecDepth 100000 in
theorem vX9_findExchange_b53 {G : Rg} {X : Ct} {r : Unit} {Mf : Mm}  {nx14 : Int32 → Int32 → Int32 → Mm → Option (Unit × Mm)} {nx23 : Int32 → Int32 → Int32 → Int32 → Mm → Option (Unit × Mm)} (C : cxX9_findExchange G X) (hG : gS G = shM)  (hx14 : ∀ (v1 : Int32) (v2 : Int32) (v3 : Int32) (M : Mm), nx14 v1 v2 v3 M = some (r, Mf) → V G X 6 none Mf 14 [(0, .ref (gA G 0)), (1, .int v1), (2, .int v2), (3, .int v3)] [] M) (hx23 : ∀ (v1 : Int32) (v2 : Int32) (v3 : Int32) (v4 : Int32) (M : Mm), nx23 v1 v2 v3 v4 M = some (r, Mf) → V G X 6 none Mf 23 [(0, .ref (gA G 0)), (1, .int v1), (2, .int v2), (3, .int v3), (4, .int v4)] [] M) (v1 : Int32) (v2 : Int32) (v3 : Int32) (v4 : Int32) (M : Mm) (hf : fX9_findExchange_b53 nx14 nx23 v1 v2 v3 v4 M = some (r, Mf)) : V G X 6 none Mf 53 [(0, .ref (gA G 0)), (1, .int v1), (2, .int v2), (3, .int v3), (4, .int v4)] [] M := by
  rw [fX9_findExchange_b53] at hf
  refine V.iconst (pc := 53) C (nI 0) (by decide) dX9_findExchange_53 ?_
  exact vX9_findExchange_b54 C hG  hx14 hx23  _ _ _ _ _ _ hf
def fX9_findExchange_b23 (nx14 : Int32 → Int32 → Int32 → Mm → Option (Unit × Mm))  : Nat → Int32 → Int32 → Int32 → Int32 → Mm → Option (Unit × Mm)
  | 0, _, _, _, _, _ => none
  | n + 1, v1, v2, v3, v4, M =>
    if (nI 64) ≤ v4 then
    (nx14 v1 v2 (v3 + (nI 1)) M)
    else
    (if (v1 &&& (v3 ^^^ (mI 1))) = (nI 0) then
    (bd (fX9_isBetter v3 v4 v2 M) fun r3 M3 =>
    if r3 = (nI 0) then
    (fX9_findExchange_b53 nx14 (fX9_findExchange_b23 nx14 n) v1 v2 v3 v4 M3)
    else
    (fX9_findExchange_b54 nx14 (fX9_findExchange_b23 nx14 n) v1 v2 v3 v4 (nI 1) M3))
    else
    (fX9_findExchange_b53 nx14 (fX9_findExchange_b23 nx14 n) v1 v2 v3 v4 M))
set_option maxHeartbeats 4000000 in
set_option maxRecDepth 100000 in
theorem vX9_findExchange_b23 {G : Rg} {X : Ct} {r : Unit} {Mf : Mm}  {nx14 : Int32 → Int32 → Int32 → Mm → Option (Unit × Mm)} (C : cxX9_findExchange G X) (hG : gS G = shM)  (hx14 : ∀ (v1 : Int32) (v2 : Int32) (v3 : Int32) (M : Mm), nx14 v1 v2 v3 M = some (r, Mf) → V G X 6 none Mf 14 [(0, .ref (gA G 0)), (1, .int v1), (2, .int v2), (3, .int v3)] [] M) : ∀ (n : Nat) (v1 : Int32) (v2 : Int32) (v3 : Int32) (v4 : Int32) (M : Mm), fX9_findExchange_b23 nx14 n v1 v2 v3 v4 M = some (r, Mf) → V G X 6 none Mf 23 [(0, .ref (gA G 0)), (1, .int v1), (2, .int v2), (3, .int v3), (4, .int v4)] [] M := by
  intro n
  induction n with
  | zero => intro v1 v2 v3 v4 M hf; rw [fX9_findExchange_b23] at hf; cases hf
  | succ n ih =>
    intro v1 v2 v3 v4 M hf
    rw [fX9_findExchange_b23] at hf
    refine V.iload (pc := 23) C 4 rfl dX9_findExchange_23 ?_
    refine V.bipush (pc := 25) C (nI 64) (by decide) dX9_findExchange_25 ?_
    rcases it_some hf with ⟨h1, hf⟩ | ⟨h1, hf⟩
    · refine V.ic_geT (pc := 27) C 88 h1 (by decide) dX9_findExchange_27 ?_
      refine V.iinc (pc := 88) (lv' := [(3, .int (v3 + (nI 1))), (0, .ref (gA G 0)), (1, .int v1), (2, .int v2), (4, .int v4)]) C (v3 + (nI 1)) 3 rfl rfl (by decide) rfl dX9_findExchange_88 ?_
      refine V.goto (pc := 91) C 14 (by decide) dX9_findExchange_91 ?_
      refine V.sub C [1, 2, 3, 0] (lv' := [(0, .ref (gA G 0)), (1, .int v1), (2, .int v2), (3, .int (v3 + (nI 1)))]) rfl ?_
      exact hx14 _ _ _ _ hf
    · refine V.ic_geF (pc := 27) C 88 h1 (by decide) dX9_findExchange_27 ?_
      refine V.iload_n (pc := 30) C 1 rfl dX9_findExchange_30 ?_
      refine V.iload_n (pc := 31) C 3 rfl dX9_findExchange_31 ?_
      refine V.iconst (pc := 32) C (mI 1) (by decide) dX9_findExchange_32 ?_
      refine V.ixor (pc := 33) C dX9_findExchange_33 ?_
      refine V.iand (pc := 34) C dX9_findExchange_34 ?_
      rcases it_some hf with ⟨h2, hf⟩ | ⟨h2, hf⟩
      · refine V.if_neF (pc := 35) C 53 h2 (by decide) dX9_findExchange_35 ?_
        refine V.aload_n (pc := 38) C 0 rfl dX9_findExchange_38 ?_
        refine V.iload_n (pc := 39) C 3 rfl dX9_findExchange_39 ?_
        refine V.iload (pc := 40) C 4 rfl dX9_findExchange_40 ?_
        refine V.iload_n (pc := 42) C 2 rfl dX9_findExchange_42 ?_
        obtain ⟨r3, M3, h3, hf⟩ := bd_some hf
        refine V.callVi (pc := 43) (As := [.int v3, .int v4, .int v2]) (rest := []) C (mX9_isBetter X.2.1 hG  h3) mf_X9_isBetter clX9 (sm_0 hG) wM_X9_213 rfl rfl ⟨by decide, by decide⟩ (Nat.le_of_ble_eq_true rfl) dX9_findExchange_43 ?_
        rcases it_some hf with ⟨h4, hf⟩ | ⟨h4, hf⟩
        · refine V.if_eqT (pc := 46) C 53 h4 (by decide) dX9_findExchange_46 ?_
          exact vX9_findExchange_b53 C hG  hx14 ih  _ _ _ _ _ hf
        · refine V.if_eqF (pc := 46) C 53 h4 (by decide) dX9_findExchange_46 ?_
          refine V.iconst (pc := 49) C (nI 1) (by decide) dX9_findExchange_49 ?_
          refine V.goto (pc := 50) C 54 (by decide) dX9_findExchange_50 ?_
          exact vX9_findExchange_b54 C hG  hx14 ih  _ _ _ _ _ _ hf
      · refine V.if_neT (pc := 35) C 53 h2 (by decide) dX9_findExchange_35 ?_
        exact vX9_findExchange_b53 C hG  hx14 ih  _ _ _ _ _ hf
def fX9_findExchange_b14   : Nat → Int32 → Int32 → Int32 → Mm → Option (Unit × Mm)
  | 0, _, _, _, _ => none
  | n + 1, v1, v2, v3, M =>
    if (nI 64) ≤ v3 then
    (some ((), M))
    else
    (fX9_findExchange_b23 (fX9_findExchange_b14  n) fu v1 v2 v3 (nI 1) M)
set_option maxHeartbeats 4000000 in
set_option maxRecDepth 100000 in
theorem vX9_findExchange_b14 {G : Rg} {X : Ct} {r : Unit} {Mf : Mm}   (C : cxX9_findExchange G X) (hG : gS G = shM)   : ∀ (n : Nat) (v1 : Int32) (v2 : Int32) (v3 : Int32) (M : Mm), fX9_findExchange_b14 n v1 v2 v3 M = some (r, Mf) → V G X 6 none Mf 14 [(0, .ref (gA G 0)), (1, .int v1), (2, .int v2), (3, .int v3)] [] M := by
  intro n
  induction n with
  | zero => intro v1 v2 v3 M hf; rw [fX9_findExchange_b14] at hf; cases hf
  | succ n ih =>
    intro v1 v2 v3 M hf
    rw [fX9_findExchange_b14] at hf
    refine V.iload_n (pc := 14) C 3 rfl dX9_findExchange_14 ?_
    refine V.bipush (pc := 15) C (nI 64) (by decide) dX9_findExchange_15 ?_
    rcases it_some hf with ⟨h1, hf⟩ | ⟨h1, hf⟩
    · refine V.ic_geT (pc := 17) C 94 h1 (by decide) dX9_findExchange_17 ?_
      exact V.retV (pc := 94) C hf dX9_findExchange_94
    · refine V.ic_geF (pc := 17) C 94 h1 (by decide) dX9_findExchange_17 ?_
      refine V.iconst (pc := 20) C (nI 1) (by decide) dX9_findExchange_20 ?_
      refine V.istore (pc := 21) (lv' := [(4, .int (nI 1)), (0, .ref (gA G 0)), (1, .int v1), (2, .int v2), (3, .int v3)]) C (by decide) rfl dX9_findExchange_21 ?_
      refine V.sub C [1, 2, 3, 4, 0] (lv' := [(0, .ref (gA G 0)), (1, .int v1), (2, .int v2), (3, .int v3), (4, .int (nI 1))]) rfl ?_
      exact vX9_findExchange_b23 C hG  ih fu _ _ _ _ _ hf
def fX9_findExchange (x1 : Int32) (x2 : Int32) (M : Mm) : Option (Unit × Mm) :=
fX9_findExchange_b14 fu x1 x2 (nI 1) (sI (sI M 0 23 (mI 6)) 0 24 (mI 6))
set_option maxHeartbeats 4000000 in
set_option maxRecDepth 100000 in
theorem mX9_findExchange (l : Launch) {G : Rg} (hG : gS G = shM) {x1 : Int32} {x2 : Int32}  {M Mf : Mm} {r : Unit} (hf : fX9_findExchange x1 x2 M = some (r, Mf)) : Mt l G yX9_findExchange cX9_findExchange 6 (none) 5 113 [.ref (gA G 0), .int x1, .int x2] M none Mf := by
  refine Mt.of (by decide) (Nat.le_of_ble_eq_true rfl) ?_
  intro X C hX
  subst hX
  have C : cxX9_findExchange G X := C
  show V G X 6 none Mf 0 [(0, .ref (gA G 0)), (1, .int x1), (2, .int x2)] [] M
  rw [fX9_findExchange] at hf
  refine V.aload_n (pc := 0) C 0 rfl dX9_findExchange_0 ?_
  refine V.bipush (pc := 1) C (mI 6) (by decide) dX9_findExchange_1 ?_
  refine V.putI (pc := 3) C clX9 inX9 (sm_0 hG) 23 (by decide) wF_X9_207 tyX9 tyX9_ok nmX9 rfl (tyX9_ok 23 (by decide)) rfl dX9_findExchange_3 ?_
  refine V.aload_n (pc := 6) C 0 rfl dX9_findExchange_6 ?_
  refine V.bipush (pc := 7) C (mI 6) (by decide) dX9_findExchange_7 ?_
  refine V.putI (pc := 9) C clX9 inX9 (sm_0 hG) 24 (by decide) wF_X9_210 tyX9 tyX9_ok nmX9 rfl (tyX9_ok 24 (by decide)) rfl dX9_findExchange_9 ?_
  refine V.iconst (pc := 12) C (nI 1) (by decide) dX9_findExchange_12 ?_
  refine V.istore_n (pc := 13) (lv' := [(3, .int (nI 1)), (0, .ref (gA G 0)), (1, .int x1), (2, .int x2)]) C (by decide) rfl dX9_findExchange_13 ?_
  refine V.sub C [1, 2, 3, 0] (lv' := [(0, .ref (gA G 0)), (1, .int x1), (2, .int x2), (3, .int (nI 1))]) rfl ?_
  exact vX9_findExchange_b14 C hG   fu _ _ _ _ hf
theorem dX9_home_0 : decode cX9_home 0 = .ok (.iload_n 1, 1) := by decide +kernel
theorem dX9_home_1 : decode cX9_home 1 = .ok (.i2l, 1) := by decide +kernel
theorem dX9_home_2 : decode cX9_home 2 = .ok (.lconst 0, 1) := by decide +kernel
theorem dX9_home_3 : decode cX9_home 3 = .ok (.ldc2_w 202, 3) := by decide +kernel
theorem dX9_home_6 : decode cX9_home 6 = .ok (.invokestatic 69, 3) := by decide +kernel
theorem dX9_home_9 : decode cX9_home 9 = .ok (.ifCond .ne 6, 3) := by decide +kernel
theorem dX9_home_12 : decode cX9_home 12 = .ok (.bipush (-2), 2) := by decide +kernel
theorem dX9_home_14 : decode cX9_home 14 = .ok (.ireturn, 1) := by decide +kernel
theorem dX9_home_15 : decode cX9_home 15 = .ok (.aload_n 0, 1) := by decide +kernel
theorem dX9_home_16 : decode cX9_home 16 = .ok (.iconst 0, 1) := by decide +kernel
theorem dX9_home_17 : decode cX9_home 17 = .ok (.iconst 1, 1) := by decide +kernel
theorem dX9_home_18 : decode cX9_home 18 = .ok (.invokevirtual 220, 3) := by decide +kernel
theorem dX9_home_21 : decode cX9_home 21 = .ok (.aload_n 0, 1) := by decide +kernel
theorem dX9_home_22 : decode cX9_home 22 = .ok (.getfield 207, 3) := by decide +kernel
theorem dX9_home_25 : decode cX9_home 25 = .ok (.ifCond .ge 8, 3) := by decide +kernel
theorem dX9_home_28 : decode cX9_home 28 = .ok (.bipush (-6), 2) := by decide +kernel
theorem dX9_home_30 : decode cX9_home 30 = .ok (.goto 33, 3) := by decide +kernel
theorem dX9_home_33 : decode cX9_home 33 = .ok (.iload_n 1, 1) := by decide +kernel
theorem dX9_home_34 : decode cX9_home 34 = .ok (.ifCond .ne 13, 3) := by decide +kernel
theorem dX9_home_37 : decode cX9_home 37 = .ok (.aload_n 0, 1) := by decide +kernel
theorem dX9_home_38 : decode cX9_home 38 = .ok (.getfield 207, 3) := by decide +kernel
theorem dX9_home_41 : decode cX9_home 41 = .ok (.invokestatic 82, 3) := by decide +kernel
theorem dX9_home_44 : decode cX9_home 44 = .ok (.goto 19, 3) := by decide +kernel
theorem dX9_home_47 : decode cX9_home 47 = .ok (.iload_n 1, 1) := by decide +kernel
theorem dX9_home_48 : decode cX9_home 48 = .ok (.iconst 1, 1) := by decide +kernel
theorem dX9_home_49 : decode cX9_home 49 = .ok (.if_icmp .ne 10, 3) := by decide +kernel
theorem dX9_home_52 : decode cX9_home 52 = .ok (.aload_n 0, 1) := by decide +kernel
theorem dX9_home_53 : decode cX9_home 53 = .ok (.getfield 207, 3) := by decide +kernel
theorem dX9_home_56 : decode cX9_home 56 = .ok (.goto 7, 3) := by decide +kernel
theorem dX9_home_59 : decode cX9_home 59 = .ok (.aload_n 0, 1) := by decide +kernel
theorem dX9_home_60 : decode cX9_home 60 = .ok (.getfield 210, 3) := by decide +kernel
theorem dX9_home_63 : decode cX9_home 63 = .ok (.ireturn, 1) := by decide +kernel
abbrev cxX9_home (G : Rg) (X : Ct) : Prop := Cx G X cX9_home 2 RX9 (some .int) 6 138 (Cond.code yX9_home cX9_home 2 (some .int))
def fX9_home (x1 : Int32) (M : Mm) : Option (Int32 × Mm) :=
bd (fX9_in x1.toInt64 (lN 0) (lN 2) M) fun r1 M1 =>
if r1 = (nI 0) then
(some ((mI 2), M1))
else
(bd (fX9_findExchange (nI 0) (nI 1) M1) fun _ M3 =>
if (nI 0) ≤ (M3.1 0 23) then
(if x1 = (nI 0) then
(bd (fX9_ones (M3.1 0 23) M3) fun r7 M7 =>
some (r7, M7))
else
(if x1 = (nI 1) then
(some ((M3.1 0 23), M3))
else
(some ((M3.1 0 24), M3))))
else
(some ((mI 6), M3)))
set_option maxHeartbeats 4000000 in
set_option maxRecDepth 100000 in
theorem mX9_home (l : Launch) {G : Rg} (hG : gS G = shM) {x1 : Int32}  {M Mf : Mm} {r : Int32} (hf : fX9_home x1 M = some (r, Mf)) : Mt l G yX9_home cX9_home 2 (some .int) 6 138 [.ref (gA G 0), .int x1] M (some (.int r)) Mf := by
  refine Mt.of (by decide) (Nat.le_of_ble_eq_true rfl) ?_
  intro X C hX
  subst hX
  have C : cxX9_home G X := C
  show V G X 2 (some (.int r)) Mf 0 [(0, .ref (gA G 0)), (1, .int x1)] [] M
  rw [fX9_home] at hf
  refine V.iload_n (pc := 0) C 1 rfl dX9_home_0 ?_
  refine V.i2l (pc := 1) C dX9_home_1 ?_
  refine V.lconst (pc := 2) C (lN 0) (by decide) dX9_home_2 ?_
  refine V.ldc2 (pc := 3) C wL_X9_202 dX9_home_3 ?_
  obtain ⟨r1, M1, h1, hf⟩ := bd_some hf
  refine V.callSi (pc := 6) (As := [.long x1.toInt64, .long (lN 0), .long (lN 2)]) (rest := []) C (mX9_in X.2.1 hG  h1) mf_X9_in wM_X9_69 rfl rfl ⟨by decide, by decide⟩ (Nat.le_of_ble_eq_true rfl) dX9_home_6 ?_
  rcases it_some hf with ⟨h2, hf⟩ | ⟨h2, hf⟩
  · refine V.if_neF (pc := 9) C 15 h2 (by decide) dX9_home_9 ?_
    refine V.bipush (pc := 12) C (mI 2) (by decide) dX9_home_12 ?_
    exact V.retI (pc := 14) C hf dX9_home_14
  · refine V.if_neT (pc := 9) C 15 h2 (by decide) dX9_home_9 ?_
    refine V.aload_n (pc := 15) C 0 rfl dX9_home_15 ?_
    refine V.iconst (pc := 16) C (nI 0) (by decide) dX9_home_16 ?_
    refine V.iconst (pc := 17) C (nI 1) (by decide) dX9_home_17 ?_
    obtain ⟨_, M3, h3, hf⟩ := bd_some hf
    refine V.callVv (pc := 18) (As := [.int (nI 0), .int (nI 1)]) (rest := []) C (mX9_findExchange X.2.1 hG  h3) mf_X9_findExchange clX9 (sm_0 hG) wM_X9_220 rfl rfl ⟨by decide, by decide⟩ (Nat.le_of_ble_eq_true rfl) dX9_home_18 ?_
    refine V.aload_n (pc := 21) C 0 rfl dX9_home_21 ?_
    refine V.getI (pc := 22) C clX9 inX9 (sm_0 hG) 23 (by decide) wF_X9_207 rfl dX9_home_22 ?_
    rcases it_some hf with ⟨h4, hf⟩ | ⟨h4, hf⟩
    · refine V.if_geT (pc := 25) C 33 h4 (by decide) dX9_home_25 ?_
      refine V.iload_n (pc := 33) C 1 rfl dX9_home_33 ?_
      rcases it_some hf with ⟨h5, hf⟩ | ⟨h5, hf⟩
      · refine V.if_neF (pc := 34) C 47 h5 (by decide) dX9_home_34 ?_
        refine V.aload_n (pc := 37) C 0 rfl dX9_home_37 ?_
        refine V.getI (pc := 38) C clX9 inX9 (sm_0 hG) 23 (by decide) wF_X9_207 rfl dX9_home_38 ?_
        obtain ⟨r7, M7, h7, hf⟩ := bd_some hf
        refine V.callSi (pc := 41) (As := [.int (M3.1 0 23)]) (rest := []) C (mX9_ones X.2.1 hG  h7) mf_X9_ones wM_X9_82 rfl rfl ⟨by decide, by decide⟩ (Nat.le_of_ble_eq_true rfl) dX9_home_41 ?_
        refine V.goto (pc := 44) C 63 (by decide) dX9_home_44 ?_
        exact V.retI (pc := 63) C hf dX9_home_63
      · refine V.if_neT (pc := 34) C 47 h5 (by decide) dX9_home_34 ?_
        refine V.iload_n (pc := 47) C 1 rfl dX9_home_47 ?_
        refine V.iconst (pc := 48) C (nI 1) (by decide) dX9_home_48 ?_
        rcases it_some hf with ⟨h6, hf⟩ | ⟨h6, hf⟩
        · refine V.ic_neF (pc := 49) C 59 h6 (by decide) dX9_home_49 ?_
          refine V.aload_n (pc := 52) C 0 rfl dX9_home_52 ?_
          refine V.getI (pc := 53) C clX9 inX9 (sm_0 hG) 23 (by decide) wF_X9_207 rfl dX9_home_53 ?_
          refine V.goto (pc := 56) C 63 (by decide) dX9_home_56 ?_
          exact V.retI (pc := 63) C hf dX9_home_63
        · refine V.ic_neT (pc := 49) C 59 h6 (by decide) dX9_home_49 ?_
          refine V.aload_n (pc := 59) C 0 rfl dX9_home_59 ?_
          refine V.getI (pc := 60) C clX9 inX9 (sm_0 hG) 24 (by decide) wF_X9_210 rfl dX9_home_60 ?_
          exact V.retI (pc := 63) C hf dX9_home_63
    · refine V.if_geF (pc := 25) C 33 h4 (by decide) dX9_home_25 ?_
      refine V.bipush (pc := 28) C (mI 6) (by decide) dX9_home_28 ?_
      refine V.goto (pc := 30) C 63 (by decide) dX9_home_30 ?_
      exact V.retI (pc := 63) C hf dX9_home_63
theorem dX9_bring_0 : decode cX9_bring 0 = .ok (.iload_n 1, 1) := by decide +kernel
theorem dX9_bring_1 : decode cX9_bring 1 = .ok (.i2l, 1) := by decide +kernel
theorem dX9_bring_2 : decode cX9_bring 2 = .ok (.lconst 0, 1) := by decide +kernel
theorem dX9_bring_3 : decode cX9_bring 3 = .ok (.ldc2_w 76, 3) := by decide +kernel
theorem dX9_bring_6 : decode cX9_bring 6 = .ok (.invokestatic 69, 3) := by decide +kernel
theorem dX9_bring_9 : decode cX9_bring 9 = .ok (.ifCond .eq 11, 3) := by decide +kernel
theorem dX9_bring_12 : decode cX9_bring 12 = .ok (.aload_n 0, 1) := by decide +kernel
theorem dX9_bring_13 : decode cX9_bring 13 = .ok (.iload_n 1, 1) := by decide +kernel
theorem dX9_bring_14 : decode cX9_bring 14 = .ok (.invokevirtual 86, 3) := by decide +kernel
theorem dX9_bring_17 : decode cX9_bring 17 = .ok (.ifCond .ne 5, 3) := by decide +kernel
theorem dX9_bring_20 : decode cX9_bring 20 = .ok (.iconst (-1), 1) := by decide +kernel
theorem dX9_bring_21 : decode cX9_bring 21 = .ok (.ireturn, 1) := by decide +kernel
theorem dX9_bring_22 : decode cX9_bring 22 = .ok (.iload_n 2, 1) := by decide +kernel
theorem dX9_bring_23 : decode cX9_bring 23 = .ok (.i2l, 1) := by decide +kernel
theorem dX9_bring_24 : decode cX9_bring 24 = .ok (.lconst 0, 1) := by decide +kernel
theorem dX9_bring_25 : decode cX9_bring 25 = .ok (.ldc2_w 202, 3) := by decide +kernel
theorem dX9_bring_28 : decode cX9_bring 28 = .ok (.invokestatic 69, 3) := by decide +kernel
theorem dX9_bring_31 : decode cX9_bring 31 = .ok (.ifCond .ne 6, 3) := by decide +kernel
theorem dX9_bring_34 : decode cX9_bring 34 = .ok (.bipush (-2), 2) := by decide +kernel
theorem dX9_bring_36 : decode cX9_bring 36 = .ok (.ireturn, 1) := by decide +kernel
theorem dX9_bring_37 : decode cX9_bring 37 = .ok (.aload_n 0, 1) := by decide +kernel
theorem dX9_bring_38 : decode cX9_bring 38 = .ok (.iload_n 1, 1) := by decide +kernel
theorem dX9_bring_39 : decode cX9_bring 39 = .ok (.invokevirtual 134, 3) := by decide +kernel
theorem dX9_bring_42 : decode cX9_bring 42 = .ok (.ifCond .ne 6, 3) := by decide +kernel
theorem dX9_bring_45 : decode cX9_bring 45 = .ok (.bipush (-3), 2) := by decide +kernel
theorem dX9_bring_47 : decode cX9_bring 47 = .ok (.ireturn, 1) := by decide +kernel
theorem dX9_bring_48 : decode cX9_bring 48 = .ok (.aload_n 0, 1) := by decide +kernel
theorem dX9_bring_49 : decode cX9_bring 49 = .ok (.iconst 1, 1) := by decide +kernel
theorem dX9_bring_50 : decode cX9_bring 50 = .ok (.iload_n 1, 1) := by decide +kernel
theorem dX9_bring_51 : decode cX9_bring 51 = .ok (.ishl, 1) := by decide +kernel
theorem dX9_bring_52 : decode cX9_bring 52 = .ok (.iconst 0, 1) := by decide +kernel
theorem dX9_bring_53 : decode cX9_bring 53 = .ok (.invokevirtual 220, 3) := by decide +kernel
theorem dX9_bring_56 : decode cX9_bring 56 = .ok (.aload_n 0, 1) := by decide +kernel
theorem dX9_bring_57 : decode cX9_bring 57 = .ok (.getfield 207, 3) := by decide +kernel
theorem dX9_bring_60 : decode cX9_bring 60 = .ok (.ifCond .ge 8, 3) := by decide +kernel
theorem dX9_bring_63 : decode cX9_bring 63 = .ok (.bipush (-6), 2) := by decide +kernel
theorem dX9_bring_65 : decode cX9_bring 65 = .ok (.goto 33, 3) := by decide +kernel
theorem dX9_bring_68 : decode cX9_bring 68 = .ok (.iload_n 2, 1) := by decide +kernel
theorem dX9_bring_69 : decode cX9_bring 69 = .ok (.ifCond .ne 13, 3) := by decide +kernel
theorem dX9_bring_72 : decode cX9_bring 72 = .ok (.aload_n 0, 1) := by decide +kernel
theorem dX9_bring_73 : decode cX9_bring 73 = .ok (.getfield 210, 3) := by decide +kernel
theorem dX9_bring_76 : decode cX9_bring 76 = .ok (.invokestatic 82, 3) := by decide +kernel
theorem dX9_bring_79 : decode cX9_bring 79 = .ok (.goto 19, 3) := by decide +kernel
theorem dX9_bring_82 : decode cX9_bring 82 = .ok (.iload_n 2, 1) := by decide +kernel
theorem dX9_bring_83 : decode cX9_bring 83 = .ok (.iconst 1, 1) := by decide +kernel
theorem dX9_bring_84 : decode cX9_bring 84 = .ok (.if_icmp .ne 10, 3) := by decide +kernel
theorem dX9_bring_87 : decode cX9_bring 87 = .ok (.aload_n 0, 1) := by decide +kernel
theorem dX9_bring_88 : decode cX9_bring 88 = .ok (.getfield 207, 3) := by decide +kernel
theorem dX9_bring_91 : decode cX9_bring 91 = .ok (.goto 7, 3) := by decide +kernel
theorem dX9_bring_94 : decode cX9_bring 94 = .ok (.aload_n 0, 1) := by decide +kernel
theorem dX9_bring_95 : decode cX9_bring 95 = .ok (.getfield 210, 3) := by decide +kernel
theorem dX9_bring_98 : decode cX9_bring 98 = .ok (.ireturn, 1) := by decide +kernel
abbrev cxX9_bring (G : Rg) (X : Ct) : Prop := Cx G X cX9_bring 3 RX9 (some .int) 6 138 (Cond.code yX9_bring cX9_bring 3 (some .int))
def fX9_bring (x1 : Int32) (x2 : Int32) (M : Mm) : Option (Int32 × Mm) :=
bd (fX9_in x1.toInt64 (lN 0) (lN 5) M) fun r1 M1 =>
if r1 = (nI 0) then
(some ((mI 1), M1))
else
(bd (fX9_isOfficer x1 M1) fun r3 M3 =>
if r3 = (nI 0) then
(some ((mI 1), M3))
else
(bd (fX9_in x2.toInt64 (lN 0) (lN 2) M3) fun r5 M5 =>
if r5 = (nI 0) then
(some ((mI 2), M5))
else
(bd (fX9_isOpen x1 M5) fun r7 M7 =>
if r7 = (nI 0) then
(some ((mI 3), M7))
else
(bd (fX9_findExchange (jshl (nI 1) x1) (nI 0) M7) fun _ M9 =>
if (nI 0) ≤ (M9.1 0 23) then
(if x2 = (nI 0) then
(bd (fX9_ones (M9.1 0 24) M9) fun r13 M13 =>
some (r13, M13))
else
(if x2 = (nI 1) then
(some ((M9.1 0 23), M9))
else
(some ((M9.1 0 24), M9))))
else
(some ((mI 6), M9))))))
set_option maxHeartbeats 4000000 in
set_option maxRecDepth 100000 in
theorem mX9_bring (l : Launch) {G : Rg} (hG : gS G = shM) {x1 : Int32} {x2 : Int32}  {M Mf : Mm} {r : Int32} (hf : fX9_bring x1 x2 M = some (r, Mf)) : Mt l G yX9_bring cX9_bring 3 (some .int) 6 138 [.ref (gA G 0), .int x1, .int x2] M (some (.int r)) Mf := by
  refine Mt.of (by decide) (Nat.le_of_ble_eq_true rfl) ?_
  intro X C hX
  subst hX
  have C : cxX9_bring G X := C
  show V G X 3 (some (.int r)) Mf 0 [(0, .ref (gA G 0)), (1, .int x1), (2, .int x2)] [] M
  rw [fX9_bring] at hf
  refine V.iload_n (pc := 0) C 1 rfl dX9_bring_0 ?_
  refine V.i2l (pc := 1) C dX9_bring_1 ?_
  refine V.lconst (pc := 2) C (lN 0) (by decide) dX9_bring_2 ?_
  refine V.ldc2 (pc := 3) C wL_X9_76 dX9_bring_3 ?_
  obtain ⟨r1, M1, h1, hf⟩ := bd_some hf
  refine V.callSi (pc := 6) (As := [.long x1.toInt64, .long (lN 0), .long (lN 5)]) (rest := []) C (mX9_in X.2.1 hG  h1) mf_X9_in wM_X9_69 rfl rfl ⟨by decide, by decide⟩ (Nat.le_of_ble_eq_true rfl) dX9_bring_6 ?_
  rcases it_some hf with ⟨h2, hf⟩ | ⟨h2, hf⟩
  · refine V.if_eqT (pc := 9) C 20 h2 (by decide) dX9_bring_9 ?_
    refine V.iconst (pc := 20) C (mI 1) (by decide) dX9_bring_20 ?_
    exact V.retI (pc := 21) C hf dX9_bring_21
  · refine V.if_eqF (pc := 9) C 20 h2 (by decide) dX9_bring_9 ?_
    refine V.aload_n (pc := 12) C 0 rfl dX9_bring_12 ?_
    refine V.iload_n (pc := 13) C 1 rfl dX9_bring_13 ?_
    obtain ⟨r3, M3, h3, hf⟩ := bd_some hf
    refine V.callVi (pc := 14) (As := [.int x1]) (rest := []) C (mX9_isOfficer X.2.1 hG  h3) mf_X9_isOfficer clX9 (sm_0 hG) wM_X9_86 rfl rfl ⟨by decide, by decide⟩ (Nat.le_of_ble_eq_true rfl) dX9_bring_14 ?_
    rcases it_some hf with ⟨h4, hf⟩ | ⟨h4, hf⟩
    · refine V.if_neF (pc := 17) C 22 h4 (by decide) dX9_bring_17 ?_
      refine V.iconst (pc := 20) C (mI 1) (by decide) dX9_bring_20 ?_
      exact V.retI (pc := 21) C hf dX9_bring_21
    · refine V.if_neT (pc := 17) C 22 h4 (by decide) dX9_bring_17 ?_
      refine V.iload_n (pc := 22) C 2 rfl dX9_bring_22 ?_
      refine V.i2l (pc := 23) C dX9_bring_23 ?_
      refine V.lconst (pc := 24) C (lN 0) (by decide) dX9_bring_24 ?_
      refine V.ldc2 (pc := 25) C wL_X9_202 dX9_bring_25 ?_
      obtain ⟨r5, M5, h5, hf⟩ := bd_some hf
      refine V.callSi (pc := 28) (As := [.long x2.toInt64, .long (lN 0), .long (lN 2)]) (rest := []) C (mX9_in X.2.1 hG  h5) mf_X9_in wM_X9_69 rfl rfl ⟨by decide, by decide⟩ (Nat.le_of_ble_eq_true rfl) dX9_bring_28 ?_
      rcases it_some hf with ⟨h6, hf⟩ | ⟨h6, hf⟩
      · refine V.if_neF (pc := 31) C 37 h6 (by decide) dX9_bring_31 ?_
        refine V.bipush (pc := 34) C (mI 2) (by decide) dX9_bring_34 ?_
        exact V.retI (pc := 36) C hf dX9_bring_36
      · refine V.if_neT (pc := 31) C 37 h6 (by decide) dX9_bring_31 ?_
        refine V.aload_n (pc := 37) C 0 rfl dX9_bring_37 ?_
        refine V.iload_n (pc := 38) C 1 rfl dX9_bring_38 ?_
        obtain ⟨r7, M7, h7, hf⟩ := bd_some hf
        refine V.callVi (pc := 39) (As := [.int x1]) (rest := []) C (mX9_isOpen X.2.1 hG  h7) mf_X9_isOpen clX9 (sm_0 hG) wM_X9_134 rfl rfl ⟨by decide, by decide⟩ (Nat.le_of_ble_eq_true rfl) dX9_bring_39 ?_
        rcases it_some hf with ⟨h8, hf⟩ | ⟨h8, hf⟩
        · refine V.if_neF (pc := 42) C 48 h8 (by decide) dX9_bring_42 ?_
          refine V.bipush (pc := 45) C (mI 3) (by decide) dX9_bring_45 ?_
          exact V.retI (pc := 47) C hf dX9_bring_47
        · refine V.if_neT (pc := 42) C 48 h8 (by decide) dX9_bring_42 ?_
          refine V.aload_n (pc := 48) C 0 rfl dX9_bring_48 ?_
          refine V.iconst (pc := 49) C (nI 1) (by decide) dX9_bring_49 ?_
          refine V.iload_n (pc := 50) C 1 rfl dX9_bring_50 ?_
          refine V.ishl (pc := 51) C dX9_bring_51 ?_
          refine V.iconst (pc := 52) C (nI 0) (by decide) dX9_bring_52 ?_
          obtain ⟨_, M9, h9, hf⟩ := bd_some hf
          refine V.callVv (pc := 53) (As := [.int (jshl (nI 1) x1), .int (nI 0)]) (rest := []) C (mX9_findExchange X.2.1 hG  h9) mf_X9_findExchange clX9 (sm_0 hG) wM_X9_220 rfl rfl ⟨by decide, by decide⟩ (Nat.le_of_ble_eq_true rfl) dX9_bring_53 ?_
          refine V.aload_n (pc := 56) C 0 rfl dX9_bring_56 ?_
          refine V.getI (pc := 57) C clX9 inX9 (sm_0 hG) 23 (by decide) wF_X9_207 rfl dX9_bring_57 ?_
          rcases it_some hf with ⟨h10, hf⟩ | ⟨h10, hf⟩
          · refine V.if_geT (pc := 60) C 68 h10 (by decide) dX9_bring_60 ?_
            refine V.iload_n (pc := 68) C 2 rfl dX9_bring_68 ?_
            rcases it_some hf with ⟨h11, hf⟩ | ⟨h11, hf⟩
            · refine V.if_neF (pc := 69) C 82 h11 (by decide) dX9_bring_69 ?_
              refine V.aload_n (pc := 72) C 0 rfl dX9_bring_72 ?_
              refine V.getI (pc := 73) C clX9 inX9 (sm_0 hG) 24 (by decide) wF_X9_210 rfl dX9_bring_73 ?_
              obtain ⟨r13, M13, h13, hf⟩ := bd_some hf
              refine V.callSi (pc := 76) (As := [.int (M9.1 0 24)]) (rest := []) C (mX9_ones X.2.1 hG  h13) mf_X9_ones wM_X9_82 rfl rfl ⟨by decide, by decide⟩ (Nat.le_of_ble_eq_true rfl) dX9_bring_76 ?_
              refine V.goto (pc := 79) C 98 (by decide) dX9_bring_79 ?_
              exact V.retI (pc := 98) C hf dX9_bring_98
            · refine V.if_neT (pc := 69) C 82 h11 (by decide) dX9_bring_69 ?_
              refine V.iload_n (pc := 82) C 2 rfl dX9_bring_82 ?_
              refine V.iconst (pc := 83) C (nI 1) (by decide) dX9_bring_83 ?_
              rcases it_some hf with ⟨h12, hf⟩ | ⟨h12, hf⟩
              · refine V.ic_neF (pc := 84) C 94 h12 (by decide) dX9_bring_84 ?_
                refine V.aload_n (pc := 87) C 0 rfl dX9_bring_87 ?_
                refine V.getI (pc := 88) C clX9 inX9 (sm_0 hG) 23 (by decide) wF_X9_207 rfl dX9_bring_88 ?_
                refine V.goto (pc := 91) C 98 (by decide) dX9_bring_91 ?_
                exact V.retI (pc := 98) C hf dX9_bring_98
              · refine V.ic_neT (pc := 84) C 94 h12 (by decide) dX9_bring_84 ?_
                refine V.aload_n (pc := 94) C 0 rfl dX9_bring_94 ?_
                refine V.getI (pc := 95) C clX9 inX9 (sm_0 hG) 24 (by decide) wF_X9_210 rfl dX9_bring_95 ?_
                exact V.retI (pc := 98) C hf dX9_bring_98
          · refine V.if_geF (pc := 60) C 68 h10 (by decide) dX9_bring_60 ?_
            refine V.bipush (pc := 63) C (mI 6) (by decide) dX9_bring_63 ?_
            refine V.goto (pc := 65) C 98 (by decide) dX9_bring_65 ?_
            exact V.retI (pc := 98) C hf dX9_bring_98
theorem dX9_lots_0 : decode cX9_lots 0 = .ok (.iconst 0, 1) := by decide +kernel
theorem dX9_lots_1 : decode cX9_lots 1 = .ok (.istore_n 1, 1) := by decide +kernel
theorem dX9_lots_2 : decode cX9_lots 2 = .ok (.iconst 0, 1) := by decide +kernel
theorem dX9_lots_3 : decode cX9_lots 3 = .ok (.istore_n 2, 1) := by decide +kernel
theorem dX9_lots_4 : decode cX9_lots 4 = .ok (.iload_n 2, 1) := by decide +kernel
theorem dX9_lots_5 : decode cX9_lots 5 = .ok (.bipush 12, 2) := by decide +kernel
theorem dX9_lots_7 : decode cX9_lots 7 = .ok (.if_icmp .ge 27, 3) := by decide +kernel
theorem dX9_lots_10 : decode cX9_lots 10 = .ok (.iload_n 1, 1) := by decide +kernel
theorem dX9_lots_11 : decode cX9_lots 11 = .ok (.aload_n 0, 1) := by decide +kernel
theorem dX9_lots_12 : decode cX9_lots 12 = .ok (.iload_n 2, 1) := by decide +kernel
theorem dX9_lots_13 : decode cX9_lots 13 = .ok (.invokevirtual 134, 3) := by decide +kernel
theorem dX9_lots_16 : decode cX9_lots 16 = .ok (.ifCond .eq 9, 3) := by decide +kernel
theorem dX9_lots_19 : decode cX9_lots 19 = .ok (.iconst 1, 1) := by decide +kernel
theorem dX9_lots_20 : decode cX9_lots 20 = .ok (.iload_n 2, 1) := by decide +kernel
theorem dX9_lots_21 : decode cX9_lots 21 = .ok (.ishl, 1) := by decide +kernel
theorem dX9_lots_22 : decode cX9_lots 22 = .ok (.goto 4, 3) := by decide +kernel
theorem dX9_lots_25 : decode cX9_lots 25 = .ok (.iconst 0, 1) := by decide +kernel
theorem dX9_lots_26 : decode cX9_lots 26 = .ok (.ior, 1) := by decide +kernel
theorem dX9_lots_27 : decode cX9_lots 27 = .ok (.istore_n 1, 1) := by decide +kernel
theorem dX9_lots_28 : decode cX9_lots 28 = .ok (.iinc 2 1, 3) := by decide +kernel
theorem dX9_lots_31 : decode cX9_lots 31 = .ok (.goto (-27), 3) := by decide +kernel
theorem dX9_lots_34 : decode cX9_lots 34 = .ok (.aload_n 0, 1) := by decide +kernel
theorem dX9_lots_35 : decode cX9_lots 35 = .ok (.getfield 46, 3) := by decide +kernel
theorem dX9_lots_38 : decode cX9_lots 38 = .ok (.iconst 0, 1) := by decide +kernel
theorem dX9_lots_39 : decode cX9_lots 39 = .ok (.iconst 0, 1) := by decide +kernel
theorem dX9_lots_40 : decode cX9_lots 40 = .ok (.iastore, 1) := by decide +kernel
theorem dX9_lots_41 : decode cX9_lots 41 = .ok (.iconst 1, 1) := by decide +kernel
theorem dX9_lots_42 : decode cX9_lots 42 = .ok (.istore_n 2, 1) := by decide +kernel
theorem dX9_lots_43 : decode cX9_lots 43 = .ok (.iload_n 2, 1) := by decide +kernel
theorem dX9_lots_44 : decode cX9_lots 44 = .ok (.sipush 4096, 3) := by decide +kernel
theorem dX9_lots_47 : decode cX9_lots 47 = .ok (.if_icmp .ge 98, 3) := by decide +kernel
theorem dX9_lots_50 : decode cX9_lots 50 = .ok (.iload_n 2, 1) := by decide +kernel
theorem dX9_lots_51 : decode cX9_lots 51 = .ok (.iload_n 1, 1) := by decide +kernel
theorem dX9_lots_52 : decode cX9_lots 52 = .ok (.iconst (-1), 1) := by decide +kernel
theorem dX9_lots_53 : decode cX9_lots 53 = .ok (.ixor, 1) := by decide +kernel
theorem dX9_lots_54 : decode cX9_lots 54 = .ok (.iand, 1) := by decide +kernel
theorem dX9_lots_55 : decode cX9_lots 55 = .ok (.ifCond .ne 84, 3) := by decide +kernel
theorem dX9_lots_58 : decode cX9_lots 58 = .ok (.iconst 0, 1) := by decide +kernel
theorem dX9_lots_59 : decode cX9_lots 59 = .ok (.istore_n 3, 1) := by decide +kernel
theorem dX9_lots_60 : decode cX9_lots 60 = .ok (.iconst 0, 1) := by decide +kernel
theorem dX9_lots_61 : decode cX9_lots 61 = .ok (.istore 4, 2) := by decide +kernel
theorem dX9_lots_63 : decode cX9_lots 63 = .ok (.iload 4, 2) := by decide +kernel
theorem dX9_lots_65 : decode cX9_lots 65 = .ok (.bipush 12, 2) := by decide +kernel
theorem dX9_lots_67 : decode cX9_lots 67 = .ok (.if_icmp .ge 51, 3) := by decide +kernel
theorem dX9_lots_70 : decode cX9_lots 70 = .ok (.iload_n 2, 1) := by decide +kernel
theorem dX9_lots_71 : decode cX9_lots 71 = .ok (.iload 4, 2) := by decide +kernel
theorem dX9_lots_73 : decode cX9_lots 73 = .ok (.ishr, 1) := by decide +kernel
theorem dX9_lots_74 : decode cX9_lots 74 = .ok (.iconst 1, 1) := by decide +kernel
theorem dX9_lots_75 : decode cX9_lots 75 = .ok (.iand, 1) := by decide +kernel
theorem dX9_lots_76 : decode cX9_lots 76 = .ok (.iconst 1, 1) := by decide +kernel
theorem dX9_lots_77 : decode cX9_lots 77 = .ok (.if_icmp .ne 19, 3) := by decide +kernel
theorem dX9_lots_80 : decode cX9_lots 80 = .ok (.aload_n 0, 1) := by decide +kernel
theorem dX9_lots_81 : decode cX9_lots 81 = .ok (.getfield 46, 3) := by decide +kernel
theorem dX9_lots_84 : decode cX9_lots 84 = .ok (.iload_n 2, 1) := by decide +kernel
theorem dX9_lots_85 : decode cX9_lots 85 = .ok (.iconst 1, 1) := by decide +kernel
theorem dX9_lots_86 : decode cX9_lots 86 = .ok (.iload 4, 2) := by decide +kernel
theorem dX9_lots_88 : decode cX9_lots 88 = .ok (.ishl, 1) := by decide +kernel
theorem dX9_lots_89 : decode cX9_lots 89 = .ok (.iconst (-1), 1) := by decide +kernel
theorem dX9_lots_90 : decode cX9_lots 90 = .ok (.ixor, 1) := by decide +kernel
theorem dX9_lots_91 : decode cX9_lots 91 = .ok (.iand, 1) := by decide +kernel
theorem dX9_lots_92 : decode cX9_lots 92 = .ok (.iaload, 1) := by decide +kernel
theorem dX9_lots_93 : decode cX9_lots 93 = .ok (.goto 4, 3) := by decide +kernel
theorem dX9_lots_96 : decode cX9_lots 96 = .ok (.iconst 0, 1) := by decide +kernel
theorem dX9_lots_97 : decode cX9_lots 97 = .ok (.istore 5, 2) := by decide +kernel
theorem dX9_lots_99 : decode cX9_lots 99 = .ok (.iload 5, 2) := by decide +kernel
theorem dX9_lots_101 : decode cX9_lots 101 = .ok (.iload_n 3, 1) := by decide +kernel
theorem dX9_lots_102 : decode cX9_lots 102 = .ok (.if_icmp .le 8, 3) := by decide +kernel
theorem dX9_lots_105 : decode cX9_lots 105 = .ok (.iload 5, 2) := by decide +kernel
theorem dX9_lots_107 : decode cX9_lots 107 = .ok (.goto 4, 3) := by decide +kernel
theorem dX9_lots_110 : decode cX9_lots 110 = .ok (.iload_n 3, 1) := by decide +kernel
theorem dX9_lots_111 : decode cX9_lots 111 = .ok (.istore_n 3, 1) := by decide +kernel
theorem dX9_lots_112 : decode cX9_lots 112 = .ok (.iinc 4 1, 3) := by decide +kernel
theorem dX9_lots_115 : decode cX9_lots 115 = .ok (.goto (-52), 3) := by decide +kernel
theorem dX9_lots_118 : decode cX9_lots 118 = .ok (.aload_n 0, 1) := by decide +kernel
theorem dX9_lots_119 : decode cX9_lots 119 = .ok (.getfield 46, 3) := by decide +kernel
theorem dX9_lots_122 : decode cX9_lots 122 = .ok (.iload_n 2, 1) := by decide +kernel
theorem dX9_lots_123 : decode cX9_lots 123 = .ok (.iload_n 3, 1) := by decide +kernel
theorem dX9_lots_124 : decode cX9_lots 124 = .ok (.aload_n 0, 1) := by decide +kernel
theorem dX9_lots_125 : decode cX9_lots 125 = .ok (.iload_n 2, 1) := by decide +kernel
theorem dX9_lots_126 : decode cX9_lots 126 = .ok (.invokevirtual 143, 3) := by decide +kernel
theorem dX9_lots_129 : decode cX9_lots 129 = .ok (.ifCond .ne 7, 3) := by decide +kernel
theorem dX9_lots_132 : decode cX9_lots 132 = .ok (.iconst 1, 1) := by decide +kernel
theorem dX9_lots_133 : decode cX9_lots 133 = .ok (.goto 4, 3) := by decide +kernel
theorem dX9_lots_136 : decode cX9_lots 136 = .ok (.iconst 0, 1) := by decide +kernel
theorem dX9_lots_137 : decode cX9_lots 137 = .ok (.iadd, 1) := by decide +kernel
theorem dX9_lots_138 : decode cX9_lots 138 = .ok (.iastore, 1) := by decide +kernel
theorem dX9_lots_139 : decode cX9_lots 139 = .ok (.iinc 2 1, 3) := by decide +kernel
theorem dX9_lots_142 : decode cX9_lots 142 = .ok (.goto (-99), 3) := by decide +kernel
theorem dX9_lots_145 : decode cX9_lots 145 = .ok (.aload_n 0, 1) := by decide +kernel
theorem dX9_lots_146 : decode cX9_lots 146 = .ok (.getfield 46, 3) := by decide +kernel
theorem dX9_lots_149 : decode cX9_lots 149 = .ok (.iload_n 1, 1) := by decide +kernel
theorem dX9_lots_150 : decode cX9_lots 150 = .ok (.iaload, 1) := by decide +kernel
theorem dX9_lots_151 : decode cX9_lots 151 = .ok (.ireturn, 1) := by decide +kernel
abbrev cxX9_lots (G : Rg) (X : Ct) : Prop := Cx G X cX9_lots 6 RX9 (some .int) 3 67 (Cond.code yX9_lots cX9_lots 6 (some .int))
def fX9_lots_b118 (nx43 : Int32 → Int32 → Mm → Option (Int32 × Mm))  (v1 : Int32) (v2 : Int32) (v3 : Int32) (M : Mm) : Option (Int32 × Mm) :=
bd (fX9_worthOf v2 M) fun r1 M1 =>
if r1 = (nI 0) then
(gd (inb v2 4096) (
nx43 v1 (v2 + (nI 1)) (sI M1 13 v2.toNatClampNeg (v3 + (nI 1)))))
else
(gd (inb v2 4096) (
nx43 v1 (v2 + (nI 1)) (sI M1 13 v2.toNatClampNeg (v3 + (nI 0)))))
set_option maxHeartbeats 4000000 in
set_option maxRecDepth 100000 in
theorem vX9_lots_b118 {G : Rg} {X : Ct} {r : Int32} {Mf : Mm}  {nx43 : Int32 → Int32 → Mm → Option (Int32 × Mm)} (C : cxX9_lots G X) (hG : gS G = shM)  (hx43 : ∀ (v1 : Int32) (v2 : Int32) (M : Mm), nx43 v1 v2 M = some (r, Mf) → V G X 6 (some (.int r)) Mf 43 [(0, .ref (gA G 0)), (1, .int v1), (2, .int v2)] [] M) (v1 : Int32) (v2 : Int32) (v3 : Int32) (M : Mm) (hf : fX9_lots_b118 nx43 v1 v2 v3 M = some (r, Mf)) : V G X 6 (some (.int r)) Mf 118 [(0, .ref (gA G 0)), (1, .int v1), (2, .int v2), (3, .int v3)] [] M := by
  rw [fX9_lots_b118] at hf
  refine V.aload_n (pc := 118) C 0 rfl dX9_lots_118 ?_
  refine V.getR (pc := 119) C clX9 inX9 (sm_0 hG) 25 (by decide) wF_X9_46 rfl dX9_lots_119 ?_
  refine V.iload_n (pc := 122) C 2 rfl dX9_lots_122 ?_
  refine V.iload_n (pc := 123) C 3 rfl dX9_lots_123 ?_
  refine V.aload_n (pc := 124) C 0 rfl dX9_lots_124 ?_
  refine V.iload_n (pc := 125) C 2 rfl dX9_lots_125 ?_
  obtain ⟨r1, M1, h1, hf⟩ := bd_some hf
  refine V.callVi (pc := 126) (As := [.int v2]) (rest := [.int v3, .int v2, .ref (gA G 13)]) C (mX9_worthOf X.2.1 hG  h1) mf_X9_worthOf clX9 (sm_0 hG) wM_X9_143 rfl rfl ⟨by decide, by decide⟩ (Nat.le_of_ble_eq_true rfl) dX9_lots_126 ?_
  rcases it_some hf with ⟨h2, hf⟩ | ⟨h2, hf⟩
  · refine V.if_neF (pc := 129) C 136 h2 (by decide) dX9_lots_129 ?_
    refine V.iconst (pc := 132) C (nI 1) (by decide) dX9_lots_132 ?_
    refine V.goto (pc := 133) C 137 (by decide) dX9_lots_133 ?_
    refine V.iadd (pc := 137) C dX9_lots_137 ?_
    obtain ⟨g4, hf⟩ := gd_some hf
    refine V.iast (pc := 138) C (sm_13 hG) (inb_in g4) dX9_lots_138 ?_
    refine V.iinc (pc := 139) (lv' := [(2, .int (v2 + (nI 1))), (0, .ref (gA G 0)), (1, .int v1), (3, .int v3)]) C (v2 + (nI 1)) 2 rfl rfl (by decide) rfl dX9_lots_139 ?_
    refine V.goto (pc := 142) C 43 (by decide) dX9_lots_142 ?_
    refine V.sub C [1, 2, 0] (lv' := [(0, .ref (gA G 0)), (1, .int v1), (2, .int (v2 + (nI 1)))]) rfl ?_
    exact hx43 _ _ _ hf
  · refine V.if_neT (pc := 129) C 136 h2 (by decide) dX9_lots_129 ?_
    refine V.iconst (pc := 136) C (nI 0) (by decide) dX9_lots_136 ?_
    refine V.iadd (pc := 137) C dX9_lots_137 ?_
    obtain ⟨g3, hf⟩ := gd_some hf
    refine V.iast (pc := 138) C (sm_13 hG) (inb_in g3) dX9_lots_138 ?_
    refine V.iinc (pc := 139) (lv' := [(2, .int (v2 + (nI 1))), (0, .ref (gA G 0)), (1, .int v1), (3, .int v3)]) C (v2 + (nI 1)) 2 rfl rfl (by decide) rfl dX9_lots_139 ?_
    refine V.goto (pc := 142) C 43 (by decide) dX9_lots_142 ?_
    refine V.sub C [1, 2, 0] (lv' := [(0, .ref (gA G 0)), (1, .int v1), (2, .int (v2 + (nI 1)))]) rfl ?_
    exact hx43 _ _ _ hf
def fX9_lots_b97 (nx43 : Int32 → Int32 → Mm → Option (Int32 × Mm)) (nx63 : Int32 → Int32 → Int32 → Int32 → Mm → Option (Int32 × Mm))  (v1 : Int32) (v2 : Int32) (v3 : Int32) (v4 : Int32) (s0 : Int32) (M : Mm) : Option (Int32 × Mm) :=
if s0 ≤ v3 then
(nx63 v1 v2 v3 (v4 + (nI 1)) M)
else
(nx63 v1 v2 s0 (v4 + (nI 1)) M)
set_option maxHeartbeats 4000000 in
set_option maxRecDepth 100000 in
theorem vX9_lots_b97 {G : Rg} {X : Ct} {r : Int32} {Mf : Mm}  {nx43 : Int32 → Int32 → Mm → Option (Int32 × Mm)} {nx63 : Int32 → Int32 → Int32 → Int32 → Mm → Option (Int32 × Mm)} (C : cxX9_lots G X) (hG : gS G = shM)  (hx43 : ∀ (v1 : Int32) (v2 : Int32) (M : Mm), nx43 v1 v2 M = some (r, Mf) → V G X 6 (some (.int r)) Mf 43 [(0, .ref (gA G 0)), (1, .int v1), (2, .int v2)] [] M) (hx63 : ∀ (v1 : Int32) (v2 : Int32) (v3 : Int32) (v4 : Int32) (M : Mm), nx63 v1 v2 v3 v4 M = some (r, Mf) → V G X 6 (some (.int r)) Mf 63 [(0, .ref (gA G 0)), (1, .int v1), (2, .int v2), (3, .int v3), (4, .int v4)] [] M) (v1 : Int32) (v2 : Int32) (v3 : Int32) (v4 : Int32) (s0 : Int32) (M : Mm) (hf : fX9_lots_b97 nx43 nx63 v1 v2 v3 v4 s0 M = some (r, Mf)) : V G X 6 (some (.int r)) Mf 97 [(0, .ref (gA G 0)), (1, .int v1), (2, .int v2), (3, .int v3), (4, .int v4)] [.int s0] M := by
  rw [fX9_lots_b97] at hf
  refine V.istore (pc := 97) (lv' := [(5, .int s0), (0, .ref (gA G 0)), (1, .int v1), (2, .int v2), (3, .int v3), (4, .int v4)]) C (by decide) rfl dX9_lots_97 ?_
  refine V.iload (pc := 99) C 0 rfl dX9_lots_99 ?_
  refine V.iload_n (pc := 101) C 4 rfl dX9_lots_101 ?_
  rcases it_some hf with ⟨h1, hf⟩ | ⟨h1, hf⟩
  · refine V.ic_leT (pc := 102) C 110 h1 (by decide) dX9_lots_102 ?_
    refine V.iload_n (pc := 110) C 4 rfl dX9_lots_110 ?_
    refine V.istore_n (pc := 111) (lv' := [(3, .int v3), (5, .int s0), (0, .ref (gA G 0)), (1, .int v1), (2, .int v2), (4, .int v4)]) C (by decide) rfl dX9_lots_111 ?_
    refine V.iinc (pc := 112) (lv' := [(4, .int (v4 + (nI 1))), (3, .int v3), (5, .int s0), (0, .ref (gA G 0)), (1, .int v1), (2, .int v2)]) C (v4 + (nI 1)) 5 rfl rfl (by decide) rfl dX9_lots_112 ?_
    refine V.goto (pc := 115) C 63 (by decide) dX9_lots_115 ?_
    refine V.sub C [3, 4, 5, 1, 0] (lv' := [(0, .ref (gA G 0)), (1, .int v1), (2, .int v2), (3, .int v3), (4, .int (v4 + (nI 1)))]) rfl ?_
    exact hx63 _ _ _ _ _ hf
  · refine V.ic_leF (pc := 102) C 110 h1 (by decide) dX9_lots_102 ?_
    refine V.iload (pc := 105) C 0 rfl dX9_lots_105 ?_
    refine V.goto (pc := 107) C 111 (by decide) dX9_lots_107 ?_
    refine V.istore_n (pc := 111) (lv' := [(3, .int s0), (5, .int s0), (0, .ref (gA G 0)), (1, .int v1), (2, .int v2), (4, .int v4)]) C (by decide) rfl dX9_lots_111 ?_
    refine V.iinc (pc := 112) (lv' := [(4, .int (v4 + (nI 1))), (3, .int s0), (5, .int s0), (0, .ref (gA G 0)), (1, .int v1), (2, .int v2)]) C (v4 + (nI 1)) 5 rfl rfl (by decide) rfl dX9_lots_112 ?_
    refine V.goto (pc := 115) C 63 (by decide) dX9_lots_115 ?_
    refine V.sub C [3, 4, 5, 1, 0] (lv' := [(0, .ref (gA G 0)), (1, .int v1), (2, .int v2), (3, .int s0), (4, .int (v4 + (nI 1)))]) rfl ?_
    exact hx63 _ _ _ _ _ hf
def fX9_lots_b63 (nx43 : Int32 → Int32 → Mm → Option (Int32 × Mm))  : Nat → Int32 → Int32 → Int32 → Int32 → Mm → Option (Int32 × Mm)
  | 0, _, _, _, _, _ => none
  | n + 1, v1, v2, v3, v4, M =>
    if (nI 12) ≤ v4 then
    (fX9_lots_b118 nx43 v1 v2 v3 M)
    else
    (if ((jshr v2 v4) &&& (nI 1)) = (nI 1) then
    (gd (inb (v2 &&& ((jshl (nI 1) v4) ^^^ (mI 1))) 4096) (
    fX9_lots_b97 nx43 (fX9_lots_b63 nx43 n) v1 v2 v3 v4 (M.1 13 (v2 &&& ((jshl (nI 1) v4) ^^^ (mI 1))).toNatClampNeg) M))
    else
    (fX9_lots_b97 nx43 (fX9_lots_b63 nx43 n) v1 v2 v3 v4 (nI 0) M))
set_option maxHeartbeats 4000000 in
set_option maxRecDepth 100000 in
theorem vX9_lots_b63 {G : Rg} {X : Ct} {r : Int32} {Mf : Mm}  {nx43 : Int32 → Int32 → Mm → Option (Int32 × Mm)} (C : cxX9_lots G X) (hG : gS G = shM)  (hx43 : ∀ (v1 : Int32) (v2 : Int32) (M : Mm), nx43 v1 v2 M = some (r, Mf) → V G X 6 (some (.int r)) Mf 43 [(0, .ref (gA G 0)), (1, .int v1), (2, .int v2)] [] M) : ∀ (n : Nat) (v1 : Int32) (v2 : Int32) (v3 : Int32) (v4 : Int32) (M : Mm), fX9_lots_b63 nx43 n v1 v2 v3 v4 M = some (r, Mf) → V G X 6 (some (.int r)) Mf 63 [(0, .ref (gA G 0)), (1, .int v1), (2, .int v2), (3, .int v3), (4, .int v4)] [] M := by
  intro n
  induction n with
  | zero => intro v1 v2 v3 v4 M hf; rw [fX9_lots_b63] at hf; cases hf
  | succ n ih =>
    intro v1 v2 v3 v4 M hf
    rw [fX9_lots_b63] at hf
    refine V.iload (pc := 63) C 4 rfl dX9_lots_63 ?_
    refine V.bipush (pc := 65) C (nI 12) (by decide) dX9_lots_65 ?_
    rcases it_some hf with ⟨h1, hf⟩ | ⟨h1, hf⟩
    · refine V.ic_geT (pc := 67) C 118 h1 (by decide) dX9_lots_67 ?_
      refine V.sub C [0, 1, 2, 3] (lv' := [(0, .ref (gA G 0)), (1, .int v1), (2, .int v2), (3, .int v3)]) rfl ?_
      exact vX9_lots_b118 C hG  hx43  _ _ _ _ hf
    · refine V.ic_geF (pc := 67) C 118 h1 (by decide) dX9_lots_67 ?_
      refine V.iload_n (pc := 70) C 2 rfl dX9_lots_70 ?_
      refine V.iload (pc := 71) C 4 rfl dX9_lots_71 ?_
      refine V.ishr (pc := 73) C dX9_lots_73 ?_
      refine V.iconst (pc := 74) C (nI 1) (by decide) dX9_lots_74 ?_
      refine V.iand (pc := 75) C dX9_lots_75 ?_
      refine V.iconst (pc := 76) C (nI 1) (by decide) dX9_lots_76 ?_
      rcases it_some hf with ⟨h2, hf⟩ | ⟨h2, hf⟩
      · refine V.ic_neF (pc := 77) C 96 h2 (by decide) dX9_lots_77 ?_
        refine V.aload_n (pc := 80) C 0 rfl dX9_lots_80 ?_
        refine V.getR (pc := 81) C clX9 inX9 (sm_0 hG) 25 (by decide) wF_X9_46 rfl dX9_lots_81 ?_
        refine V.iload_n (pc := 84) C 2 rfl dX9_lots_84 ?_
        refine V.iconst (pc := 85) C (nI 1) (by decide) dX9_lots_85 ?_
        refine V.iload (pc := 86) C 4 rfl dX9_lots_86 ?_
        refine V.ishl (pc := 88) C dX9_lots_88 ?_
        refine V.iconst (pc := 89) C (mI 1) (by decide) dX9_lots_89 ?_
        refine V.ixor (pc := 90) C dX9_lots_90 ?_
        refine V.iand (pc := 91) C dX9_lots_91 ?_
        obtain ⟨g3, hf⟩ := gd_some hf
        refine V.iald (pc := 92) C (sm_13 hG) (inb_in g3) dX9_lots_92 ?_
        refine V.goto (pc := 93) C 97 (by decide) dX9_lots_93 ?_
        exact vX9_lots_b97 C hG  hx43 ih  _ _ _ _ _ _ hf
      · refine V.ic_neT (pc := 77) C 96 h2 (by decide) dX9_lots_77 ?_
        refine V.iconst (pc := 96) C (nI 0) (by decide) dX9_lots_96 ?_
        exact vX9_lots_b97 C hG  hx43 ih  _ _ _ _ _ _ hf
def fX9_lots_b43   : Nat → Int32 → Int32 → Mm → Option (Int32 × Mm)
  | 0, _, _, _ => none
  | n + 1, v1, v2, M =>
    if (nI 4096) ≤ v2 then
    (gd (inb v1 4096) (
    some ((M.1 13 v1.toNatClampNeg), M)))
    else
    (if (v2 &&& (v1 ^^^ (mI 1))) = (nI 0) then
    (fX9_lots_b63 (fX9_lots_b43  n) fu v1 v2 (nI 0) (nI 0) M)
    else
    (fX9_lots_b43  n v1 (v2 + (nI 1)) M))
set_option maxHeartbeats 4000000 in
set_option maxRecDepth 100000 in
theorem vX9_lots_b43 {G : Rg} {X : Ct} {r : Int32} {Mf : Mm}   (C : cxX9_lots G X) (hG : gS G = shM)   : ∀ (n : Nat) (v1 : Int32) (v2 : Int32) (M : Mm), fX9_lots_b43 n v1 v2 M = some (r, Mf) → V G X 6 (some (.int r)) Mf 43 [(0, .ref (gA G 0)), (1, .int v1), (2, .int v2)] [] M := by
  intro n
  induction n with
  | zero => intro v1 v2 M hf; rw [fX9_lots_b43] at hf; cases hf
  | succ n ih =>
    intro v1 v2 M hf
    rw [fX9_lots_b43] at hf
    refine V.iload_n (pc := 43) C 2 rfl dX9_lots_43 ?_
    refine V.sipush (pc := 44) C (nI 4096) (by decide) dX9_lots_44 ?_
    rcases it_some hf with ⟨h1, hf⟩ | ⟨h1, hf⟩
    · refine V.ic_geT (pc := 47) C 145 h1 (by decide) dX9_lots_47 ?_
      refine V.aload_n (pc := 145) C 0 rfl dX9_lots_145 ?_
      refine V.getR (pc := 146) C clX9 inX9 (sm_0 hG) 25 (by decide) wF_X9_46 rfl dX9_lots_146 ?_
      refine V.iload_n (pc := 149) C 1 rfl dX9_lots_149 ?_
      obtain ⟨g2, hf⟩ := gd_some hf
      refine V.iald (pc := 150) C (sm_13 hG) (inb_in g2) dX9_lots_150 ?_
      exact V.retI (pc := 151) C hf dX9_lots_151
    · refine V.ic_geF (pc := 47) C 145 h1 (by decide) dX9_lots_47 ?_
      refine V.iload_n (pc := 50) C 2 rfl dX9_lots_50 ?_
      refine V.iload_n (pc := 51) C 1 rfl dX9_lots_51 ?_
      refine V.iconst (pc := 52) C (mI 1) (by decide) dX9_lots_52 ?_
      refine V.ixor (pc := 53) C dX9_lots_53 ?_
      refine V.iand (pc := 54) C dX9_lots_54 ?_
      rcases it_some hf with ⟨h3, hf⟩ | ⟨h3, hf⟩
      · refine V.if_neF (pc := 55) C 139 h3 (by decide) dX9_lots_55 ?_
        refine V.iconst (pc := 58) C (nI 0) (by decide) dX9_lots_58 ?_
        refine V.istore_n (pc := 59) (lv' := [(3, .int (nI 0)), (0, .ref (gA G 0)), (1, .int v1), (2, .int v2)]) C (by decide) rfl dX9_lots_59 ?_
        refine V.iconst (pc := 60) C (nI 0) (by decide) dX9_lots_60 ?_
        refine V.istore (pc := 61) (lv' := [(4, .int (nI 0)), (3, .int (nI 0)), (0, .ref (gA G 0)), (1, .int v1), (2, .int v2)]) C (by decide) rfl dX9_lots_61 ?_
        refine V.sub C [2, 3, 4, 1, 0] (lv' := [(0, .ref (gA G 0)), (1, .int v1), (2, .int v2), (3, .int (nI 0)), (4, .int (nI 0))]) rfl ?_
        exact vX9_lots_b63 C hG  ih fu _ _ _ _ _ hf
      · refine V.if_neT (pc := 55) C 139 h3 (by decide) dX9_lots_55 ?_
        refine V.iinc (pc := 139) (lv' := [(2, .int (v2 + (nI 1))), (0, .ref (gA G 0)), (1, .int v1)]) C (v2 + (nI 1)) 2 rfl rfl (by decide) rfl dX9_lots_139 ?_
        refine V.goto (pc := 142) C 43 (by decide) dX9_lots_142 ?_
        refine V.sub C [1, 2, 0] (lv' := [(0, .ref (gA G 0)), (1, .int v1), (2, .int (v2 + (nI 1)))]) rfl ?_
        exact ih _ _ _ hf
def fX9_lots_b4   : Nat → Int32 → Int32 → Mm → Option (Int32 × Mm)
  | 0, _, _, _ => none
  | n + 1, v1, v2, M =>
    if (nI 12) ≤ v2 then
    (fX9_lots_b43 fu v1 (nI 1) (sI M 13 (nI 0).toNatClampNeg (nI 0)))
    else
    (bd (fX9_isOpen v2 M) fun r2 M2 =>
    if r2 = (nI 0) then
    (fX9_lots_b4  n (v1 ||| (nI 0)) (v2 + (nI 1)) M2)
    else
    (fX9_lots_b4  n (v1 ||| (jshl (nI 1) v2)) (v2 + (nI 1)) M2))
set_option maxHeartbeats 4000000 in
set_option maxRecDepth 100000 in
theorem vX9_lots_b4 {G : Rg} {X : Ct} {r : Int32} {Mf : Mm}   (C : cxX9_lots G X) (hG : gS G = shM)   : ∀ (n : Nat) (v1 : Int32) (v2 : Int32) (M : Mm), fX9_lots_b4 n v1 v2 M = some (r, Mf) → V G X 6 (some (.int r)) Mf 4 [(0, .ref (gA G 0)), (1, .int v1), (2, .int v2)] [] M := by
  intro n
  induction n with
  | zero => intro v1 v2 M hf; rw [fX9_lots_b4] at hf; cases hf
  | succ n ih =>
    intro v1 v2 M hf
    rw [fX9_lots_b4] at hf
    refine V.iload_n (pc := 4) C 2 rfl dX9_lots_4 ?_
    refine V.bipush (pc := 5) C (nI 12) (by decide) dX9_lots_5 ?_
    rcases it_some hf with ⟨h1, hf⟩ | ⟨h1, hf⟩
    · refine V.ic_geT (pc := 7) C 34 h1 (by decide) dX9_lots_7 ?_
      refine V.aload_n (pc := 34) C 0 rfl dX9_lots_34 ?_
      refine V.getR (pc := 35) C clX9 inX9 (sm_0 hG) 25 (by decide) wF_X9_46 rfl dX9_lots_35 ?_
      refine V.iconst (pc := 38) C (nI 0) (by decide) dX9_lots_38 ?_
      refine V.iconst (pc := 39) C (nI 0) (by decide) dX9_lots_39 ?_
      refine V.iast (pc := 40) C (sm_13 hG) (inb_in (by decide)) dX9_lots_40 ?_
      refine V.iconst (pc := 41) C (nI 1) (by decide) dX9_lots_41 ?_
      refine V.istore_n (pc := 42) (lv' := [(2, .int (nI 1)), (0, .ref (gA G 0)), (1, .int v1)]) C (by decide) rfl dX9_lots_42 ?_
      refine V.sub C [1, 2, 0] (lv' := [(0, .ref (gA G 0)), (1, .int v1), (2, .int (nI 1))]) rfl ?_
      exact vX9_lots_b43 C hG   fu _ _ _ hf
    · refine V.ic_geF (pc := 7) C 34 h1 (by decide) dX9_lots_7 ?_
      refine V.iload_n (pc := 10) C 1 rfl dX9_lots_10 ?_
      refine V.aload_n (pc := 11) C 0 rfl dX9_lots_11 ?_
      refine V.iload_n (pc := 12) C 2 rfl dX9_lots_12 ?_
      obtain ⟨r2, M2, h2, hf⟩ := bd_some hf
      refine V.callVi (pc := 13) (As := [.int v2]) (rest := [.int v1]) C (mX9_isOpen X.2.1 hG  h2) mf_X9_isOpen clX9 (sm_0 hG) wM_X9_134 rfl rfl ⟨by decide, by decide⟩ (Nat.le_of_ble_eq_true rfl) dX9_lots_13 ?_
      rcases it_some hf with ⟨h3, hf⟩ | ⟨h3, hf⟩
      · refine V.if_eqT (pc := 16) C 25 h3 (by decide) dX9_lots_16 ?_
        refine V.iconst (pc := 25) C (nI 0) (by decide) dX9_lots_25 ?_
        refine V.ior (pc := 26) C dX9_lots_26 ?_
        refine V.istore_n (pc := 27) (lv' := [(1, .int (v1 ||| (nI 0))), (0, .ref (gA G 0)), (2, .int v2)]) C (by decide) rfl dX9_lots_27 ?_
        refine V.iinc (pc := 28) (lv' := [(2, .int (v2 + (nI 1))), (1, .int (v1 ||| (nI 0))), (0, .ref (gA G 0))]) C (v2 + (nI 1)) 2 rfl rfl (by decide) rfl dX9_lots_28 ?_
        refine V.goto (pc := 31) C 4 (by decide) dX9_lots_31 ?_
        refine V.sub C [2, 1, 0] (lv' := [(0, .ref (gA G 0)), (1, .int (v1 ||| (nI 0))), (2, .int (v2 + (nI 1)))]) rfl ?_
        exact ih _ _ _ hf
      · refine V.if_eqF (pc := 16) C 25 h3 (by decide) dX9_lots_16 ?_
        refine V.iconst (pc := 19) C (nI 1) (by decide) dX9_lots_19 ?_
        refine V.iload_n (pc := 20) C 2 rfl dX9_lots_20 ?_
        refine V.ishl (pc := 21) C dX9_lots_21 ?_
        refine V.goto (pc := 22) C 26 (by decide) dX9_lots_22 ?_
        refine V.ior (pc := 26) C dX9_lots_26 ?_
        refine V.istore_n (pc := 27) (lv' := [(1, .int (v1 ||| (jshl (nI 1) v2))), (0, .ref (gA G 0)), (2, .int v2)]) C (by decide) rfl dX9_lots_27 ?_
        refine V.iinc (pc := 28) (lv' := [(2, .int (v2 + (nI 1))), (1, .int (v1 ||| (jshl (nI 1) v2))), (0, .ref (gA G 0))]) C (v2 + (nI 1)) 2 rfl rfl (by decide) rfl dX9_lots_28 ?_
        refine V.goto (pc := 31) C 4 (by decide) dX9_lots_31 ?_
        refine V.sub C [2, 1, 0] (lv' := [(0, .ref (gA G 0)), (1, .int (v1 ||| (jshl (nI 1) v2))), (2, .int (v2 + (nI 1)))]) rfl ?_
        exact ih _ _ _ hf
def fX9_lots  (M : Mm) : Option (Int32 × Mm) :=
fX9_lots_b4 fu (nI 0) (nI 0) M
set_option maxHeartbeats 4000000 in
set_option maxRecDepth 100000 in
theorem mX9_lots (l : Launch) {G : Rg} (hG : gS G = shM)   {M Mf : Mm} {r : Int32} (hf : fX9_lots  M = some (r, Mf)) : Mt l G yX9_lots cX9_lots 6 (some .int) 3 67 [.ref (gA G 0)] M (some (.int r)) Mf := by
  refine Mt.of (by decide) (Nat.le_of_ble_eq_true rfl) ?_
  intro X C hX
  subst hX
  have C : cxX9_lots G X := C
  show V G X 6 (some (.int r)) Mf 0 [(0, .ref (gA G 0))] [] M
  rw [fX9_lots] at hf
  refine V.iconst (pc := 0) C (nI 0) (by decide) dX9_lots_0 ?_
  refine V.istore_n (pc := 1) (lv' := [(1, .int (nI 0)), (0, .ref (gA G 0))]) C (by decide) rfl dX9_lots_1 ?_
  refine V.iconst (pc := 2) C (nI 0) (by decide) dX9_lots_2 ?_
  refine V.istore_n (pc := 3) (lv' := [(2, .int (nI 0)), (1, .int (nI 0)), (0, .ref (gA G 0))]) C (by decide) rfl dX9_lots_3 ?_
  refine V.sub C [2, 1, 0] (lv' := [(0, .ref (gA G 0)), (1, .int (nI 0)), (2, .int (nI 0))]) rfl ?_
  exact vX9_lots_b4 C hG   fu _ _ _ hf
theorem dX9_isNobodyOpen_0 : decode cX9_isNobodyOpen 0 = .ok (.iconst 1, 1) := by decide +kernel
theorem dX9_isNobodyOpen_1 : decode cX9_isNobodyOpen 1 = .ok (.istore_n 2, 1) := by decide +kernel
theorem dX9_isNobodyOpen_2 : decode cX9_isNobodyOpen 2 = .ok (.iload_n 1, 1) := by decide +kernel
theorem dX9_isNobodyOpen_3 : decode cX9_isNobodyOpen 3 = .ok (.istore_n 3, 1) := by decide +kernel
theorem dX9_isNobodyOpen_4 : decode cX9_isNobodyOpen 4 = .ok (.iload_n 3, 1) := by decide +kernel
theorem dX9_isNobodyOpen_5 : decode cX9_isNobodyOpen 5 = .ok (.iload_n 1, 1) := by decide +kernel
theorem dX9_isNobodyOpen_6 : decode cX9_isNobodyOpen 6 = .ok (.bipush 6, 2) := by decide +kernel
theorem dX9_isNobodyOpen_8 : decode cX9_isNobodyOpen 8 = .ok (.iadd, 1) := by decide +kernel
theorem dX9_isNobodyOpen_9 : decode cX9_isNobodyOpen 9 = .ok (.if_icmp .ge 27, 3) := by decide +kernel
theorem dX9_isNobodyOpen_12 : decode cX9_isNobodyOpen 12 = .ok (.iload_n 2, 1) := by decide +kernel
theorem dX9_isNobodyOpen_13 : decode cX9_isNobodyOpen 13 = .ok (.ifCond .eq 15, 3) := by decide +kernel
theorem dX9_isNobodyOpen_16 : decode cX9_isNobodyOpen 16 = .ok (.aload_n 0, 1) := by decide +kernel
theorem dX9_isNobodyOpen_17 : decode cX9_isNobodyOpen 17 = .ok (.iload_n 3, 1) := by decide +kernel
theorem dX9_isNobodyOpen_18 : decode cX9_isNobodyOpen 18 = .ok (.invokevirtual 134, 3) := by decide +kernel
theorem dX9_isNobodyOpen_21 : decode cX9_isNobodyOpen 21 = .ok (.ifCond .ne 7, 3) := by decide +kernel
theorem dX9_isNobodyOpen_24 : decode cX9_isNobodyOpen 24 = .ok (.iconst 1, 1) := by decide +kernel
theorem dX9_isNobodyOpen_25 : decode cX9_isNobodyOpen 25 = .ok (.goto 4, 3) := by decide +kernel
theorem dX9_isNobodyOpen_28 : decode cX9_isNobodyOpen 28 = .ok (.iconst 0, 1) := by decide +kernel
theorem dX9_isNobodyOpen_29 : decode cX9_isNobodyOpen 29 = .ok (.istore_n 2, 1) := by decide +kernel
theorem dX9_isNobodyOpen_30 : decode cX9_isNobodyOpen 30 = .ok (.iinc 3 1, 3) := by decide +kernel
theorem dX9_isNobodyOpen_33 : decode cX9_isNobodyOpen 33 = .ok (.goto (-29), 3) := by decide +kernel
theorem dX9_isNobodyOpen_36 : decode cX9_isNobodyOpen 36 = .ok (.iload_n 2, 1) := by decide +kernel
theorem dX9_isNobodyOpen_37 : decode cX9_isNobodyOpen 37 = .ok (.ireturn, 1) := by decide +kernel
abbrev cxX9_isNobodyOpen (G : Rg) (X : Ct) : Prop := Cx G X cX9_isNobodyOpen 4 RX9 (some .boolean) 3 67 (Cond.code yX9_isNobodyOpen cX9_isNobodyOpen 4 (some .boolean))
def fX9_isNobodyOpen_b4   : Nat → Int32 → Int32 → Int32 → Mm → Option (Int32 × Mm)
  | 0, _, _, _, _ => none
  | n + 1, v1, v2, v3, M =>
    if (v1 + (nI 6)) ≤ v3 then
    (gd (decide (v2 = nI 0 ∨ v2 = nI 1)) (
    some (v2, M)))
    else
    (if v2 = (nI 0) then
    (fX9_isNobodyOpen_b4  n v1 (nI 0) (v3 + (nI 1)) M)
    else
    (bd (fX9_isOpen v3 M) fun r4 M4 =>
    if r4 = (nI 0) then
    (fX9_isNobodyOpen_b4  n v1 (nI 1) (v3 + (nI 1)) M4)
    else
    (fX9_isNobodyOpen_b4  n v1 (nI 0) (v3 + (nI 1)) M4)))
set_option maxHeartbeats 4000000 in
set_option maxRecDepth 100000 in
theorem vX9_isNobodyOpen_b4 {G : Rg} {X : Ct} {r : Int32} {Mf : Mm}   (C : cxX9_isNobodyOpen G X) (hG : gS G = shM)   : ∀ (n : Nat) (v1 : Int32) (v2 : Int32) (v3 : Int32) (M : Mm), fX9_isNobodyOpen_b4 n v1 v2 v3 M = some (r, Mf) → V G X 4 (some (.int r)) Mf 4 [(0, .ref (gA G 0)), (1, .int v1), (2, .int v2), (3, .int v3)] [] M := by
  intro n
  induction n with
  | zero => intro v1 v2 v3 M hf; rw [fX9_isNobodyOpen_b4] at hf; cases hf
  | succ n ih =>
    intro v1 v2 v3 M hf
    rw [fX9_isNobodyOpen_b4] at hf
    refine V.iload_n (pc := 4) C 3 rfl dX9_isNobodyOpen_4 ?_
    refine V.iload_n (pc := 5) C 1 rfl dX9_isNobodyOpen_5 ?_
    refine V.bipush (pc := 6) C (nI 6) (by decide) dX9_isNobodyOpen_6 ?_
    refine V.iadd (pc := 8) C dX9_isNobodyOpen_8 ?_
    rcases it_some hf with ⟨h1, hf⟩ | ⟨h1, hf⟩
    · refine V.ic_geT (pc := 9) C 36 h1 (by decide) dX9_isNobodyOpen_9 ?_
      refine V.iload_n (pc := 36) C 2 rfl dX9_isNobodyOpen_36 ?_
      obtain ⟨g2, hf⟩ := gd_some hf
      exact V.retZ (pc := 37) C (dec_some g2) hf dX9_isNobodyOpen_37
    · refine V.ic_geF (pc := 9) C 36 h1 (by decide) dX9_isNobodyOpen_9 ?_
      refine V.iload_n (pc := 12) C 2 rfl dX9_isNobodyOpen_12 ?_
      rcases it_some hf with ⟨h3, hf⟩ | ⟨h3, hf⟩
      · refine V.if_eqT (pc := 13) C 28 h3 (by decide) dX9_isNobodyOpen_13 ?_
        refine V.iconst (pc := 28) C (nI 0) (by decide) dX9_isNobodyOpen_28 ?_
        refine V.istore_n (pc := 29) (lv' := [(2, .int (nI 0)), (0, .ref (gA G 0)), (1, .int v1), (3, .int v3)]) C (by decide) rfl dX9_isNobodyOpen_29 ?_
        refine V.iinc (pc := 30) (lv' := [(3, .int (v3 + (nI 1))), (2, .int (nI 0)), (0, .ref (gA G 0)), (1, .int v1)]) C (v3 + (nI 1)) 3 rfl rfl (by decide) rfl dX9_isNobodyOpen_30 ?_
        refine V.goto (pc := 33) C 4 (by decide) dX9_isNobodyOpen_33 ?_
        refine V.sub C [2, 3, 1, 0] (lv' := [(0, .ref (gA G 0)), (1, .int v1), (2, .int (nI 0)), (3, .int (v3 + (nI 1)))]) rfl ?_
        exact ih _ _ _ _ hf
      · refine V.if_eqF (pc := 13) C 28 h3 (by decide) dX9_isNobodyOpen_13 ?_
        refine V.aload_n (pc := 16) C 0 rfl dX9_isNobodyOpen_16 ?_
        refine V.iload_n (pc := 17) C 3 rfl dX9_isNobodyOpen_17 ?_
        obtain ⟨r4, M4, h4, hf⟩ := bd_some hf
        refine V.callVi (pc := 18) (As := [.int v3]) (rest := []) C (mX9_isOpen X.2.1 hG  h4) mf_X9_isOpen clX9 (sm_0 hG) wM_X9_134 rfl rfl ⟨by decide, by decide⟩ (Nat.le_of_ble_eq_true rfl) dX9_isNobodyOpen_18 ?_
        rcases it_some hf with ⟨h5, hf⟩ | ⟨h5, hf⟩
        · refine V.if_neF (pc := 21) C 28 h5 (by decide) dX9_isNobodyOpen_21 ?_
          refine V.iconst (pc := 24) C (nI 1) (by decide) dX9_isNobodyOpen_24 ?_
          refine V.goto (pc := 25) C 29 (by decide) dX9_isNobodyOpen_25 ?_
          refine V.istore_n (pc := 29) (lv' := [(2, .int (nI 1)), (0, .ref (gA G 0)), (1, .int v1), (3, .int v3)]) C (by decide) rfl dX9_isNobodyOpen_29 ?_
          refine V.iinc (pc := 30) (lv' := [(3, .int (v3 + (nI 1))), (2, .int (nI 1)), (0, .ref (gA G 0)), (1, .int v1)]) C (v3 + (nI 1)) 3 rfl rfl (by decide) rfl dX9_isNobodyOpen_30 ?_
          refine V.goto (pc := 33) C 4 (by decide) dX9_isNobodyOpen_33 ?_
          refine V.sub C [2, 3, 1, 0] (lv' := [(0, .ref (gA G 0)), (1, .int v1), (2, .int (nI 1)), (3, .int (v3 + (nI 1)))]) rfl ?_
          exact ih _ _ _ _ hf
        · refine V.if_neT (pc := 21) C 28 h5 (by decide) dX9_isNobodyOpen_21 ?_
          refine V.iconst (pc := 28) C (nI 0) (by decide) dX9_isNobodyOpen_28 ?_
          refine V.istore_n (pc := 29) (lv' := [(2, .int (nI 0)), (0, .ref (gA G 0)), (1, .int v1), (3, .int v3)]) C (by decide) rfl dX9_isNobodyOpen_29 ?_
          refine V.iinc (pc := 30) (lv' := [(3, .int (v3 + (nI 1))), (2, .int (nI 0)), (0, .ref (gA G 0)), (1, .int v1)]) C (v3 + (nI 1)) 3 rfl rfl (by decide) rfl dX9_isNobodyOpen_30 ?_
          refine V.goto (pc := 33) C 4 (by decide) dX9_isNobodyOpen_33 ?_
          refine V.sub C [2, 3, 1, 0] (lv' := [(0, .ref (gA G 0)), (1, .int v1), (2, .int (nI 0)), (3, .int (v3 + (nI 1)))]) rfl ?_
          exact ih _ _ _ _ hf
def fX9_isNobodyOpen (x1 : Int32) (M : Mm) : Option (Int32 × Mm) :=
fX9_isNobodyOpen_b4 fu x1 (nI 1) x1 M
set_option maxHeartbeats 4000000 in
set_option maxRecDepth 100000 in
theorem mX9_isNobodyOpen (l : Launch) {G : Rg} (hG : gS G = shM) {x1 : Int32}  {M Mf : Mm} {r : Int32} (hf : fX9_isNobodyOpen x1 M = some (r, Mf)) : Mt l G yX9_isNobodyOpen cX9_isNobodyOpen 4 (some .boolean) 3 67 [.ref (gA G 0), .int x1] M (some (.int r)) Mf := by
  refine Mt.of (by decide) (Nat.le_of_ble_eq_true rfl) ?_
  intro X C hX
  subst hX
  have C : cxX9_isNobodyOpen G X := C
  show V G X 4 (some (.int r)) Mf 0 [(0, .ref (gA G 0)), (1, .int x1)] [] M
  rw [fX9_isNobodyOpen] at hf
  refine V.iconst (pc := 0) C (nI 1) (by decide) dX9_isNobodyOpen_0 ?_
  refine V.istore_n (pc := 1) (lv' := [(2, .int (nI 1)), (0, .ref (gA G 0)), (1, .int x1)]) C (by decide) rfl dX9_isNobodyOpen_1 ?_
  refine V.iload_n (pc := 2) C 2 rfl dX9_isNobodyOpen_2 ?_
  refine V.istore_n (pc := 3) (lv' := [(3, .int x1), (2, .int (nI 1)), (0, .ref (gA G 0)), (1, .int x1)]) C (by decide) rfl dX9_isNobodyOpen_3 ?_
  refine V.sub C [2, 3, 1, 0] (lv' := [(0, .ref (gA G 0)), (1, .int x1), (2, .int (nI 1)), (3, .int x1)]) rfl ?_
  exact vX9_isNobodyOpen_b4 C hG   fu _ _ _ _ hf
theorem dX9_isAllEven_0 : decode cX9_isAllEven 0 = .ok (.aload_n 0, 1) := by decide +kernel
theorem dX9_isAllEven_1 : decode cX9_isAllEven 1 = .ok (.iconst 0, 1) := by decide +kernel
theorem dX9_isAllEven_2 : decode cX9_isAllEven 2 = .ok (.invokevirtual 224, 3) := by decide +kernel
theorem dX9_isAllEven_5 : decode cX9_isAllEven 5 = .ok (.ifCond .ne 30, 3) := by decide +kernel
theorem dX9_isAllEven_8 : decode cX9_isAllEven 8 = .ok (.aload_n 0, 1) := by decide +kernel
theorem dX9_isAllEven_9 : decode cX9_isAllEven 9 = .ok (.bipush 6, 2) := by decide +kernel
theorem dX9_isAllEven_11 : decode cX9_isAllEven 11 = .ok (.invokevirtual 224, 3) := by decide +kernel
theorem dX9_isAllEven_14 : decode cX9_isAllEven 14 = .ok (.ifCond .ne 21, 3) := by decide +kernel
theorem dX9_isAllEven_17 : decode cX9_isAllEven 17 = .ok (.aload_n 0, 1) := by decide +kernel
theorem dX9_isAllEven_18 : decode cX9_isAllEven 18 = .ok (.iconst 0, 1) := by decide +kernel
theorem dX9_isAllEven_19 : decode cX9_isAllEven 19 = .ok (.invokevirtual 190, 3) := by decide +kernel
theorem dX9_isAllEven_22 : decode cX9_isAllEven 22 = .ok (.aload_n 0, 1) := by decide +kernel
theorem dX9_isAllEven_23 : decode cX9_isAllEven 23 = .ok (.bipush 6, 2) := by decide +kernel
theorem dX9_isAllEven_25 : decode cX9_isAllEven 25 = .ok (.invokevirtual 190, 3) := by decide +kernel
theorem dX9_isAllEven_28 : decode cX9_isAllEven 28 = .ok (.if_icmp .ne 7, 3) := by decide +kernel
theorem dX9_isAllEven_31 : decode cX9_isAllEven 31 = .ok (.iconst 1, 1) := by decide +kernel
theorem dX9_isAllEven_32 : decode cX9_isAllEven 32 = .ok (.goto 4, 3) := by decide +kernel
theorem dX9_isAllEven_35 : decode cX9_isAllEven 35 = .ok (.iconst 0, 1) := by decide +kernel
theorem dX9_isAllEven_36 : decode cX9_isAllEven 36 = .ok (.ireturn, 1) := by decide +kernel
abbrev cxX9_isAllEven (G : Rg) (X : Ct) : Prop := Cx G X cX9_isAllEven 1 RX9 (some .boolean) 4 90 (Cond.code yX9_isAllEven cX9_isAllEven 1 (some .boolean))
def fX9_isAllEven  (M : Mm) : Option (Int32 × Mm) :=
bd (fX9_isNobodyOpen (nI 0) M) fun r1 M1 =>
if r1 = (nI 0) then
(bd (fX9_isNobodyOpen (nI 6) M1) fun r3 M3 =>
if r3 = (nI 0) then
(bd (fX9_sumOpen (nI 0) M3) fun r5 M5 =>
bd (fX9_sumOpen (nI 6) M5) fun r6 M6 =>
if r5 = r6 then
(some ((nI 1), M6))
else
(some ((nI 0), M6)))
else
(some ((nI 0), M3)))
else
(some ((nI 0), M1))
set_option maxHeartbeats 4000000 in
set_option maxRecDepth 100000 in
theorem mX9_isAllEven (l : Launch) {G : Rg} (hG : gS G = shM)   {M Mf : Mm} {r : Int32} (hf : fX9_isAllEven  M = some (r, Mf)) : Mt l G yX9_isAllEven cX9_isAllEven 1 (some .boolean) 4 90 [.ref (gA G 0)] M (some (.int r)) Mf := by
  refine Mt.of (by decide) (Nat.le_of_ble_eq_true rfl) ?_
  intro X C hX
  subst hX
  have C : cxX9_isAllEven G X := C
  show V G X 1 (some (.int r)) Mf 0 [(0, .ref (gA G 0))] [] M
  rw [fX9_isAllEven] at hf
  refine V.aload_n (pc := 0) C 0 rfl dX9_isAllEven_0 ?_
  refine V.iconst (pc := 1) C (nI 0) (by decide) dX9_isAllEven_1 ?_
  obtain ⟨r1, M1, h1, hf⟩ := bd_some hf
  refine V.callVi (pc := 2) (As := [.int (nI 0)]) (rest := []) C (mX9_isNobodyOpen X.2.1 hG  h1) mf_X9_isNobodyOpen clX9 (sm_0 hG) wM_X9_224 rfl rfl ⟨by decide, by decide⟩ (Nat.le_of_ble_eq_true rfl) dX9_isAllEven_2 ?_
  rcases it_some hf with ⟨h2, hf⟩ | ⟨h2, hf⟩
  · refine V.if_neF (pc := 5) C 35 h2 (by decide) dX9_isAllEven_5 ?_
    refine V.aload_n (pc := 8) C 0 rfl dX9_isAllEven_8 ?_
    refine V.bipush (pc := 9) C (nI 6) (by decide) dX9_isAllEven_9 ?_
    obtain ⟨r3, M3, h3, hf⟩ := bd_some hf
    refine V.callVi (pc := 11) (As := [.int (nI 6)]) (rest := []) C (mX9_isNobodyOpen X.2.1 hG  h3) mf_X9_isNobodyOpen clX9 (sm_0 hG) wM_X9_224 rfl rfl ⟨by decide, by decide⟩ (Nat.le_of_ble_eq_true rfl) dX9_isAllEven_11 ?_
    rcases it_some hf with ⟨h4, hf⟩ | ⟨h4, hf⟩
    · refine V.if_neF (pc := 14) C 35 h4 (by decide) dX9_isAllEven_14 ?_
      refine V.aload_n (pc := 17) C 0 rfl dX9_isAllEven_17 ?_
      refine V.iconst (pc := 18) C (nI 0) (by decide) dX9_isAllEven_18 ?_
      obtain ⟨r5, M5, h5, hf⟩ := bd_some hf
      refine V.callVi (pc := 19) (As := [.int (nI 0)]) (rest := []) C (mX9_sumOpen X.2.1 hG  h5) mf_X9_sumOpen clX9 (sm_0 hG) wM_X9_190 rfl rfl ⟨by decide, by decide⟩ (Nat.le_of_ble_eq_true rfl) dX9_isAllEven_19 ?_
      refine V.aload_n (pc := 22) C 0 rfl dX9_isAllEven_22 ?_
      refine V.bipush (pc := 23) C (nI 6) (by decide) dX9_isAllEven_23 ?_
      obtain ⟨r6, M6, h6, hf⟩ := bd_some hf
      refine V.callVi (pc := 25) (As := [.int (nI 6)]) (rest := [.int r5]) C (mX9_sumOpen X.2.1 hG  h6) mf_X9_sumOpen clX9 (sm_0 hG) wM_X9_190 rfl rfl ⟨by decide, by decide⟩ (Nat.le_of_ble_eq_true rfl) dX9_isAllEven_25 ?_
      rcases it_some hf with ⟨h7, hf⟩ | ⟨h7, hf⟩
      · refine V.ic_neF (pc := 28) C 35 h7 (by decide) dX9_isAllEven_28 ?_
        refine V.iconst (pc := 31) C (nI 1) (by decide) dX9_isAllEven_31 ?_
        refine V.goto (pc := 32) C 36 (by decide) dX9_isAllEven_32 ?_
        exact V.retZ (pc := 36) C (Or.inr rfl) hf dX9_isAllEven_36
      · refine V.ic_neT (pc := 28) C 35 h7 (by decide) dX9_isAllEven_28 ?_
        refine V.iconst (pc := 35) C (nI 0) (by decide) dX9_isAllEven_35 ?_
        exact V.retZ (pc := 36) C (Or.inl rfl) hf dX9_isAllEven_36
    · refine V.if_neT (pc := 14) C 35 h4 (by decide) dX9_isAllEven_14 ?_
      refine V.iconst (pc := 35) C (nI 0) (by decide) dX9_isAllEven_35 ?_
      exact V.retZ (pc := 36) C (Or.inl rfl) hf dX9_isAllEven_36
  · refine V.if_neT (pc := 5) C 35 h2 (by decide) dX9_isAllEven_5 ?_
    refine V.iconst (pc := 35) C (nI 0) (by decide) dX9_isAllEven_35 ?_
    exact V.retZ (pc := 36) C (Or.inl rfl) hf dX9_isAllEven_36
theorem dX9_even_0 : decode cX9_even 0 = .ok (.aload_n 0, 1) := by decide +kernel
theorem dX9_even_1 : decode cX9_even 1 = .ok (.invokevirtual 227, 3) := by decide +kernel
theorem dX9_even_4 : decode cX9_even 4 = .ok (.ifCond .eq 7, 3) := by decide +kernel
theorem dX9_even_7 : decode cX9_even 7 = .ok (.iconst 1, 1) := by decide +kernel
theorem dX9_even_8 : decode cX9_even 8 = .ok (.goto 4, 3) := by decide +kernel
theorem dX9_even_11 : decode cX9_even 11 = .ok (.iconst 0, 1) := by decide +kernel
theorem dX9_even_12 : decode cX9_even 12 = .ok (.ireturn, 1) := by decide +kernel
abbrev cxX9_even (G : Rg) (X : Ct) : Prop := Cx G X cX9_even 1 RX9 (some .int) 5 110 (Cond.code yX9_even cX9_even 1 (some .int))
def fX9_even  (M : Mm) : Option (Int32 × Mm) :=
bd (fX9_isAllEven M) fun r1 M1 =>
if r1 = (nI 0) then
(some ((nI 0), M1))
else
(some ((nI 1), M1))
set_option maxHeartbeats 4000000 in
set_option maxRecDepth 100000 in
theorem mX9_even (l : Launch) {G : Rg} (hG : gS G = shM)   {M Mf : Mm} {r : Int32} (hf : fX9_even  M = some (r, Mf)) : Mt l G yX9_even cX9_even 1 (some .int) 5 110 [.ref (gA G 0)] M (some (.int r)) Mf := by
  refine Mt.of (by decide) (Nat.le_of_ble_eq_true rfl) ?_
  intro X C hX
  subst hX
  have C : cxX9_even G X := C
  show V G X 1 (some (.int r)) Mf 0 [(0, .ref (gA G 0))] [] M
  rw [fX9_even] at hf
  refine V.aload_n (pc := 0) C 0 rfl dX9_even_0 ?_
  obtain ⟨r1, M1, h1, hf⟩ := bd_some hf
  refine V.callVi (pc := 1) (As := []) (rest := []) C (mX9_isAllEven X.2.1 hG  h1) mf_X9_isAllEven clX9 (sm_0 hG) wM_X9_227 rfl rfl ⟨by decide, by decide⟩ (Nat.le_of_ble_eq_true rfl) dX9_even_1 ?_
  rcases it_some hf with ⟨h2, hf⟩ | ⟨h2, hf⟩
  · refine V.if_eqT (pc := 4) C 11 h2 (by decide) dX9_even_4 ?_
    refine V.iconst (pc := 11) C (nI 0) (by decide) dX9_even_11 ?_
    exact V.retI (pc := 12) C hf dX9_even_12
  · refine V.if_eqF (pc := 4) C 11 h2 (by decide) dX9_even_4 ?_
    refine V.iconst (pc := 7) C (nI 1) (by decide) dX9_even_7 ?_
    refine V.goto (pc := 8) C 12 (by decide) dX9_even_8 ?_
    exact V.retI (pc := 12) C hf dX9_even_12
