theorem dX9_rests_0 : decode cX9_rests 0 = .ok (.iload_n 1, 1) := by decide +kernel
theorem dX9_rests_1 : decode cX9_rests 1 = .ok (.i2l, 1) := by decide +kernel
theorem dX9_rests_2 : decode cX9_rests 2 = .ok (.lconst 0, 1) := by decide +kernel
theorem dX9_rests_3 : decode cX9_rests 3 = .ok (.lconst 1, 1) := by decide +kernel
theorem dX9_rests_4 : decode cX9_rests 4 = .ok (.invokestatic 69, 3) := by decide +kernel
theorem dX9_rests_7 : decode cX9_rests 7 = .ok (.ifCond .eq 40, 3) := by decide +kernel
theorem dX9_rests_10 : decode cX9_rests 10 = .ok (.iload_n 2, 1) := by decide +kernel
theorem dX9_rests_11 : decode cX9_rests 11 = .ok (.i2l, 1) := by decide +kernel
theorem dX9_rests_12 : decode cX9_rests 12 = .ok (.lconst 0, 1) := by decide +kernel
theorem dX9_rests_13 : decode cX9_rests 13 = .ok (.ldc2_w 89, 3) := by decide +kernel
theorem dX9_rests_16 : decode cX9_rests 16 = .ok (.invokestatic 69, 3) := by decide +kernel
theorem dX9_rests_19 : decode cX9_rests 19 = .ok (.ifCond .eq 28, 3) := by decide +kernel
theorem dX9_rests_22 : decode cX9_rests 22 = .ok (.iload_n 3, 1) := by decide +kernel
theorem dX9_rests_23 : decode cX9_rests 23 = .ok (.i2l, 1) := by decide +kernel
theorem dX9_rests_24 : decode cX9_rests 24 = .ok (.lconst 0, 1) := by decide +kernel
theorem dX9_rests_25 : decode cX9_rests 25 = .ok (.ldc2_w 89, 3) := by decide +kernel
theorem dX9_rests_28 : decode cX9_rests 28 = .ok (.invokestatic 69, 3) := by decide +kernel
theorem dX9_rests_31 : decode cX9_rests 31 = .ok (.ifCond .eq 16, 3) := by decide +kernel
theorem dX9_rests_34 : decode cX9_rests 34 = .ok (.iload 4, 2) := by decide +kernel
theorem dX9_rests_36 : decode cX9_rests 36 = .ok (.i2l, 1) := by decide +kernel
theorem dX9_rests_37 : decode cX9_rests 37 = .ok (.lconst 0, 1) := by decide +kernel
theorem dX9_rests_38 : decode cX9_rests 38 = .ok (.ldc2_w 202, 3) := by decide +kernel
theorem dX9_rests_41 : decode cX9_rests 41 = .ok (.invokestatic 69, 3) := by decide +kernel
theorem dX9_rests_44 : decode cX9_rests 44 = .ok (.ifCond .ne 6, 3) := by decide +kernel
theorem dX9_rests_47 : decode cX9_rests 47 = .ok (.bipush (-2), 2) := by decide +kernel
theorem dX9_rests_49 : decode cX9_rests 49 = .ok (.ireturn, 1) := by decide +kernel
theorem dX9_rests_50 : decode cX9_rests 50 = .ok (.aload_n 0, 1) := by decide +kernel
theorem dX9_rests_51 : decode cX9_rests 51 = .ok (.bipush 6, 2) := by decide +kernel
theorem dX9_rests_53 : decode cX9_rests 53 = .ok (.iload_n 1, 1) := by decide +kernel
theorem dX9_rests_54 : decode cX9_rests 54 = .ok (.imul, 1) := by decide +kernel
theorem dX9_rests_55 : decode cX9_rests 55 = .ok (.bipush 6, 2) := by decide +kernel
theorem dX9_rests_57 : decode cX9_rests 57 = .ok (.iload_n 1, 1) := by decide +kernel
theorem dX9_rests_58 : decode cX9_rests 58 = .ok (.imul, 1) := by decide +kernel
theorem dX9_rests_59 : decode cX9_rests 59 = .ok (.bipush 6, 2) := by decide +kernel
theorem dX9_rests_61 : decode cX9_rests 61 = .ok (.iadd, 1) := by decide +kernel
theorem dX9_rests_62 : decode cX9_rests 62 = .ok (.invokevirtual 261, 3) := by decide +kernel
theorem dX9_rests_65 : decode cX9_rests 65 = .ok (.istore 5, 2) := by decide +kernel
theorem dX9_rests_67 : decode cX9_rests 67 = .ok (.iconst 0, 1) := by decide +kernel
theorem dX9_rests_68 : decode cX9_rests 68 = .ok (.istore 6, 2) := by decide +kernel
theorem dX9_rests_70 : decode cX9_rests 70 = .ok (.bipush (-6), 2) := by decide +kernel
theorem dX9_rests_72 : decode cX9_rests 72 = .ok (.istore 7, 2) := by decide +kernel
theorem dX9_rests_74 : decode cX9_rests 74 = .ok (.bipush (-6), 2) := by decide +kernel
theorem dX9_rests_76 : decode cX9_rests 76 = .ok (.istore 8, 2) := by decide +kernel
theorem dX9_rests_78 : decode cX9_rests 78 = .ok (.iconst 0, 1) := by decide +kernel
theorem dX9_rests_79 : decode cX9_rests 79 = .ok (.istore 9, 2) := by decide +kernel
theorem dX9_rests_81 : decode cX9_rests 81 = .ok (.iload 9, 2) := by decide +kernel
theorem dX9_rests_83 : decode cX9_rests 83 = .ok (.iconst 1, 1) := by decide +kernel
theorem dX9_rests_84 : decode cX9_rests 84 = .ok (.iload 5, 2) := by decide +kernel
theorem dX9_rests_86 : decode cX9_rests 86 = .ok (.ishl, 1) := by decide +kernel
theorem dX9_rests_87 : decode cX9_rests 87 = .ok (.if_icmp .ge 117, 3) := by decide +kernel
theorem dX9_rests_90 : decode cX9_rests 90 = .ok (.iload 9, 2) := by decide +kernel
theorem dX9_rests_92 : decode cX9_rests 92 = .ok (.invokestatic 82, 3) := by decide +kernel
theorem dX9_rests_95 : decode cX9_rests 95 = .ok (.istore 10, 2) := by decide +kernel
theorem dX9_rests_97 : decode cX9_rests 97 = .ok (.iload 10, 2) := by decide +kernel
theorem dX9_rests_99 : decode cX9_rests 99 = .ok (.ifCond .eq 12, 3) := by decide +kernel
theorem dX9_rests_102 : decode cX9_rests 102 = .ok (.iload_n 2, 1) := by decide +kernel
theorem dX9_rests_103 : decode cX9_rests 103 = .ok (.iload_n 3, 1) := by decide +kernel
theorem dX9_rests_104 : decode cX9_rests 104 = .ok (.iload 10, 2) := by decide +kernel
theorem dX9_rests_106 : decode cX9_rests 106 = .ok (.imul, 1) := by decide +kernel
theorem dX9_rests_107 : decode cX9_rests 107 = .ok (.isub, 1) := by decide +kernel
theorem dX9_rests_108 : decode cX9_rests 108 = .ok (.ifCond .lt 25, 3) := by decide +kernel
theorem dX9_rests_111 : decode cX9_rests 111 = .ok (.iload 10, 2) := by decide +kernel
theorem dX9_rests_113 : decode cX9_rests 113 = .ok (.iload 5, 2) := by decide +kernel
theorem dX9_rests_115 : decode cX9_rests 115 = .ok (.if_icmp .eq 14, 3) := by decide +kernel
theorem dX9_rests_118 : decode cX9_rests 118 = .ok (.iload_n 2, 1) := by decide +kernel
theorem dX9_rests_119 : decode cX9_rests 119 = .ok (.iload_n 3, 1) := by decide +kernel
theorem dX9_rests_120 : decode cX9_rests 120 = .ok (.iload 10, 2) := by decide +kernel
theorem dX9_rests_122 : decode cX9_rests 122 = .ok (.iconst 1, 1) := by decide +kernel
theorem dX9_rests_123 : decode cX9_rests 123 = .ok (.iadd, 1) := by decide +kernel
theorem dX9_rests_124 : decode cX9_rests 124 = .ok (.imul, 1) := by decide +kernel
theorem dX9_rests_125 : decode cX9_rests 125 = .ok (.isub, 1) := by decide +kernel
theorem dX9_rests_126 : decode cX9_rests 126 = .ok (.ifCond .gt 7, 3) := by decide +kernel
theorem dX9_rests_129 : decode cX9_rests 129 = .ok (.iconst 1, 1) := by decide +kernel
theorem dX9_rests_130 : decode cX9_rests 130 = .ok (.goto 4, 3) := by decide +kernel
theorem dX9_rests_133 : decode cX9_rests 133 = .ok (.iconst 0, 1) := by decide +kernel
theorem dX9_rests_134 : decode cX9_rests 134 = .ok (.istore 11, 2) := by decide +kernel
theorem dX9_rests_136 : decode cX9_rests 136 = .ok (.iload 6, 2) := by decide +kernel
theorem dX9_rests_138 : decode cX9_rests 138 = .ok (.iload 11, 2) := by decide +kernel
theorem dX9_rests_140 : decode cX9_rests 140 = .ok (.ifCond .eq 7, 3) := by decide +kernel
theorem dX9_rests_143 : decode cX9_rests 143 = .ok (.iconst 1, 1) := by decide +kernel
theorem dX9_rests_144 : decode cX9_rests 144 = .ok (.goto 4, 3) := by decide +kernel
theorem dX9_rests_147 : decode cX9_rests 147 = .ok (.iconst 0, 1) := by decide +kernel
theorem dX9_rests_148 : decode cX9_rests 148 = .ok (.iadd, 1) := by decide +kernel
theorem dX9_rests_149 : decode cX9_rests 149 = .ok (.istore 6, 2) := by decide +kernel
theorem dX9_rests_151 : decode cX9_rests 151 = .ok (.iload 11, 2) := by decide +kernel
theorem dX9_rests_153 : decode cX9_rests 153 = .ok (.ifCond .eq 20, 3) := by decide +kernel
theorem dX9_rests_156 : decode cX9_rests 156 = .ok (.iload 7, 2) := by decide +kernel
theorem dX9_rests_158 : decode cX9_rests 158 = .ok (.ifCond .lt 10, 3) := by decide +kernel
theorem dX9_rests_161 : decode cX9_rests 161 = .ok (.iload 10, 2) := by decide +kernel
theorem dX9_rests_163 : decode cX9_rests 163 = .ok (.iload 7, 2) := by decide +kernel
theorem dX9_rests_165 : decode cX9_rests 165 = .ok (.if_icmp .ge 8, 3) := by decide +kernel
theorem dX9_rests_168 : decode cX9_rests 168 = .ok (.iload 10, 2) := by decide +kernel
theorem dX9_rests_170 : decode cX9_rests 170 = .ok (.goto 5, 3) := by decide +kernel
theorem dX9_rests_173 : decode cX9_rests 173 = .ok (.iload 7, 2) := by decide +kernel
theorem dX9_rests_175 : decode cX9_rests 175 = .ok (.istore 7, 2) := by decide +kernel
theorem dX9_rests_177 : decode cX9_rests 177 = .ok (.iload 11, 2) := by decide +kernel
theorem dX9_rests_179 : decode cX9_rests 179 = .ok (.ifCond .eq 15, 3) := by decide +kernel
theorem dX9_rests_182 : decode cX9_rests 182 = .ok (.iload 10, 2) := by decide +kernel
theorem dX9_rests_184 : decode cX9_rests 184 = .ok (.iload 8, 2) := by decide +kernel
theorem dX9_rests_186 : decode cX9_rests 186 = .ok (.if_icmp .le 8, 3) := by decide +kernel
theorem dX9_rests_189 : decode cX9_rests 189 = .ok (.iload 10, 2) := by decide +kernel
theorem dX9_rests_191 : decode cX9_rests 191 = .ok (.goto 5, 3) := by decide +kernel
theorem dX9_rests_194 : decode cX9_rests 194 = .ok (.iload 8, 2) := by decide +kernel
theorem dX9_rests_196 : decode cX9_rests 196 = .ok (.istore 8, 2) := by decide +kernel
theorem dX9_rests_198 : decode cX9_rests 198 = .ok (.iinc 9 1, 3) := by decide +kernel
theorem dX9_rests_201 : decode cX9_rests 201 = .ok (.goto (-120), 3) := by decide +kernel
theorem dX9_rests_204 : decode cX9_rests 204 = .ok (.iload 4, 2) := by decide +kernel
theorem dX9_rests_206 : decode cX9_rests 206 = .ok (.ifCond .ne 8, 3) := by decide +kernel
theorem dX9_rests_209 : decode cX9_rests 209 = .ok (.iload 6, 2) := by decide +kernel
theorem dX9_rests_211 : decode cX9_rests 211 = .ok (.goto 16, 3) := by decide +kernel
theorem dX9_rests_214 : decode cX9_rests 214 = .ok (.iload 4, 2) := by decide +kernel
theorem dX9_rests_216 : decode cX9_rests 216 = .ok (.iconst 1, 1) := by decide +kernel
theorem dX9_rests_217 : decode cX9_rests 217 = .ok (.if_icmp .ne 8, 3) := by decide +kernel
theorem dX9_rests_220 : decode cX9_rests 220 = .ok (.iload 7, 2) := by decide +kernel
theorem dX9_rests_222 : decode cX9_rests 222 = .ok (.goto 5, 3) := by decide +kernel
theorem dX9_rests_225 : decode cX9_rests 225 = .ok (.iload 8, 2) := by decide +kernel
theorem dX9_rests_227 : decode cX9_rests 227 = .ok (.ireturn, 1) := by decide +kernel
abbrev cxX9_rests (G : Rg) (X : Ct) : Prop := Cx G X cX9_rests 12 RX9 (some .int) 4 91 (Cond.code yX9_rests cX9_rests 12 (some .int))
def fX9_rests_b204   (v4 : Int32) (v6 : Int32) (v7 : Int32) (v8 : Int32) (M : Mm) : Option (Int32 × Mm) :=
if v4 = (nI 0) then
(some (v6, M))
else
(if v4 = (nI 1) then
(some (v7, M))
else
(some (v8, M)))
set_option maxHeartbeats 4000000 in
set_option maxRecDepth 100000 in
theorem vX9_rests_b204 {G : Rg} {X : Ct} {r : Int32} {Mf : Mm}   (C : cxX9_rests G X) (hG : gS G = shM)   (v4 : Int32) (v6 : Int32) (v7 : Int32) (v8 : Int32) (M : Mm) (hf : fX9_rests_b204 v4 v6 v7 v8 M = some (r, Mf)) : V G X 12 (some (.int r)) Mf 204 [(4, .int v4), (6, .int v6), (7, .int v7), (8, .int v8)] [] M := by
  rw [fX9_rests_b204] at hf
  refine V.iload (pc := 204) C 0 rfl dX9_rests_204 ?_
  rcases it_some hf with ⟨h1, hf⟩ | ⟨h1, hf⟩
  · refine V.if_neF (pc := 206) C 214 h1 (by decide) dX9_rests_206 ?_
    refine V.iload (pc := 209) C 1 rfl dX9_rests_209 ?_
    refine V.goto (pc := 211) C 227 (by decide) dX9_rests_211 ?_
    exact V.retI (pc := 227) C hf dX9_rests_227
  · refine V.if_neT (pc := 206) C 214 h1 (by decide) dX9_rests_206 ?_
    refine V.iload (pc := 214) C 0 rfl dX9_rests_214 ?_
    refine V.iconst (pc := 216) C (nI 1) (by decide) dX9_rests_216 ?_
    rcases it_some hf with ⟨h2, hf⟩ | ⟨h2, hf⟩
    · refine V.ic_neF (pc := 217) C 225 h2 (by decide) dX9_rests_217 ?_
      refine V.iload (pc := 220) C 2 rfl dX9_rests_220 ?_
      refine V.goto (pc := 222) C 227 (by decide) dX9_rests_222 ?_
      exact V.retI (pc := 227) C hf dX9_rests_227
    · refine V.ic_neT (pc := 217) C 225 h2 (by decide) dX9_rests_217 ?_
      refine V.iload (pc := 225) C 3 rfl dX9_rests_225 ?_
      exact V.retI (pc := 227) C hf dX9_rests_227
def fX9_rests_b175 (nx81 : Int32 → Int32 → Int32 → Int32 → Int32 → Int32 → Int32 → Int32 → Mm → Option (Int32 × Mm))  (v2 : Int32) (v3 : Int32) (v4 : Int32) (v5 : Int32) (v6 : Int32) (v8 : Int32) (v9 : Int32) (v10 : Int32) (v11 : Int32) (s0 : Int32) (M : Mm) : Option (Int32 × Mm) :=
if v11 = (nI 0) then
(nx81 v2 v3 v4 v5 v6 s0 v8 (v9 + (nI 1)) M)
else
(if v10 ≤ v8 then
(nx81 v2 v3 v4 v5 v6 s0 v8 (v9 + (nI 1)) M)
else
(nx81 v2 v3 v4 v5 v6 s0 v10 (v9 + (nI 1)) M))
set_option maxHeartbeats 4000000 in
set_option maxRecDepth 100000 in
theorem vX9_rests_b175 {G : Rg} {X : Ct} {r : Int32} {Mf : Mm}  {nx81 : Int32 → Int32 → Int32 → Int32 → Int32 → Int32 → Int32 → Int32 → Mm → Option (Int32 × Mm)} (C : cxX9_rests G X) (hG : gS G = shM)  (hx81 : ∀ (v2 : Int32) (v3 : Int32) (v4 : Int32) (v5 : Int32) (v6 : Int32) (v7 : Int32) (v8 : Int32) (v9 : Int32) (M : Mm), nx81 v2 v3 v4 v5 v6 v7 v8 v9 M = some (r, Mf) → V G X 12 (some (.int r)) Mf 81 [(2, .int v2), (3, .int v3), (4, .int v4), (5, .int v5), (6, .int v6), (7, .int v7), (8, .int v8), (9, .int v9)] [] M) (v2 : Int32) (v3 : Int32) (v4 : Int32) (v5 : Int32) (v6 : Int32) (v8 : Int32) (v9 : Int32) (v10 : Int32) (v11 : Int32) (s0 : Int32) (M : Mm) (hf : fX9_rests_b175 nx81 v2 v3 v4 v5 v6 v8 v9 v10 v11 s0 M = some (r, Mf)) : V G X 12 (some (.int r)) Mf 175 [(2, .int v2), (3, .int v3), (4, .int v4), (5, .int v5), (6, .int v6), (8, .int v8), (9, .int v9), (10, .int v10), (11, .int v11)] [.int s0] M := by
  rw [fX9_rests_b175] at hf
  refine V.istore (pc := 175) (lv' := [(7, .int s0), (2, .int v2), (3, .int v3), (4, .int v4), (5, .int v5), (6, .int v6), (8, .int v8), (9, .int v9), (10, .int v10), (11, .int v11)]) C (by decide) rfl dX9_rests_175 ?_
  refine V.iload (pc := 177) C 9 rfl dX9_rests_177 ?_
  rcases it_some hf with ⟨h1, hf⟩ | ⟨h1, hf⟩
  · refine V.if_eqT (pc := 179) C 194 h1 (by decide) dX9_rests_179 ?_
    refine V.iload (pc := 194) C 6 rfl dX9_rests_194 ?_
    refine V.istore (pc := 196) (lv' := [(8, .int v8), (7, .int s0), (2, .int v2), (3, .int v3), (4, .int v4), (5, .int v5), (6, .int v6), (9, .int v9), (10, .int v10), (11, .int v11)]) C (by decide) rfl dX9_rests_196 ?_
    refine V.iinc (pc := 198) (lv' := [(9, .int (v9 + (nI 1))), (8, .int v8), (7, .int s0), (2, .int v2), (3, .int v3), (4, .int v4), (5, .int v5), (6, .int v6), (10, .int v10), (11, .int v11)]) C (v9 + (nI 1)) 7 rfl rfl (by decide) rfl dX9_rests_198 ?_
    refine V.goto (pc := 201) C 81 (by decide) dX9_rests_201 ?_
    refine V.sub C [3, 4, 5, 6, 7, 2, 1, 0] (lv' := [(2, .int v2), (3, .int v3), (4, .int v4), (5, .int v5), (6, .int v6), (7, .int s0), (8, .int v8), (9, .int (v9 + (nI 1)))]) rfl ?_
    exact hx81 _ _ _ _ _ _ _ _ _ hf
  · refine V.if_eqF (pc := 179) C 194 h1 (by decide) dX9_rests_179 ?_
    refine V.iload (pc := 182) C 8 rfl dX9_rests_182 ?_
    refine V.iload (pc := 184) C 6 rfl dX9_rests_184 ?_
    rcases it_some hf with ⟨h2, hf⟩ | ⟨h2, hf⟩
    · refine V.ic_leT (pc := 186) C 194 h2 (by decide) dX9_rests_186 ?_
      refine V.iload (pc := 194) C 6 rfl dX9_rests_194 ?_
      refine V.istore (pc := 196) (lv' := [(8, .int v8), (7, .int s0), (2, .int v2), (3, .int v3), (4, .int v4), (5, .int v5), (6, .int v6), (9, .int v9), (10, .int v10), (11, .int v11)]) C (by decide) rfl dX9_rests_196 ?_
      refine V.iinc (pc := 198) (lv' := [(9, .int (v9 + (nI 1))), (8, .int v8), (7, .int s0), (2, .int v2), (3, .int v3), (4, .int v4), (5, .int v5), (6, .int v6), (10, .int v10), (11, .int v11)]) C (v9 + (nI 1)) 7 rfl rfl (by decide) rfl dX9_rests_198 ?_
      refine V.goto (pc := 201) C 81 (by decide) dX9_rests_201 ?_
      refine V.sub C [3, 4, 5, 6, 7, 2, 1, 0] (lv' := [(2, .int v2), (3, .int v3), (4, .int v4), (5, .int v5), (6, .int v6), (7, .int s0), (8, .int v8), (9, .int (v9 + (nI 1)))]) rfl ?_
      exact hx81 _ _ _ _ _ _ _ _ _ hf
    · refine V.ic_leF (pc := 186) C 194 h2 (by decide) dX9_rests_186 ?_
      refine V.iload (pc := 189) C 8 rfl dX9_rests_189 ?_
      refine V.goto (pc := 191) C 196 (by decide) dX9_rests_191 ?_
      refine V.istore (pc := 196) (lv' := [(8, .int v10), (7, .int s0), (2, .int v2), (3, .int v3), (4, .int v4), (5, .int v5), (6, .int v6), (9, .int v9), (10, .int v10), (11, .int v11)]) C (by decide) rfl dX9_rests_196 ?_
      refine V.iinc (pc := 198) (lv' := [(9, .int (v9 + (nI 1))), (8, .int v10), (7, .int s0), (2, .int v2), (3, .int v3), (4, .int v4), (5, .int v5), (6, .int v6), (10, .int v10), (11, .int v11)]) C (v9 + (nI 1)) 7 rfl rfl (by decide) rfl dX9_rests_198 ?_
      refine V.goto (pc := 201) C 81 (by decide) dX9_rests_201 ?_
      refine V.sub C [3, 4, 5, 6, 7, 2, 1, 0] (lv' := [(2, .int v2), (3, .int v3), (4, .int v4), (5, .int v5), (6, .int v6), (7, .int s0), (8, .int v10), (9, .int (v9 + (nI 1)))]) rfl ?_
      exact hx81 _ _ _ _ _ _ _ _ _ hf
def fX9_rests_b173 (nx81 : Int32 → Int32 → Int32 → Int32 → Int32 → Int32 → Int32 → Int32 → Mm → Option (Int32 × Mm))  (v2 : Int32) (v3 : Int32) (v4 : Int32) (v5 : Int32) (v6 : Int32) (v7 : Int32) (v8 : Int32) (v9 : Int32) (v10 : Int32) (v11 : Int32) (M : Mm) : Option (Int32 × Mm) :=
fX9_rests_b175 nx81 v2 v3 v4 v5 v6 v8 v9 v10 v11 v7 M
set_option maxHeartbeats 4000000 in
set_option maxRecDepth 100000 in
theorem vX9_rests_b173 {G : Rg} {X : Ct} {r : Int32} {Mf : Mm}  {nx81 : Int32 → Int32 → Int32 → Int32 → Int32 → Int32 → Int32 → Int32 → Mm → Option (Int32 × Mm)} (C : cxX9_rests G X) (hG : gS G = shM)  (hx81 : ∀ (v2 : Int32) (v3 : Int32) (v4 : Int32) (v5 : Int32) (v6 : Int32) (v7 : Int32) (v8 : Int32) (v9 : Int32) (M : Mm), nx81 v2 v3 v4 v5 v6 v7 v8 v9 M = some (r, Mf) → V G X 12 (some (.int r)) Mf 81 [(2, .int v2), (3, .int v3), (4, .int v4), (5, .int v5), (6, .int v6), (7, .int v7), (8, .int v8), (9, .int v9)] [] M) (v2 : Int32) (v3 : Int32) (v4 : Int32) (v5 : Int32) (v6 : Int32) (v7 : Int32) (v8 : Int32) (v9 : Int32) (v10 : Int32) (v11 : Int32) (M : Mm) (hf : fX9_rests_b173 nx81 v2 v3 v4 v5 v6 v7 v8 v9 v10 v11 M = some (r, Mf)) : V G X 12 (some (.int r)) Mf 173 [(2, .int v2), (3, .int v3), (4, .int v4), (5, .int v5), (6, .int v6), (7, .int v7), (8, .int v8), (9, .int v9), (10, .int v10), (11, .int v11)] [] M := by
  rw [fX9_rests_b173] at hf
  refine V.iload (pc := 173) C 5 rfl dX9_rests_173 ?_
  refine V.sub C [0, 1, 2, 3, 4, 6, 7, 8, 9] (lv' := [(2, .int v2), (3, .int v3), (4, .int v4), (5, .int v5), (6, .int v6), (8, .int v8), (9, .int v9), (10, .int v10), (11, .int v11)]) rfl ?_
  exact vX9_rests_b175 C hG  hx81  _ _ _ _ _ _ _ _ _ _ _ hf
def fX9_rests_b168 (nx81 : Int32 → Int32 → Int32 → Int32 → Int32 → Int32 → Int32 → Int32 → Mm → Option (Int32 × Mm))  (v2 : Int32) (v3 : Int32) (v4 : Int32) (v5 : Int32) (v6 : Int32) (v8 : Int32) (v9 : Int32) (v10 : Int32) (v11 : Int32) (M : Mm) : Option (Int32 × Mm) :=
fX9_rests_b175 nx81 v2 v3 v4 v5 v6 v8 v9 v10 v11 v10 M
set_option maxHeartbeats 4000000 in
set_option maxRecDepth 100000 in
theorem vX9_rests_b168 {G : Rg} {X : Ct} {r : Int32} {Mf : Mm}  {nx81 : Int32 → Int32 → Int32 → Int32 → Int32 → Int32 → Int32 → Int32 → Mm → Option (Int32 × Mm)} (C : cxX9_rests G X) (hG : gS G = shM)  (hx81 : ∀ (v2 : Int32) (v3 : Int32) (v4 : Int32) (v5 : Int32) (v6 : Int32) (v7 : Int32) (v8 : Int32) (v9 : Int32) (M : Mm), nx81 v2 v3 v4 v5 v6 v7 v8 v9 M = some (r, Mf) → V G X 12 (some (.int r)) Mf 81 [(2, .int v2), (3, .int v3), (4, .int v4), (5, .int v5), (6, .int v6), (7, .int v7), (8, .int v8), (9, .int v9)] [] M) (v2 : Int32) (v3 : Int32) (v4 : Int32) (v5 : Int32) (v6 : Int32) (v8 : Int32) (v9 : Int32) (v10 : Int32) (v11 : Int32) (M : Mm) (hf : fX9_rests_b168 nx81 v2 v3 v4 v5 v6 v8 v9 v10 v11 M = some (r, Mf)) : V G X 12 (some (.int r)) Mf 168 [(2, .int v2), (3, .int v3), (4, .int v4), (5, .int v5), (6, .int v6), (8, .int v8), (9, .int v9), (10, .int v10), (11, .int v11)] [] M := by
  rw [fX9_rests_b168] at hf
  refine V.iload (pc := 168) C 7 rfl dX9_rests_168 ?_
  refine V.goto (pc := 170) C 175 (by decide) dX9_rests_170 ?_
  exact vX9_rests_b175 C hG  hx81  _ _ _ _ _ _ _ _ _ _ _ hf
def fX9_rests_b148 (nx81 : Int32 → Int32 → Int32 → Int32 → Int32 → Int32 → Int32 → Int32 → Mm → Option (Int32 × Mm))  (v2 : Int32) (v3 : Int32) (v4 : Int32) (v5 : Int32) (v7 : Int32) (v8 : Int32) (v9 : Int32) (v10 : Int32) (v11 : Int32) (s0 : Int32) (s1 : Int32) (M : Mm) : Option (Int32 × Mm) :=
if v11 = (nI 0) then
(fX9_rests_b173 nx81 v2 v3 v4 v5 (s0 + s1) v7 v8 v9 v10 v11 M)
else
(if v7 < (nI 0) then
(fX9_rests_b168 nx81 v2 v3 v4 v5 (s0 + s1) v8 v9 v10 v11 M)
else
(if v7 ≤ v10 then
(fX9_rests_b173 nx81 v2 v3 v4 v5 (s0 + s1) v7 v8 v9 v10 v11 M)
else
(fX9_rests_b168 nx81 v2 v3 v4 v5 (s0 + s1) v8 v9 v10 v11 M)))
set_option maxHeartbeats 4000000 in
set_option maxRecDepth 100000 in
theorem vX9_rests_b148 {G : Rg} {X : Ct} {r : Int32} {Mf : Mm}  {nx81 : Int32 → Int32 → Int32 → Int32 → Int32 → Int32 → Int32 → Int32 → Mm → Option (Int32 × Mm)} (C : cxX9_rests G X) (hG : gS G = shM)  (hx81 : ∀ (v2 : Int32) (v3 : Int32) (v4 : Int32) (v5 : Int32) (v6 : Int32) (v7 : Int32) (v8 : Int32) (v9 : Int32) (M : Mm), nx81 v2 v3 v4 v5 v6 v7 v8 v9 M = some (r, Mf) → V G X 12 (some (.int r)) Mf 81 [(2, .int v2), (3, .int v3), (4, .int v4), (5, .int v5), (6, .int v6), (7, .int v7), (8, .int v8), (9, .int v9)] [] M) (v2 : Int32) (v3 : Int32) (v4 : Int32) (v5 : Int32) (v7 : Int32) (v8 : Int32) (v9 : Int32) (v10 : Int32) (v11 : Int32) (s0 : Int32) (s1 : Int32) (M : Mm) (hf : fX9_rests_b148 nx81 v2 v3 v4 v5 v7 v8 v9 v10 v11 s0 s1 M = some (r, Mf)) : V G X 12 (some (.int r)) Mf 148 [(2, .int v2), (3, .int v3), (4, .int v4), (5, .int v5), (7, .int v7), (8, .int v8), (9, .int v9), (10, .int v10), (11, .int v11)] [.int s1, .int s0] M := by
  rw [fX9_rests_b148] at hf
  refine V.iadd (pc := 148) C dX9_rests_148 ?_
  refine V.istore (pc := 149) (lv' := [(6, .int (s0 + s1)), (2, .int v2), (3, .int v3), (4, .int v4), (5, .int v5), (7, .int v7), (8, .int v8), (9, .int v9), (10, .int v10), (11, .int v11)]) C (by decide) rfl dX9_rests_149 ?_
  refine V.iload (pc := 151) C 9 rfl dX9_rests_151 ?_
  rcases it_some hf with ⟨h1, hf⟩ | ⟨h1, hf⟩
  · refine V.if_eqT (pc := 153) C 173 h1 (by decide) dX9_rests_153 ?_
    refine V.sub C [1, 2, 3, 4, 0, 5, 6, 7, 8, 9] (lv' := [(2, .int v2), (3, .int v3), (4, .int v4), (5, .int v5), (6, .int (s0 + s1)), (7, .int v7), (8, .int v8), (9, .int v9), (10, .int v10), (11, .int v11)]) rfl ?_
    exact vX9_rests_b173 C hG  hx81  _ _ _ _ _ _ _ _ _ _ _ hf
  · refine V.if_eqF (pc := 153) C 173 h1 (by decide) dX9_rests_153 ?_
    refine V.iload (pc := 156) C 5 rfl dX9_rests_156 ?_
    rcases it_some hf with ⟨h2, hf⟩ | ⟨h2, hf⟩
    · refine V.if_ltT (pc := 158) C 168 h2 (by decide) dX9_rests_158 ?_
      refine V.sub C [1, 2, 3, 4, 0, 6, 7, 8, 9] (lv' := [(2, .int v2), (3, .int v3), (4, .int v4), (5, .int v5), (6, .int (s0 + s1)), (8, .int v8), (9, .int v9), (10, .int v10), (11, .int v11)]) rfl ?_
      exact vX9_rests_b168 C hG  hx81  _ _ _ _ _ _ _ _ _ _ hf
    · refine V.if_ltF (pc := 158) C 168 h2 (by decide) dX9_rests_158 ?_
      refine V.iload (pc := 161) C 8 rfl dX9_rests_161 ?_
      refine V.iload (pc := 163) C 5 rfl dX9_rests_163 ?_
      rcases it_some hf with ⟨h3, hf⟩ | ⟨h3, hf⟩
      · refine V.ic_geT (pc := 165) C 173 h3 (by decide) dX9_rests_165 ?_
        refine V.sub C [1, 2, 3, 4, 0, 5, 6, 7, 8, 9] (lv' := [(2, .int v2), (3, .int v3), (4, .int v4), (5, .int v5), (6, .int (s0 + s1)), (7, .int v7), (8, .int v8), (9, .int v9), (10, .int v10), (11, .int v11)]) rfl ?_
        exact vX9_rests_b173 C hG  hx81  _ _ _ _ _ _ _ _ _ _ _ hf
      · refine V.ic_geF (pc := 165) C 173 h3 (by decide) dX9_rests_165 ?_
        refine V.sub C [1, 2, 3, 4, 0, 6, 7, 8, 9] (lv' := [(2, .int v2), (3, .int v3), (4, .int v4), (5, .int v5), (6, .int (s0 + s1)), (8, .int v8), (9, .int v9), (10, .int v10), (11, .int v11)]) rfl ?_
        exact vX9_rests_b168 C hG  hx81  _ _ _ _ _ _ _ _ _ _ hf
def fX9_rests_b134 (nx81 : Int32 → Int32 → Int32 → Int32 → Int32 → Int32 → Int32 → Int32 → Mm → Option (Int32 × Mm))  (v2 : Int32) (v3 : Int32) (v4 : Int32) (v5 : Int32) (v6 : Int32) (v7 : Int32) (v8 : Int32) (v9 : Int32) (v10 : Int32) (s0 : Int32) (M : Mm) : Option (Int32 × Mm) :=
if s0 = (nI 0) then
(fX9_rests_b148 nx81 v2 v3 v4 v5 v7 v8 v9 v10 s0 v6 (nI 0) M)
else
(fX9_rests_b148 nx81 v2 v3 v4 v5 v7 v8 v9 v10 s0 v6 (nI 1) M)
set_option maxHeartbeats 4000000 in
set_option maxRecDepth 100000 in
theorem vX9_rests_b134 {G : Rg} {X : Ct} {r : Int32} {Mf : Mm}  {nx81 : Int32 → Int32 → Int32 → Int32 → Int32 → Int32 → Int32 → Int32 → Mm → Option (Int32 × Mm)} (C : cxX9_rests G X) (hG : gS G = shM)  (hx81 : ∀ (v2 : Int32) (v3 : Int32) (v4 : Int32) (v5 : Int32) (v6 : Int32) (v7 : Int32) (v8 : Int32) (v9 : Int32) (M : Mm), nx81 v2 v3 v4 v5 v6 v7 v8 v9 M = some (r, Mf) → V G X 12 (some (.int r)) Mf 81 [(2, .int v2), (3, .int v3), (4, .int v4), (5, .int v5), (6, .int v6), (7, .int v7), (8, .int v8), (9, .int v9)] [] M) (v2 : Int32) (v3 : Int32) (v4 : Int32) (v5 : Int32) (v6 : Int32) (v7 : Int32) (v8 : Int32) (v9 : Int32) (v10 : Int32) (s0 : Int32) (M : Mm) (hf : fX9_rests_b134 nx81 v2 v3 v4 v5 v6 v7 v8 v9 v10 s0 M = some (r, Mf)) : V G X 12 (some (.int r)) Mf 134 [(2, .int v2), (3, .int v3), (4, .int v4), (5, .int v5), (6, .int v6), (7, .int v7), (8, .int v8), (9, .int v9), (10, .int v10)] [.int s0] M := by
  rw [fX9_rests_b134] at hf
  refine V.istore (pc := 134) (lv' := [(11, .int s0), (2, .int v2), (3, .int v3), (4, .int v4), (5, .int v5), (6, .int v6), (7, .int v7), (8, .int v8), (9, .int v9), (10, .int v10)]) C (by decide) rfl dX9_rests_134 ?_
  refine V.iload (pc := 136) C 5 rfl dX9_rests_136 ?_
  refine V.iload (pc := 138) C 0 rfl dX9_rests_138 ?_
  rcases it_some hf with ⟨h1, hf⟩ | ⟨h1, hf⟩
  · refine V.if_eqT (pc := 140) C 147 h1 (by decide) dX9_rests_140 ?_
    refine V.iconst (pc := 147) C (nI 0) (by decide) dX9_rests_147 ?_
    refine V.sub C [1, 2, 3, 4, 6, 7, 8, 9, 0] (lv' := [(2, .int v2), (3, .int v3), (4, .int v4), (5, .int v5), (7, .int v7), (8, .int v8), (9, .int v9), (10, .int v10), (11, .int s0)]) rfl ?_
    exact vX9_rests_b148 C hG  hx81  _ _ _ _ _ _ _ _ _ _ _ _ hf
  · refine V.if_eqF (pc := 140) C 147 h1 (by decide) dX9_rests_140 ?_
    refine V.iconst (pc := 143) C (nI 1) (by decide) dX9_rests_143 ?_
    refine V.goto (pc := 144) C 148 (by decide) dX9_rests_144 ?_
    refine V.sub C [1, 2, 3, 4, 6, 7, 8, 9, 0] (lv' := [(2, .int v2), (3, .int v3), (4, .int v4), (5, .int v5), (7, .int v7), (8, .int v8), (9, .int v9), (10, .int v10), (11, .int s0)]) rfl ?_
    exact vX9_rests_b148 C hG  hx81  _ _ _ _ _ _ _ _ _ _ _ _ hf
def fX9_rests_b129 (nx81 : Int32 → Int32 → Int32 → Int32 → Int32 → Int32 → Int32 → Int32 → Mm → Option (Int32 × Mm))  (v2 : Int32) (v3 : Int32) (v4 : Int32) (v5 : Int32) (v6 : Int32) (v7 : Int32) (v8 : Int32) (v9 : Int32) (v10 : Int32) (M : Mm) : Option (Int32 × Mm) :=
fX9_rests_b134 nx81 v2 v3 v4 v5 v6 v7 v8 v9 v10 (nI 1) M
set_option maxHeartbeats 4000000 in
set_option maxRecDepth 100000 in
theorem vX9_rests_b129 {G : Rg} {X : Ct} {r : Int32} {Mf : Mm}  {nx81 : Int32 → Int32 → Int32 → Int32 → Int32 → Int32 → Int32 → Int32 → Mm → Option (Int32 × Mm)} (C : cxX9_rests G X) (hG : gS G = shM)  (hx81 : ∀ (v2 : Int32) (v3 : Int32) (v4 : Int32) (v5 : Int32) (v6 : Int32) (v7 : Int32) (v8 : Int32) (v9 : Int32) (M : Mm), nx81 v2 v3 v4 v5 v6 v7 v8 v9 M = some (r, Mf) → V G X 12 (some (.int r)) Mf 81 [(2, .int v2), (3, .int v3), (4, .int v4), (5, .int v5), (6, .int v6), (7, .int v7), (8, .int v8), (9, .int v9)] [] M) (v2 : Int32) (v3 : Int32) (v4 : Int32) (v5 : Int32) (v6 : Int32) (v7 : Int32) (v8 : Int32) (v9 : Int32) (v10 : Int32) (M : Mm) (hf : fX9_rests_b129 nx81 v2 v3 v4 v5 v6 v7 v8 v9 v10 M = some (r, Mf)) : V G X 12 (some (.int r)) Mf 129 [(2, .int v2), (3, .int v3), (4, .int v4), (5, .int v5), (6, .int v6), (7, .int v7), (8, .int v8), (9, .int v9), (10, .int v10)] [] M := by
  rw [fX9_rests_b129] at hf
  refine V.iconst (pc := 129) C (nI 1) (by decide) dX9_rests_129 ?_
  refine V.goto (pc := 130) C 134 (by decide) dX9_rests_130 ?_
  exact vX9_rests_b134 C hG  hx81  _ _ _ _ _ _ _ _ _ _ _ hf
def fX9_rests_b133 (nx81 : Int32 → Int32 → Int32 → Int32 → Int32 → Int32 → Int32 → Int32 → Mm → Option (Int32 × Mm))  (v2 : Int32) (v3 : Int32) (v4 : Int32) (v5 : Int32) (v6 : Int32) (v7 : Int32) (v8 : Int32) (v9 : Int32) (v10 : Int32) (M : Mm) : Option (Int32 × Mm) :=
fX9_rests_b134 nx81 v2 v3 v4 v5 v6 v7 v8 v9 v10 (nI 0) M
set_option maxHeartbeats 4000000 in
set_option maxRecDepth 100000 in
theorem vX9_rests_b133 {G : Rg} {X : Ct} {r : Int32} {Mf : Mm}  {nx81 : Int32 → Int32 → Int32 → Int32 → Int32 → Int32 → Int32 → Int32 → Mm → Option (Int32 × Mm)} (C : cxX9_rests G X) (hG : gS G = shM)  (hx81 : ∀ (v2 : Int32) (v3 : Int32) (v4 : Int32) (v5 : Int32) (v6 : Int32) (v7 : Int32) (v8 : Int32) (v9 : Int32) (M : Mm), nx81 v2 v3 v4 v5 v6 v7 v8 v9 M = some (r, Mf) → V G X 12 (some (.int r)) Mf 81 [(2, .int v2), (3, .int v3), (4, .int v4), (5, .int v5), (6, .int v6), (7, .int v7), (8, .int v8), (9, .int v9)] [] M) (v2 : Int32) (v3 : Int32) (v4 : Int32) (v5 : Int32) (v6 : Int32) (v7 : Int32) (v8 : Int32) (v9 : Int32) (v10 : Int32) (M : Mm) (hf : fX9_rests_b133 nx81 v2 v3 v4 v5 v6 v7 v8 v9 v10 M = some (r, Mf)) : V G X 12 (some (.int r)) Mf 133 [(2, .int v2), (3, .int v3), (4, .int v4), (5, .int v5), (6, .int v6), (7, .int v7), (8, .int v8), (9, .int v9), (10, .int v10)] [] M := by
  rw [fX9_rests_b133] at hf
  refine V.iconst (pc := 133) C (nI 0) (by decide) dX9_rests_133 ?_
  exact vX9_rests_b134 C hG  hx81  _ _ _ _ _ _ _ _ _ _ _ hf
def fX9_rests_b111 (nx81 : Int32 → Int32 → Int32 → Int32 → Int32 → Int32 → Int32 → Int32 → Mm → Option (Int32 × Mm))  (v2 : Int32) (v3 : Int32) (v4 : Int32) (v5 : Int32) (v6 : Int32) (v7 : Int32) (v8 : Int32) (v9 : Int32) (v10 : Int32) (M : Mm) : Option (Int32 × Mm) :=
if v10 = v5 then
(fX9_rests_b129 nx81 v2 v3 v4 v5 v6 v7 v8 v9 v10 M)
else
(if (nI 0) < (v2 - (v3 * (v10 + (nI 1)))) then
(fX9_rests_b133 nx81 v2 v3 v4 v5 v6 v7 v8 v9 v10 M)
else
(fX9_rests_b129 nx81 v2 v3 v4 v5 v6 v7 v8 v9 v10 M))
set_option maxHeartbeats 4000000 in
set_option maxRecDepth 100000 in
theorem vX9_rests_b111 {G : Rg} {X : Ct} {r : Int32} {Mf : Mm}  {nx81 : Int32 → Int32 → Int32 → Int32 → Int32 → Int32 → Int32 → Int32 → Mm → Option (Int32 × Mm)} (C : cxX9_rests G X) (hG : gS G = shM)  (hx81 : ∀ (v2 : Int32) (v3 : Int32) (v4 : Int32) (v5 : Int32) (v6 : Int32) (v7 : Int32) (v8 : Int32) (v9 : Int32) (M : Mm), nx81 v2 v3 v4 v5 v6 v7 v8 v9 M = some (r, Mf) → V G X 12 (some (.int r)) Mf 81 [(2, .int v2), (3, .int v3), (4, .int v4), (5, .int v5), (6, .int v6), (7, .int v7), (8, .int v8), (9, .int v9)] [] M) (v2 : Int32) (v3 : Int32) (v4 : Int32) (v5 : Int32) (v6 : Int32) (v7 : Int32) (v8 : Int32) (v9 : Int32) (v10 : Int32) (M : Mm) (hf : fX9_rests_b111 nx81 v2 v3 v4 v5 v6 v7 v8 v9 v10 M = some (r, Mf)) : V G X 12 (some (.int r)) Mf 111 [(2, .int v2), (3, .int v3), (4, .int v4), (5, .int v5), (6, .int v6), (7, .int v7), (8, .int v8), (9, .int v9), (10, .int v10)] [] M := by
  rw [fX9_rests_b111] at hf
  refine V.iload (pc := 111) C 8 rfl dX9_rests_111 ?_
  refine V.iload (pc := 113) C 3 rfl dX9_rests_113 ?_
  rcases it_some hf with ⟨h1, hf⟩ | ⟨h1, hf⟩
  · refine V.ic_eqT (pc := 115) C 129 h1 (by decide) dX9_rests_115 ?_
    exact vX9_rests_b129 C hG  hx81  _ _ _ _ _ _ _ _ _ _ hf
  · refine V.ic_eqF (pc := 115) C 129 h1 (by decide) dX9_rests_115 ?_
    refine V.iload_n (pc := 118) C 0 rfl dX9_rests_118 ?_
    refine V.iload_n (pc := 119) C 1 rfl dX9_rests_119 ?_
    refine V.iload (pc := 120) C 8 rfl dX9_rests_120 ?_
    refine V.iconst (pc := 122) C (nI 1) (by decide) dX9_rests_122 ?_
    refine V.iadd (pc := 123) C dX9_rests_123 ?_
    refine V.imul (pc := 124) C dX9_rests_124 ?_
    refine V.isub (pc := 125) C dX9_rests_125 ?_
    rcases it_some hf with ⟨h2, hf⟩ | ⟨h2, hf⟩
    · refine V.if_gtT (pc := 126) C 133 h2 (by decide) dX9_rests_126 ?_
      exact vX9_rests_b133 C hG  hx81  _ _ _ _ _ _ _ _ _ _ hf
    · refine V.if_gtF (pc := 126) C 133 h2 (by decide) dX9_rests_126 ?_
      exact vX9_rests_b129 C hG  hx81  _ _ _ _ _ _ _ _ _ _ hf
def fX9_rests_b81   : Nat → Int32 → Int32 → Int32 → Int32 → Int32 → Int32 → Int32 → Int32 → Mm → Option (Int32 × Mm)
  | 0, _, _, _, _, _, _, _, _, _ => none
  | n + 1, v2, v3, v4, v5, v6, v7, v8, v9, M =>
    if (jshl (nI 1) v5) ≤ v9 then
    (fX9_rests_b204 v4 v6 v7 v8 M)
    else
    (bd (fX9_ones v9 M) fun r2 M2 =>
    if r2 = (nI 0) then
    (fX9_rests_b111 (fX9_rests_b81  n) v2 v3 v4 v5 v6 v7 v8 v9 r2 M2)
    else
    (if (v2 - (v3 * r2)) < (nI 0) then
    (fX9_rests_b133 (fX9_rests_b81  n) v2 v3 v4 v5 v6 v7 v8 v9 r2 M2)
    else
    (fX9_rests_b111 (fX9_rests_b81  n) v2 v3 v4 v5 v6 v7 v8 v9 r2 M2)))
set_option maxHeartbeats 4000000 in
set_option maxRecDepth 100000 in
theorem vX9_rests_b81 {G : Rg} {X : Ct} {r : Int32} {Mf : Mm}   (C : cxX9_rests G X) (hG : gS G = shM)   : ∀ (n : Nat) (v2 : Int32) (v3 : Int32) (v4 : Int32) (v5 : Int32) (v6 : Int32) (v7 : Int32) (v8 : Int32) (v9 : Int32) (M : Mm), fX9_rests_b81 n v2 v3 v4 v5 v6 v7 v8 v9 M = some (r, Mf) → V G X 12 (some (.int r)) Mf 81 [(2, .int v2), (3, .int v3), (4, .int v4), (5, .int v5), (6, .int v6), (7, .int v7), (8, .int v8), (9, .int v9)] [] M := by
  intro n
  induction n with
  | zero => intro v2 v3 v4 v5 v6 v7 v8 v9 M hf; rw [fX9_rests_b81] at hf; cases hf
  | succ n ih =>
    intro v2 v3 v4 v5 v6 v7 v8 v9 M hf
    rw [fX9_rests_b81] at hf
    refine V.iload (pc := 81) C 7 rfl dX9_rests_81 ?_
    refine V.iconst (pc := 83) C (nI 1) (by decide) dX9_rests_83 ?_
    refine V.iload (pc := 84) C 3 rfl dX9_rests_84 ?_
    refine V.ishl (pc := 86) C dX9_rests_86 ?_
    rcases it_some hf with ⟨h1, hf⟩ | ⟨h1, hf⟩
    · refine V.ic_geT (pc := 87) C 204 h1 (by decide) dX9_rests_87 ?_
      refine V.sub C [2, 4, 5, 6] (lv' := [(4, .int v4), (6, .int v6), (7, .int v7), (8, .int v8)]) rfl ?_
      exact vX9_rests_b204 C hG    _ _ _ _ _ hf
    · refine V.ic_geF (pc := 87) C 204 h1 (by decide) dX9_rests_87 ?_
      refine V.iload (pc := 90) C 7 rfl dX9_rests_90 ?_
      obtain ⟨r2, M2, h2, hf⟩ := bd_some hf
      refine V.callSi (pc := 92) (As := [.int v9]) (rest := []) C (mX9_ones X.2.1 hG  h2) mf_X9_ones wM_X9_82 rfl rfl ⟨by decide, by decide⟩ (Nat.le_of_ble_eq_true rfl) dX9_rests_92 ?_
      refine V.istore (pc := 95) (lv' := [(10, .int r2), (2, .int v2), (3, .int v3), (4, .int v4), (5, .int v5), (6, .int v6), (7, .int v7), (8, .int v8), (9, .int v9)]) C (by decide) rfl dX9_rests_95 ?_
      refine V.iload (pc := 97) C 0 rfl dX9_rests_97 ?_
      rcases it_some hf with ⟨h3, hf⟩ | ⟨h3, hf⟩
      · refine V.if_eqT (pc := 99) C 111 h3 (by decide) dX9_rests_99 ?_
        refine V.sub C [1, 2, 3, 4, 5, 6, 7, 8, 0] (lv' := [(2, .int v2), (3, .int v3), (4, .int v4), (5, .int v5), (6, .int v6), (7, .int v7), (8, .int v8), (9, .int v9), (10, .int r2)]) rfl ?_
        exact vX9_rests_b111 C hG  ih  _ _ _ _ _ _ _ _ _ _ hf
      · refine V.if_eqF (pc := 99) C 111 h3 (by decide) dX9_rests_99 ?_
        refine V.iload_n (pc := 102) C 1 rfl dX9_rests_102 ?_
        refine V.iload_n (pc := 103) C 2 rfl dX9_rests_103 ?_
        refine V.iload (pc := 104) C 0 rfl dX9_rests_104 ?_
        refine V.imul (pc := 106) C dX9_rests_106 ?_
        refine V.isub (pc := 107) C dX9_rests_107 ?_
        rcases it_some hf with ⟨h4, hf⟩ | ⟨h4, hf⟩
        · refine V.if_ltT (pc := 108) C 133 h4 (by decide) dX9_rests_108 ?_
          refine V.sub C [1, 2, 3, 4, 5, 6, 7, 8, 0] (lv' := [(2, .int v2), (3, .int v3), (4, .int v4), (5, .int v5), (6, .int v6), (7, .int v7), (8, .int v8), (9, .int v9), (10, .int r2)]) rfl ?_
          exact vX9_rests_b133 C hG  ih  _ _ _ _ _ _ _ _ _ _ hf
        · refine V.if_ltF (pc := 108) C 133 h4 (by decide) dX9_rests_108 ?_
          refine V.sub C [1, 2, 3, 4, 5, 6, 7, 8, 0] (lv' := [(2, .int v2), (3, .int v3), (4, .int v4), (5, .int v5), (6, .int v6), (7, .int v7), (8, .int v8), (9, .int v9), (10, .int r2)]) rfl ?_
          exact vX9_rests_b111 C hG  ih  _ _ _ _ _ _ _ _ _ _ hf
def fX9_rests (x1 : Int32) (x2 : Int32) (x3 : Int32) (x4 : Int32) (M : Mm) : Option (Int32 × Mm) :=
bd (fX9_in x1.toInt64 (lN 0) (lN 1) M) fun r1 M1 =>
if r1 = (nI 0) then
(some ((mI 2), M1))
else
(bd (fX9_in x2.toInt64 (lN 0) (lN 99) M1) fun r3 M3 =>
if r3 = (nI 0) then
(some ((mI 2), M3))
else
(bd (fX9_in x3.toInt64 (lN 0) (lN 99) M3) fun r5 M5 =>
if r5 = (nI 0) then
(some ((mI 2), M5))
else
(bd (fX9_in x4.toInt64 (lN 0) (lN 2) M5) fun r7 M7 =>
if r7 = (nI 0) then
(some ((mI 2), M7))
else
(bd (fX9_outOf ((nI 6) * x1) (((nI 6) * x1) + (nI 6)) M7) fun r9 M9 =>
fX9_rests_b81 fu x2 x3 x4 r9 (nI 0) (mI 6) (mI 6) (nI 0) M9))))
set_option maxHeartbeats 4000000 in
set_option maxRecDepth 100000 in
theorem mX9_rests (l : Launch) {G : Rg} (hG : gS G = shM) {x1 : Int32} {x2 : Int32} {x3 : Int32} {x4 : Int32}  {M Mf : Mm} {r : Int32} (hf : fX9_rests x1 x2 x3 x4 M = some (r, Mf)) : Mt l G yX9_rests cX9_rests 12 (some .int) 4 91 [.ref (gA G 0), .int x1, .int x2, .int x3, .int x4] M (some (.int r)) Mf := by
  refine Mt.of (by decide) (Nat.le_of_ble_eq_true rfl) ?_
  intro X C hX
  subst hX
  have C : cxX9_rests G X := C
  show V G X 12 (some (.int r)) Mf 0 [(0, .ref (gA G 0)), (1, .int x1), (2, .int x2), (3, .int x3), (4, .int x4)] [] M
  rw [fX9_rests] at hf
  refine V.iload_n (pc := 0) C 1 rfl dX9_rests_0 ?_
  refine V.i2l (pc := 1) C dX9_rests_1 ?_
  refine V.lconst (pc := 2) C (lN 0) (by decide) dX9_rests_2 ?_
  refine V.lconst (pc := 3) C (lN 1) (by decide) dX9_rests_3 ?_
  obtain ⟨r1, M1, h1, hf⟩ := bd_some hf
  refine V.callSi (pc := 4) (As := [.long x1.toInt64, .long (lN 0), .long (lN 1)]) (rest := []) C (mX9_in X.2.1 hG  h1) mf_X9_in wM_X9_69 rfl rfl ⟨by decide, by decide⟩ (Nat.le_of_ble_eq_true rfl) dX9_rests_4 ?_
  rcases it_some hf with ⟨h2, hf⟩ | ⟨h2, hf⟩
  · refine V.if_eqT (pc := 7) C 47 h2 (by decide) dX9_rests_7 ?_
    refine V.bipush (pc := 47) C (mI 2) (by decide) dX9_rests_47 ?_
    exact V.retI (pc := 49) C hf dX9_rests_49
  · refine V.if_eqF (pc := 7) C 47 h2 (by decide) dX9_rests_7 ?_
    refine V.iload_n (pc := 10) C 2 rfl dX9_rests_10 ?_
    refine V.i2l (pc := 11) C dX9_rests_11 ?_
    refine V.lconst (pc := 12) C (lN 0) (by decide) dX9_rests_12 ?_
    refine V.ldc2 (pc := 13) C wL_X9_89 dX9_rests_13 ?_
    obtain ⟨r3, M3, h3, hf⟩ := bd_some hf
    refine V.callSi (pc := 16) (As := [.long x2.toInt64, .long (lN 0), .long (lN 99)]) (rest := []) C (mX9_in X.2.1 hG  h3) mf_X9_in wM_X9_69 rfl rfl ⟨by decide, by decide⟩ (Nat.le_of_ble_eq_true rfl) dX9_rests_16 ?_
    rcases it_some hf with ⟨h4, hf⟩ | ⟨h4, hf⟩
    · refine V.if_eqT (pc := 19) C 47 h4 (by decide) dX9_rests_19 ?_
      refine V.bipush (pc := 47) C (mI 2) (by decide) dX9_rests_47 ?_
      exact V.retI (pc := 49) C hf dX9_rests_49
    · refine V.if_eqF (pc := 19) C 47 h4 (by decide) dX9_rests_19 ?_
      refine V.iload_n (pc := 22) C 3 rfl dX9_rests_22 ?_
      refine V.i2l (pc := 23) C dX9_rests_23 ?_
      refine V.lconst (pc := 24) C (lN 0) (by decide) dX9_rests_24 ?_
      refine V.ldc2 (pc := 25) C wL_X9_89 dX9_rests_25 ?_
      obtain ⟨r5, M5, h5, hf⟩ := bd_some hf
      refine V.callSi (pc := 28) (As := [.long x3.toInt64, .long (lN 0), .long (lN 99)]) (rest := []) C (mX9_in X.2.1 hG  h5) mf_X9_in wM_X9_69 rfl rfl ⟨by decide, by decide⟩ (Nat.le_of_ble_eq_true rfl) dX9_rests_28 ?_
      rcases it_some hf with ⟨h6, hf⟩ | ⟨h6, hf⟩
      · refine V.if_eqT (pc := 31) C 47 h6 (by decide) dX9_rests_31 ?_
        refine V.bipush (pc := 47) C (mI 2) (by decide) dX9_rests_47 ?_
        exact V.retI (pc := 49) C hf dX9_rests_49
      · refine V.if_eqF (pc := 31) C 47 h6 (by decide) dX9_rests_31 ?_
        refine V.iload (pc := 34) C 4 rfl dX9_rests_34 ?_
        refine V.i2l (pc := 36) C dX9_rests_36 ?_
        refine V.lconst (pc := 37) C (lN 0) (by decide) dX9_rests_37 ?_
        refine V.ldc2 (pc := 38) C wL_X9_202 dX9_rests_38 ?_
        obtain ⟨r7, M7, h7, hf⟩ := bd_some hf
        refine V.callSi (pc := 41) (As := [.long x4.toInt64, .long (lN 0), .long (lN 2)]) (rest := []) C (mX9_in X.2.1 hG  h7) mf_X9_in wM_X9_69 rfl rfl ⟨by decide, by decide⟩ (Nat.le_of_ble_eq_true rfl) dX9_rests_41 ?_
        rcases it_some hf with ⟨h8, hf⟩ | ⟨h8, hf⟩
        · refine V.if_neF (pc := 44) C 50 h8 (by decide) dX9_rests_44 ?_
          refine V.bipush (pc := 47) C (mI 2) (by decide) dX9_rests_47 ?_
          exact V.retI (pc := 49) C hf dX9_rests_49
        · refine V.if_neT (pc := 44) C 50 h8 (by decide) dX9_rests_44 ?_
          refine V.aload_n (pc := 50) C 0 rfl dX9_rests_50 ?_
          refine V.bipush (pc := 51) C (nI 6) (by decide) dX9_rests_51 ?_
          refine V.iload_n (pc := 53) C 1 rfl dX9_rests_53 ?_
          refine V.imul (pc := 54) C dX9_rests_54 ?_
          refine V.bipush (pc := 55) C (nI 6) (by decide) dX9_rests_55 ?_
          refine V.iload_n (pc := 57) C 1 rfl dX9_rests_57 ?_
          refine V.imul (pc := 58) C dX9_rests_58 ?_
          refine V.bipush (pc := 59) C (nI 6) (by decide) dX9_rests_59 ?_
          refine V.iadd (pc := 61) C dX9_rests_61 ?_
          obtain ⟨r9, M9, h9, hf⟩ := bd_some hf
          refine V.callVi (pc := 62) (As := [.int ((nI 6) * x1), .int (((nI 6) * x1) + (nI 6))]) (rest := []) C (mX9_outOf X.2.1 hG  h9) mf_X9_outOf clX9 (sm_0 hG) wM_X9_261 rfl rfl ⟨by decide, by decide⟩ (Nat.le_of_ble_eq_true rfl) dX9_rests_62 ?_
          refine V.istore (pc := 65) (lv' := [(5, .int r9), (0, .ref (gA G 0)), (1, .int x1), (2, .int x2), (3, .int x3), (4, .int x4)]) C (by decide) rfl dX9_rests_65 ?_
          refine V.iconst (pc := 67) C (nI 0) (by decide) dX9_rests_67 ?_
          refine V.istore (pc := 68) (lv' := [(6, .int (nI 0)), (5, .int r9), (0, .ref (gA G 0)), (1, .int x1), (2, .int x2), (3, .int x3), (4, .int x4)]) C (by decide) rfl dX9_rests_68 ?_
          refine V.bipush (pc := 70) C (mI 6) (by decide) dX9_rests_70 ?_
          refine V.istore (pc := 72) (lv' := [(7, .int (mI 6)), (6, .int (nI 0)), (5, .int r9), (0, .ref (gA G 0)), (1, .int x1), (2, .int x2), (3, .int x3), (4, .int x4)]) C (by decide) rfl dX9_rests_72 ?_
          refine V.bipush (pc := 74) C (mI 6) (by decide) dX9_rests_74 ?_
          refine V.istore (pc := 76) (lv' := [(8, .int (mI 6)), (7, .int (mI 6)), (6, .int (nI 0)), (5, .int r9), (0, .ref (gA G 0)), (1, .int x1), (2, .int x2), (3, .int x3), (4, .int x4)]) C (by decide) rfl dX9_rests_76 ?_
          refine V.iconst (pc := 78) C (nI 0) (by decide) dX9_rests_78 ?_
          refine V.istore (pc := 79) (lv' := [(9, .int (nI 0)), (8, .int (mI 6)), (7, .int (mI 6)), (6, .int (nI 0)), (5, .int r9), (0, .ref (gA G 0)), (1, .int x1), (2, .int x2), (3, .int x3), (4, .int x4)]) C (by decide) rfl dX9_rests_79 ?_
          refine V.sub C [7, 8, 9, 4, 3, 2, 1, 0] (lv' := [(2, .int x2), (3, .int x3), (4, .int x4), (5, .int r9), (6, .int (nI 0)), (7, .int (mI 6)), (8, .int (mI 6)), (9, .int (nI 0))]) rfl ?_
          exact vX9_rests_b81 C hG   fu _ _ _ _ _ _ _ _ _ hf
theorem dX9_year_0 : decode cX9_year 0 = .ok (.iload_n 1, 1) := by decide +kernel
theorem dX9_year_1 : decode cX9_year 1 = .ok (.i2l, 1) := by decide +kernel
theorem dX9_year_2 : decode cX9_year 2 = .ok (.lconst 0, 1) := by decide +kernel
theorem dX9_year_3 : decode cX9_year 3 = .ok (.ldc2_w 268, 3) := by decide +kernel
theorem dX9_year_6 : decode cX9_year 6 = .ok (.invokestatic 69, 3) := by decide +kernel
theorem dX9_year_9 : decode cX9_year 9 = .ok (.ifCond .eq 27, 3) := by decide +kernel
theorem dX9_year_12 : decode cX9_year 12 = .ok (.iload_n 2, 1) := by decide +kernel
theorem dX9_year_13 : decode cX9_year 13 = .ok (.i2l, 1) := by decide +kernel
theorem dX9_year_14 : decode cX9_year 14 = .ok (.lconst 1, 1) := by decide +kernel
theorem dX9_year_15 : decode cX9_year 15 = .ok (.ldc2_w 89, 3) := by decide +kernel
theorem dX9_year_18 : decode cX9_year 18 = .ok (.invokestatic 69, 3) := by decide +kernel
theorem dX9_year_21 : decode cX9_year 21 = .ok (.ifCond .eq 15, 3) := by decide +kernel
theorem dX9_year_24 : decode cX9_year 24 = .ok (.iload_n 3, 1) := by decide +kernel
theorem dX9_year_25 : decode cX9_year 25 = .ok (.i2l, 1) := by decide +kernel
theorem dX9_year_26 : decode cX9_year 26 = .ok (.lconst 0, 1) := by decide +kernel
theorem dX9_year_27 : decode cX9_year 27 = .ok (.ldc2_w 202, 3) := by decide +kernel
theorem dX9_year_30 : decode cX9_year 30 = .ok (.invokestatic 69, 3) := by decide +kernel
theorem dX9_year_33 : decode cX9_year 33 = .ok (.ifCond .ne 6, 3) := by decide +kernel
theorem dX9_year_36 : decode cX9_year 36 = .ok (.bipush (-2), 2) := by decide +kernel
theorem dX9_year_38 : decode cX9_year 38 = .ok (.ireturn, 1) := by decide +kernel
theorem dX9_year_39 : decode cX9_year 39 = .ok (.aload_n 0, 1) := by decide +kernel
theorem dX9_year_40 : decode cX9_year 40 = .ok (.aload_n 0, 1) := by decide +kernel
theorem dX9_year_41 : decode cX9_year 41 = .ok (.getfield 40, 3) := by decide +kernel
theorem dX9_year_44 : decode cX9_year 44 = .ok (.invokevirtual 183, 3) := by decide +kernel
theorem dX9_year_47 : decode cX9_year 47 = .ok (.aload_n 0, 1) := by decide +kernel
theorem dX9_year_48 : decode cX9_year 48 = .ok (.iconst 0, 1) := by decide +kernel
theorem dX9_year_49 : decode cX9_year 49 = .ok (.putfield 156, 3) := by decide +kernel
theorem dX9_year_52 : decode cX9_year 52 = .ok (.aload_n 0, 1) := by decide +kernel
theorem dX9_year_53 : decode cX9_year 53 = .ok (.iconst 0, 1) := by decide +kernel
theorem dX9_year_54 : decode cX9_year 54 = .ok (.putfield 153, 3) := by decide +kernel
theorem dX9_year_57 : decode cX9_year 57 = .ok (.iload_n 1, 1) := by decide +kernel
theorem dX9_year_58 : decode cX9_year 58 = .ok (.istore 4, 2) := by decide +kernel
theorem dX9_year_60 : decode cX9_year 60 = .ok (.iconst 0, 1) := by decide +kernel
theorem dX9_year_61 : decode cX9_year 61 = .ok (.istore 5, 2) := by decide +kernel
theorem dX9_year_63 : decode cX9_year 63 = .ok (.iload 5, 2) := by decide +kernel
theorem dX9_year_65 : decode cX9_year 65 = .ok (.iload_n 2, 1) := by decide +kernel
theorem dX9_year_66 : decode cX9_year 66 = .ok (.if_icmp .ge 123, 3) := by decide +kernel
theorem dX9_year_69 : decode cX9_year 69 = .ok (.ldc2_w 270, 3) := by decide +kernel
theorem dX9_year_72 : decode cX9_year 72 = .ok (.iload 4, 2) := by decide +kernel
theorem dX9_year_74 : decode cX9_year 74 = .ok (.i2l, 1) := by decide +kernel
theorem dX9_year_75 : decode cX9_year 75 = .ok (.lmul, 1) := by decide +kernel
theorem dX9_year_76 : decode cX9_year 76 = .ok (.ldc2_w 272, 3) := by decide +kernel
theorem dX9_year_79 : decode cX9_year 79 = .ok (.ladd, 1) := by decide +kernel
theorem dX9_year_80 : decode cX9_year 80 = .ok (.ldc2_w 274, 3) := by decide +kernel
theorem dX9_year_83 : decode cX9_year 83 = .ok (.lrem, 1) := by decide +kernel
theorem dX9_year_84 : decode cX9_year 84 = .ok (.l2i, 1) := by decide +kernel
theorem dX9_year_85 : decode cX9_year 85 = .ok (.istore 4, 2) := by decide +kernel
theorem dX9_year_87 : decode cX9_year 87 = .ok (.iload 4, 2) := by decide +kernel
theorem dX9_year_89 : decode cX9_year 89 = .ok (.bipush 12, 2) := by decide +kernel
theorem dX9_year_91 : decode cX9_year 91 = .ok (.irem, 1) := by decide +kernel
theorem dX9_year_92 : decode cX9_year 92 = .ok (.istore 6, 2) := by decide +kernel
theorem dX9_year_94 : decode cX9_year 94 = .ok (.iload 4, 2) := by decide +kernel
theorem dX9_year_96 : decode cX9_year 96 = .ok (.bipush 12, 2) := by decide +kernel
theorem dX9_year_98 : decode cX9_year 98 = .ok (.idiv, 1) := by decide +kernel
theorem dX9_year_99 : decode cX9_year 99 = .ok (.bipush 6, 2) := by decide +kernel
theorem dX9_year_101 : decode cX9_year 101 = .ok (.irem, 1) := by decide +kernel
theorem dX9_year_102 : decode cX9_year 102 = .ok (.istore 7, 2) := by decide +kernel
theorem dX9_year_104 : decode cX9_year 104 = .ok (.iload 4, 2) := by decide +kernel
theorem dX9_year_106 : decode cX9_year 106 = .ok (.bipush 72, 2) := by decide +kernel
theorem dX9_year_108 : decode cX9_year 108 = .ok (.idiv, 1) := by decide +kernel
theorem dX9_year_109 : decode cX9_year 109 = .ok (.bipush 6, 2) := by decide +kernel
theorem dX9_year_111 : decode cX9_year 111 = .ok (.irem, 1) := by decide +kernel
theorem dX9_year_112 : decode cX9_year 112 = .ok (.iload 6, 2) := by decide +kernel
theorem dX9_year_114 : decode cX9_year 114 = .ok (.bipush 6, 2) := by decide +kernel
theorem dX9_year_116 : decode cX9_year 116 = .ok (.if_icmp .ge 8, 3) := by decide +kernel
theorem dX9_year_119 : decode cX9_year 119 = .ok (.bipush 6, 2) := by decide +kernel
theorem dX9_year_121 : decode cX9_year 121 = .ok (.goto 4, 3) := by decide +kernel
theorem dX9_year_124 : decode cX9_year 124 = .ok (.iconst 0, 1) := by decide +kernel
theorem dX9_year_125 : decode cX9_year 125 = .ok (.iadd, 1) := by decide +kernel
theorem dX9_year_126 : decode cX9_year 126 = .ok (.istore 8, 2) := by decide +kernel
theorem dX9_year_128 : decode cX9_year 128 = .ok (.iload 7, 2) := by decide +kernel
theorem dX9_year_130 : decode cX9_year 130 = .ok (.iconst 4, 1) := by decide +kernel
theorem dX9_year_131 : decode cX9_year 131 = .ok (.if_icmp .ge 8, 3) := by decide +kernel
theorem dX9_year_134 : decode cX9_year 134 = .ok (.iload 7, 2) := by decide +kernel
theorem dX9_year_136 : decode cX9_year 136 = .ok (.goto 4, 3) := by decide +kernel
theorem dX9_year_139 : decode cX9_year 139 = .ok (.iconst 4, 1) := by decide +kernel
theorem dX9_year_140 : decode cX9_year 140 = .ok (.istore 9, 2) := by decide +kernel
theorem dX9_year_142 : decode cX9_year 142 = .ok (.iconst 1, 1) := by decide +kernel
theorem dX9_year_143 : decode cX9_year 143 = .ok (.iload 6, 2) := by decide +kernel
theorem dX9_year_145 : decode cX9_year 145 = .ok (.ishl, 1) := by decide +kernel
theorem dX9_year_146 : decode cX9_year 146 = .ok (.iload 9, 2) := by decide +kernel
theorem dX9_year_148 : decode cX9_year 148 = .ok (.iconst 4, 1) := by decide +kernel
theorem dX9_year_149 : decode cX9_year 149 = .ok (.if_icmp .ne 10, 3) := by decide +kernel
theorem dX9_year_152 : decode cX9_year 152 = .ok (.iconst 1, 1) := by decide +kernel
theorem dX9_year_153 : decode cX9_year 153 = .ok (.iload 8, 2) := by decide +kernel
theorem dX9_year_155 : decode cX9_year 155 = .ok (.ishl, 1) := by decide +kernel
theorem dX9_year_156 : decode cX9_year 156 = .ok (.goto 4, 3) := by decide +kernel
theorem dX9_year_159 : decode cX9_year 159 = .ok (.iconst 0, 1) := by decide +kernel
theorem dX9_year_160 : decode cX9_year 160 = .ok (.ior, 1) := by decide +kernel
theorem dX9_year_161 : decode cX9_year 161 = .ok (.istore 10, 2) := by decide +kernel
theorem dX9_year_163 : decode cX9_year 163 = .ok (.aload_n 0, 1) := by decide +kernel
theorem dX9_year_164 : decode cX9_year 164 = .ok (.iload 9, 2) := by decide +kernel
theorem dX9_year_166 : decode cX9_year 166 = .ok (.iload 10, 2) := by decide +kernel
theorem dX9_year_168 : decode cX9_year 168 = .ok (.iconst 0, 1) := by decide +kernel
theorem dX9_year_169 : decode cX9_year 169 = .ok (.invokevirtual 171, 3) := by decide +kernel
theorem dX9_year_172 : decode cX9_year 172 = .ok (.ifCond .ne 11, 3) := by decide +kernel
theorem dX9_year_175 : decode cX9_year 175 = .ok (.aload_n 0, 1) := by decide +kernel
theorem dX9_year_176 : decode cX9_year 176 = .ok (.iload 9, 2) := by decide +kernel
theorem dX9_year_178 : decode cX9_year 178 = .ok (.iload 10, 2) := by decide +kernel
theorem dX9_year_180 : decode cX9_year 180 = .ok (.invokevirtual 175, 3) := by decide +kernel
theorem dX9_year_183 : decode cX9_year 183 = .ok (.iinc 5 1, 3) := by decide +kernel
theorem dX9_year_186 : decode cX9_year 186 = .ok (.goto (-123), 3) := by decide +kernel
theorem dX9_year_189 : decode cX9_year 189 = .ok (.aload_n 0, 1) := by decide +kernel
theorem dX9_year_190 : decode cX9_year 190 = .ok (.getfield 63, 3) := by decide +kernel
theorem dX9_year_193 : decode cX9_year 193 = .ok (.istore 5, 2) := by decide +kernel
theorem dX9_year_195 : decode cX9_year 195 = .ok (.aload_n 0, 1) := by decide +kernel
theorem dX9_year_196 : decode cX9_year 196 = .ok (.aload_n 0, 1) := by decide +kernel
theorem dX9_year_197 : decode cX9_year 197 = .ok (.getfield 40, 3) := by decide +kernel
theorem dX9_year_200 : decode cX9_year 200 = .ok (.invokevirtual 199, 3) := by decide +kernel
theorem dX9_year_203 : decode cX9_year 203 = .ok (.iload_n 3, 1) := by decide +kernel
theorem dX9_year_204 : decode cX9_year 204 = .ok (.ifCond .ne 10, 3) := by decide +kernel
theorem dX9_year_207 : decode cX9_year 207 = .ok (.aload_n 0, 1) := by decide +kernel
theorem dX9_year_208 : decode cX9_year 208 = .ok (.getfield 156, 3) := by decide +kernel
theorem dX9_year_211 : decode cX9_year 211 = .ok (.goto 17, 3) := by decide +kernel
theorem dX9_year_214 : decode cX9_year 214 = .ok (.iload_n 3, 1) := by decide +kernel
theorem dX9_year_215 : decode cX9_year 215 = .ok (.iconst 1, 1) := by decide +kernel
theorem dX9_year_216 : decode cX9_year 216 = .ok (.if_icmp .ne 10, 3) := by decide +kernel
theorem dX9_year_219 : decode cX9_year 219 = .ok (.aload_n 0, 1) := by decide +kernel
theorem dX9_year_220 : decode cX9_year 220 = .ok (.getfield 153, 3) := by decide +kernel
theorem dX9_year_223 : decode cX9_year 223 = .ok (.goto 5, 3) := by decide +kernel
theorem dX9_year_226 : decode cX9_year 226 = .ok (.iload 5, 2) := by decide +kernel
theorem dX9_year_228 : decode cX9_year 228 = .ok (.ireturn, 1) := by decide +kernel
abbrev cxX9_year (G : Rg) (X : Ct) : Prop := Cx G X cX9_year 11 RX9 (some .int) 5 114 (Cond.code yX9_year cX9_year 11 (some .int))
def fX9_year_b189   (v3 : Int32) (M : Mm) : Option (Int32 × Mm) :=
bd (fX9_lay 11 M) fun _ M1 =>
if v3 = (nI 0) then
(some ((M1.1 0 15), M1))
else
(if v3 = (nI 1) then
(some ((M1.1 0 16), M1))
else
(some ((M.1 0 1), M1)))
set_option maxHeartbeats 4000000 in
set_option maxRecDepth 100000 in
theorem vX9_year_b189 {G : Rg} {X : Ct} {r : Int32} {Mf : Mm}   (C : cxX9_year G X) (hG : gS G = shM)   (v3 : Int32) (M : Mm) (hf : fX9_year_b189 v3 M = some (r, Mf)) : V G X 11 (some (.int r)) Mf 189 [(0, .ref (gA G 0)), (3, .int v3)] [] M := by
  rw [fX9_year_b189] at hf
  refine V.aload_n (pc := 189) C 0 rfl dX9_year_189 ?_
  refine V.getI (pc := 190) C clX9 inX9 (sm_0 hG) 1 (by decide) wF_X9_63 rfl dX9_year_190 ?_
  refine V.istore (pc := 193) (lv' := [(5, .int (M.1 0 1)), (0, .ref (gA G 0)), (3, .int v3)]) C (by decide) rfl dX9_year_193 ?_
  refine V.aload_n (pc := 195) C 1 rfl dX9_year_195 ?_
  refine V.aload_n (pc := 196) C 1 rfl dX9_year_196 ?_
  refine V.getR (pc := 197) C clX9 inX9 (sm_0 hG) 17 (by decide) wF_X9_40 rfl dX9_year_197 ?_
  obtain ⟨_, M1, h1, hf⟩ := bd_some hf
  refine V.callVv (pc := 200) (As := [.ref (gA G 11)]) (rest := []) C (mX9_lay X.2.1 hG (sm_11 hG) h1) mf_X9_lay clX9 (sm_0 hG) wM_X9_199 rfl rfl ⟨by decide, by decide⟩ (Nat.le_of_ble_eq_true rfl) dX9_year_200 ?_
  refine V.iload_n (pc := 203) C 2 rfl dX9_year_203 ?_
  rcases it_some hf with ⟨h2, hf⟩ | ⟨h2, hf⟩
  · refine V.if_neF (pc := 204) C 214 h2 (by decide) dX9_year_204 ?_
    refine V.aload_n (pc := 207) C 1 rfl dX9_year_207 ?_
    refine V.getI (pc := 208) C clX9 inX9 (sm_0 hG) 15 (by decide) wF_X9_156 rfl dX9_year_208 ?_
    refine V.goto (pc := 211) C 228 (by decide) dX9_year_211 ?_
    exact V.retI (pc := 228) C hf dX9_year_228
  · refine V.if_neT (pc := 204) C 214 h2 (by decide) dX9_year_204 ?_
    refine V.iload_n (pc := 214) C 2 rfl dX9_year_214 ?_
    refine V.iconst (pc := 215) C (nI 1) (by decide) dX9_year_215 ?_
    rcases it_some hf with ⟨h3, hf⟩ | ⟨h3, hf⟩
    · refine V.ic_neF (pc := 216) C 226 h3 (by decide) dX9_year_216 ?_
      refine V.aload_n (pc := 219) C 1 rfl dX9_year_219 ?_
      refine V.getI (pc := 220) C clX9 inX9 (sm_0 hG) 16 (by decide) wF_X9_153 rfl dX9_year_220 ?_
      refine V.goto (pc := 223) C 228 (by decide) dX9_year_223 ?_
      exact V.retI (pc := 228) C hf dX9_year_228
    · refine V.ic_neT (pc := 216) C 226 h3 (by decide) dX9_year_216 ?_
      refine V.iload (pc := 226) C 0 rfl dX9_year_226 ?_
      exact V.retI (pc := 228) C hf dX9_year_228
def fX9_year_b160 (nx63 : Int32 → Int32 → Int32 → Int32 → Mm → Option (Int32 × Mm))  (v2 : Int32) (v3 : Int32) (v4 : Int32) (v5 : Int32) (v9 : Int32) (s0 : Int32) (s1 : Int32) (M : Mm) : Option (Int32 × Mm) :=
bd (fX9_whyNot v9 (s0 ||| s1) (nI 0) M) fun r1 M1 =>
if r1 = (nI 0) then
(bd (fX9_happen v9 (s0 ||| s1) M1) fun _ M3 =>
nx63 v2 v3 v4 (v5 + (nI 1)) M3)
else
(nx63 v2 v3 v4 (v5 + (nI 1)) M1)
set_option maxHeartbeats 4000000 in
set_option maxRecDepth 100000 in
theorem vX9_year_b160 {G : Rg} {X : Ct} {r : Int32} {Mf : Mm}  {nx63 : Int32 → Int32 → Int32 → Int32 → Mm → Option (Int32 × Mm)} (C : cxX9_year G X) (hG : gS G = shM)  (hx63 : ∀ (v2 : Int32) (v3 : Int32) (v4 : Int32) (v5 : Int32) (M : Mm), nx63 v2 v3 v4 v5 M = some (r, Mf) → V G X 11 (some (.int r)) Mf 63 [(0, .ref (gA G 0)), (2, .int v2), (3, .int v3), (4, .int v4), (5, .int v5)] [] M) (v2 : Int32) (v3 : Int32) (v4 : Int32) (v5 : Int32) (v9 : Int32) (s0 : Int32) (s1 : Int32) (M : Mm) (hf : fX9_year_b160 nx63 v2 v3 v4 v5 v9 s0 s1 M = some (r, Mf)) : V G X 11 (some (.int r)) Mf 160 [(0, .ref (gA G 0)), (2, .int v2), (3, .int v3), (4, .int v4), (5, .int v5), (9, .int v9)] [.int s1, .int s0] M := by
  rw [fX9_year_b160] at hf
  refine V.ior (pc := 160) C dX9_year_160 ?_
  refine V.istore (pc := 161) (lv' := [(10, .int (s0 ||| s1)), (0, .ref (gA G 0)), (2, .int v2), (3, .int v3), (4, .int v4), (5, .int v5), (9, .int v9)]) C (by decide) rfl dX9_year_161 ?_
  refine V.aload_n (pc := 163) C 1 rfl dX9_year_163 ?_
  refine V.iload (pc := 164) C 6 rfl dX9_year_164 ?_
  refine V.iload (pc := 166) C 0 rfl dX9_year_166 ?_
  refine V.iconst (pc := 168) C (nI 0) (by decide) dX9_year_168 ?_
  obtain ⟨r1, M1, h1, hf⟩ := bd_some hf
  refine V.callVi (pc := 169) (As := [.int v9, .int (s0 ||| s1), .int (nI 0)]) (rest := []) C (mX9_whyNot X.2.1 hG  h1) mf_X9_whyNot clX9 (sm_0 hG) wM_X9_171 rfl rfl ⟨by decide, by decide⟩ (Nat.le_of_ble_eq_true rfl) dX9_year_169 ?_
  rcases it_some hf with ⟨h2, hf⟩ | ⟨h2, hf⟩
  · refine V.if_neF (pc := 172) C 183 h2 (by decide) dX9_year_172 ?_
    refine V.aload_n (pc := 175) C 1 rfl dX9_year_175 ?_
    refine V.iload (pc := 176) C 6 rfl dX9_year_176 ?_
    refine V.iload (pc := 178) C 0 rfl dX9_year_178 ?_
    obtain ⟨_, M3, h3, hf⟩ := bd_some hf
    refine V.callVv (pc := 180) (As := [.int v9, .int (s0 ||| s1)]) (rest := []) C (mX9_happen X.2.1 hG  h3) mf_X9_happen clX9 (sm_0 hG) wM_X9_175 rfl rfl ⟨by decide, by decide⟩ (Nat.le_of_ble_eq_true rfl) dX9_year_180 ?_
    refine V.iinc (pc := 183) (lv' := [(5, .int (v5 + (nI 1))), (10, .int (s0 ||| s1)), (0, .ref (gA G 0)), (2, .int v2), (3, .int v3), (4, .int v4), (9, .int v9)]) C (v5 + (nI 1)) 5 rfl rfl (by decide) rfl dX9_year_183 ?_
    refine V.goto (pc := 186) C 63 (by decide) dX9_year_186 ?_
    refine V.sub C [2, 3, 4, 5, 0] (lv' := [(0, .ref (gA G 0)), (2, .int v2), (3, .int v3), (4, .int v4), (5, .int (v5 + (nI 1)))]) rfl ?_
    exact hx63 _ _ _ _ _ hf
  · refine V.if_neT (pc := 172) C 183 h2 (by decide) dX9_year_172 ?_
    refine V.iinc (pc := 183) (lv' := [(5, .int (v5 + (nI 1))), (10, .int (s0 ||| s1)), (0, .ref (gA G 0)), (2, .int v2), (3, .int v3), (4, .int v4), (9, .int v9)]) C (v5 + (nI 1)) 5 rfl rfl (by decide) rfl dX9_year_183 ?_
    refine V.goto (pc := 186) C 63 (by decide) dX9_year_186 ?_
    refine V.sub C [2, 3, 4, 5, 0] (lv' := [(0, .ref (gA G 0)), (2, .int v2), (3, .int v3), (4, .int v4), (5, .int (v5 + (nI 1)))]) rfl ?_
    exact hx63 _ _ _ _ _ hf
def fX9_year_b140 (nx63 : Int32 → Int32 → Int32 → Int32 → Mm → Option (Int32 × Mm))  (v2 : Int32) (v3 : Int32) (v4 : Int32) (v5 : Int32) (v6 : Int32) (v8 : Int32) (s0 : Int32) (M : Mm) : Option (Int32 × Mm) :=
if s0 = (nI 4) then
(fX9_year_b160 nx63 v2 v3 v4 v5 s0 (jshl (nI 1) v6) (jshl (nI 1) v8) M)
else
(fX9_year_b160 nx63 v2 v3 v4 v5 s0 (jshl (nI 1) v6) (nI 0) M)
set_option maxHeartbeats 4000000 in
set_option maxRecDepth 100000 in
theorem vX9_year_b140 {G : Rg} {X : Ct} {r : Int32} {Mf : Mm}  {nx63 : Int32 → Int32 → Int32 → Int32 → Mm → Option (Int32 × Mm)} (C : cxX9_year G X) (hG : gS G = shM)  (hx63 : ∀ (v2 : Int32) (v3 : Int32) (v4 : Int32) (v5 : Int32) (M : Mm), nx63 v2 v3 v4 v5 M = some (r, Mf) → V G X 11 (some (.int r)) Mf 63 [(0, .ref (gA G 0)), (2, .int v2), (3, .int v3), (4, .int v4), (5, .int v5)] [] M) (v2 : Int32) (v3 : Int32) (v4 : Int32) (v5 : Int32) (v6 : Int32) (v8 : Int32) (s0 : Int32) (M : Mm) (hf : fX9_year_b140 nx63 v2 v3 v4 v5 v6 v8 s0 M = some (r, Mf)) : V G X 11 (some (.int r)) Mf 140 [(0, .ref (gA G 0)), (2, .int v2), (3, .int v3), (4, .int v4), (5, .int v5), (6, .int v6), (8, .int v8)] [.int s0] M := by
  rw [fX9_year_b140] at hf
  refine V.istore (pc := 140) (lv' := [(9, .int s0), (0, .ref (gA G 0)), (2, .int v2), (3, .int v3), (4, .int v4), (5, .int v5), (6, .int v6), (8, .int v8)]) C (by decide) rfl dX9_year_140 ?_
  refine V.iconst (pc := 142) C (nI 1) (by decide) dX9_year_142 ?_
  refine V.iload (pc := 143) C 6 rfl dX9_year_143 ?_
  refine V.ishl (pc := 145) C dX9_year_145 ?_
  refine V.iload (pc := 146) C 0 rfl dX9_year_146 ?_
  refine V.iconst (pc := 148) C (nI 4) (by decide) dX9_year_148 ?_
  rcases it_some hf with ⟨h1, hf⟩ | ⟨h1, hf⟩
  · refine V.ic_neF (pc := 149) C 159 h1 (by decide) dX9_year_149 ?_
    refine V.iconst (pc := 152) C (nI 1) (by decide) dX9_year_152 ?_
    refine V.iload (pc := 153) C 7 rfl dX9_year_153 ?_
    refine V.ishl (pc := 155) C dX9_year_155 ?_
    refine V.goto (pc := 156) C 160 (by decide) dX9_year_156 ?_
    refine V.sub C [1, 2, 3, 4, 5, 0] (lv' := [(0, .ref (gA G 0)), (2, .int v2), (3, .int v3), (4, .int v4), (5, .int v5), (9, .int s0)]) rfl ?_
    exact vX9_year_b160 C hG  hx63  _ _ _ _ _ _ _ _ hf
  · refine V.ic_neT (pc := 149) C 159 h1 (by decide) dX9_year_149 ?_
    refine V.iconst (pc := 159) C (nI 0) (by decide) dX9_year_159 ?_
    refine V.sub C [1, 2, 3, 4, 5, 0] (lv' := [(0, .ref (gA G 0)), (2, .int v2), (3, .int v3), (4, .int v4), (5, .int v5), (9, .int s0)]) rfl ?_
    exact vX9_year_b160 C hG  hx63  _ _ _ _ _ _ _ _ hf
def fX9_year_b125 (nx63 : Int32 → Int32 → Int32 → Int32 → Mm → Option (Int32 × Mm))  (v2 : Int32) (v3 : Int32) (v4 : Int32) (v5 : Int32) (v6 : Int32) (v7 : Int32) (s0 : Int32) (s1 : Int32) (M : Mm) : Option (Int32 × Mm) :=
if (nI 4) ≤ v7 then
(fX9_year_b140 nx63 v2 v3 v4 v5 v6 (s0 + s1) (nI 4) M)
else
(fX9_year_b140 nx63 v2 v3 v4 v5 v6 (s0 + s1) v7 M)
set_option maxHeartbeats 4000000 in
set_option maxRecDepth 100000 in
theorem vX9_year_b125 {G : Rg} {X : Ct} {r : Int32} {Mf : Mm}  {nx63 : Int32 → Int32 → Int32 → Int32 → Mm → Option (Int32 × Mm)} (C : cxX9_year G X) (hG : gS G = shM)  (hx63 : ∀ (v2 : Int32) (v3 : Int32) (v4 : Int32) (v5 : Int32) (M : Mm), nx63 v2 v3 v4 v5 M = some (r, Mf) → V G X 11 (some (.int r)) Mf 63 [(0, .ref (gA G 0)), (2, .int v2), (3, .int v3), (4, .int v4), (5, .int v5)] [] M) (v2 : Int32) (v3 : Int32) (v4 : Int32) (v5 : Int32) (v6 : Int32) (v7 : Int32) (s0 : Int32) (s1 : Int32) (M : Mm) (hf : fX9_year_b125 nx63 v2 v3 v4 v5 v6 v7 s0 s1 M = some (r, Mf)) : V G X 11 (some (.int r)) Mf 125 [(0, .ref (gA G 0)), (2, .int v2), (3, .int v3), (4, .int v4), (5, .int v5), (6, .int v6), (7, .int v7)] [.int s1, .int s0] M := by
  rw [fX9_year_b125] at hf
  refine V.iadd (pc := 125) C dX9_year_125 ?_
  refine V.istore (pc := 126) (lv' := [(8, .int (s0 + s1)), (0, .ref (gA G 0)), (2, .int v2), (3, .int v3), (4, .int v4), (5, .int v5), (6, .int v6), (7, .int v7)]) C (by decide) rfl dX9_year_126 ?_
  refine V.iload (pc := 128) C 7 rfl dX9_year_128 ?_
  refine V.iconst (pc := 130) C (nI 4) (by decide) dX9_year_130 ?_
  rcases it_some hf with ⟨h1, hf⟩ | ⟨h1, hf⟩
  · refine V.ic_geT (pc := 131) C 139 h1 (by decide) dX9_year_131 ?_
    refine V.iconst (pc := 139) C (nI 4) (by decide) dX9_year_139 ?_
    refine V.sub C [1, 2, 3, 4, 5, 6, 0] (lv' := [(0, .ref (gA G 0)), (2, .int v2), (3, .int v3), (4, .int v4), (5, .int v5), (6, .int v6), (8, .int (s0 + s1))]) rfl ?_
    exact vX9_year_b140 C hG  hx63  _ _ _ _ _ _ _ _ hf
  · refine V.ic_geF (pc := 131) C 139 h1 (by decide) dX9_year_131 ?_
    refine V.iload (pc := 134) C 7 rfl dX9_year_134 ?_
    refine V.goto (pc := 136) C 140 (by decide) dX9_year_136 ?_
    refine V.sub C [1, 2, 3, 4, 5, 6, 0] (lv' := [(0, .ref (gA G 0)), (2, .int v2), (3, .int v3), (4, .int v4), (5, .int v5), (6, .int v6), (8, .int (s0 + s1))]) rfl ?_
    exact vX9_year_b140 C hG  hx63  _ _ _ _ _ _ _ _ hf
def fX9_year_b63   : Nat → Int32 → Int32 → Int32 → Int32 → Mm → Option (Int32 × Mm)
  | 0, _, _, _, _, _ => none
  | n + 1, v2, v3, v4, v5, M =>
    if v2 ≤ v5 then
    (fX9_year_b189 v3 M)
    else
    (if (nI 6) ≤ (jrem (jlrem (((lN 75) * v4.toInt64) + (lN 74)) (lN 65537)).toInt32 (nI 12)) then
    (fX9_year_b125 (fX9_year_b63  n) v2 v3 (jlrem (((lN 75) * v4.toInt64) + (lN 74)) (lN 65537)).toInt32 v5 (jrem (jlrem (((lN 75) * v4.toInt64) + (lN 74)) (lN 65537)).toInt32 (nI 12)) (jrem ((jlrem (((lN 75) * v4.toInt64) + (lN 74)) (lN 65537)).toInt32 / (nI 12)) (nI 6)) (jrem ((jlrem (((lN 75) * v4.toInt64) + (lN 74)) (lN 65537)).toInt32 / (nI 72)) (nI 6)) (nI 0) M)
    else
    (fX9_year_b125 (fX9_year_b63  n) v2 v3 (jlrem (((lN 75) * v4.toInt64) + (lN 74)) (lN 65537)).toInt32 v5 (jrem (jlrem (((lN 75) * v4.toInt64) + (lN 74)) (lN 65537)).toInt32 (nI 12)) (jrem ((jlrem (((lN 75) * v4.toInt64) + (lN 74)) (lN 65537)).toInt32 / (nI 12)) (nI 6)) (jrem ((jlrem (((lN 75) * v4.toInt64) + (lN 74)) (lN 65537)).toInt32 / (nI 72)) (nI 6)) (nI 6) M))
set_option maxHeartbeats 4000000 in
set_option maxRecDepth 100000 in
theorem vX9_year_b63 {G : Rg} {X : Ct} {r : Int32} {Mf : Mm}   (C : cxX9_year G X) (hG : gS G = shM)   : ∀ (n : Nat) (v2 : Int32) (v3 : Int32) (v4 : Int32) (v5 : Int32) (M : Mm), fX9_year_b63 n v2 v3 v4 v5 M = some (r, Mf) → V G X 11 (some (.int r)) Mf 63 [(0, .ref (gA G 0)), (2, .int v2), (3, .int v3), (4, .int v4), (5, .int v5)] [] M := by
  intro n
  induction n with
  | zero => intro v2 v3 v4 v5 M hf; rw [fX9_year_b63] at hf; cases hf
  | succ n ih =>
    intro v2 v3 v4 v5 M hf
    rw [fX9_year_b63] at hf
    refine V.iload (pc := 63) C 4 rfl dX9_year_63 ?_
    refine V.iload_n (pc := 65) C 1 rfl dX9_year_65 ?_
    rcases it_some hf with ⟨h1, hf⟩ | ⟨h1, hf⟩
    · refine V.ic_geT (pc := 66) C 189 h1 (by decide) dX9_year_66 ?_
      refine V.sub C [0, 2] (lv' := [(0, .ref (gA G 0)), (3, .int v3)]) rfl ?_
      exact vX9_year_b189 C hG    _ _ hf
    · refine V.ic_geF (pc := 66) C 189 h1 (by decide) dX9_year_66 ?_
      refine V.ldc2 (pc := 69) C wL_X9_270 dX9_year_69 ?_
      refine V.iload (pc := 72) C 3 rfl dX9_year_72 ?_
      refine V.i2l (pc := 74) C dX9_year_74 ?_
      refine V.lmul (pc := 75) C dX9_year_75 ?_
      refine V.ldc2 (pc := 76) C wL_X9_272 dX9_year_76 ?_
      refine V.ladd (pc := 79) C dX9_year_79 ?_
      refine V.ldc2 (pc := 80) C wL_X9_274 dX9_year_80 ?_
      refine V.lrem (pc := 83) C (by decide) dX9_year_83 ?_
      refine V.l2i (pc := 84) C dX9_year_84 ?_
      refine V.istore (pc := 85) (lv' := [(4, .int (jlrem (((lN 75) * v4.toInt64) + (lN 74)) (lN 65537)).toInt32), (0, .ref (gA G 0)), (2, .int v2), (3, .int v3), (5, .int v5)]) C (by decide) rfl dX9_year_85 ?_
      refine V.iload (pc := 87) C 0 rfl dX9_year_87 ?_
      refine V.bipush (pc := 89) C (nI 12) (by decide) dX9_year_89 ?_
      refine V.irem (pc := 91) C (by decide) dX9_year_91 ?_
      refine V.istore (pc := 92) (lv' := [(6, .int (jrem (jlrem (((lN 75) * v4.toInt64) + (lN 74)) (lN 65537)).toInt32 (nI 12))), (4, .int (jlrem (((lN 75) * v4.toInt64) + (lN 74)) (lN 65537)).toInt32), (0, .ref (gA G 0)), (2, .int v2), (3, .int v3), (5, .int v5)]) C (by decide) rfl dX9_year_92 ?_
      refine V.iload (pc := 94) C 1 rfl dX9_year_94 ?_
      refine V.bipush (pc := 96) C (nI 12) (by decide) dX9_year_96 ?_
      refine V.idiv (pc := 98) C (by decide) dX9_year_98 ?_
      refine V.bipush (pc := 99) C (nI 6) (by decide) dX9_year_99 ?_
      refine V.irem (pc := 101) C (by decide) dX9_year_101 ?_
      refine V.istore (pc := 102) (lv' := [(7, .int (jrem ((jlrem (((lN 75) * v4.toInt64) + (lN 74)) (lN 65537)).toInt32 / (nI 12)) (nI 6))), (6, .int (jrem (jlrem (((lN 75) * v4.toInt64) + (lN 74)) (lN 65537)).toInt32 (nI 12))), (4, .int (jlrem (((lN 75) * v4.toInt64) + (lN 74)) (lN 65537)).toInt32), (0, .ref (gA G 0)), (2, .int v2), (3, .int v3), (5, .int v5)]) C (by decide) rfl dX9_year_102 ?_
      refine V.iload (pc := 104) C 2 rfl dX9_year_104 ?_
      refine V.bipush (pc := 106) C (nI 72) (by decide) dX9_year_106 ?_
      refine V.idiv (pc := 108) C (by decide) dX9_year_108 ?_
      refine V.bipush (pc := 109) C (nI 6) (by decide) dX9_year_109 ?_
      refine V.irem (pc := 111) C (by decide) dX9_year_111 ?_
      refine V.iload (pc := 112) C 1 rfl dX9_year_112 ?_
      refine V.bipush (pc := 114) C (nI 6) (by decide) dX9_year_114 ?_
      rcases it_some hf with ⟨h2, hf⟩ | ⟨h2, hf⟩
      · refine V.ic_geT (pc := 116) C 124 h2 (by decide) dX9_year_116 ?_
        refine V.iconst (pc := 124) C (nI 0) (by decide) dX9_year_124 ?_
        refine V.sub C [3, 4, 5, 2, 6, 1, 0] (lv' := [(0, .ref (gA G 0)), (2, .int v2), (3, .int v3), (4, .int (jlrem (((lN 75) * v4.toInt64) + (lN 74)) (lN 65537)).toInt32), (5, .int v5), (6, .int (jrem (jlrem (((lN 75) * v4.toInt64) + (lN 74)) (lN 65537)).toInt32 (nI 12))), (7, .int (jrem ((jlrem (((lN 75) * v4.toInt64) + (lN 74)) (lN 65537)).toInt32 / (nI 12)) (nI 6)))]) rfl ?_
        exact vX9_year_b125 C hG  ih  _ _ _ _ _ _ _ _ _ hf
      · refine V.ic_geF (pc := 116) C 124 h2 (by decide) dX9_year_116 ?_
        refine V.bipush (pc := 119) C (nI 6) (by decide) dX9_year_119 ?_
        refine V.goto (pc := 121) C 125 (by decide) dX9_year_121 ?_
        refine V.sub C [3, 4, 5, 2, 6, 1, 0] (lv' := [(0, .ref (gA G 0)), (2, .int v2), (3, .int v3), (4, .int (jlrem (((lN 75) * v4.toInt64) + (lN 74)) (lN 65537)).toInt32), (5, .int v5), (6, .int (jrem (jlrem (((lN 75) * v4.toInt64) + (lN 74)) (lN 65537)).toInt32 (nI 12))), (7, .int (jrem ((jlrem (((lN 75) * v4.toInt64) + (lN 74)) (lN 65537)).toInt32 / (nI 12)) (nI 6)))]) rfl ?_
        exact vX9_year_b125 C hG  ih  _ _ _ _ _ _ _ _ _ hf
def fX9_year (x1 : Int32) (x2 : Int32) (x3 : Int32) (M : Mm) : Option (Int32 × Mm) :=
bd (fX9_in x1.toInt64 (lN 0) (lN 9999) M) fun r1 M1 =>
if r1 = (nI 0) then
(some ((mI 2), M1))
else
(bd (fX9_in x2.toInt64 (lN 1) (lN 99) M1) fun r3 M3 =>
if r3 = (nI 0) then
(some ((mI 2), M3))
else
(bd (fX9_in x3.toInt64 (lN 0) (lN 2) M3) fun r5 M5 =>
if r5 = (nI 0) then
(some ((mI 2), M5))
else
(bd (fX9_store 11 M5) fun _ M7 =>
fX9_year_b63 fu x2 x3 x1 (nI 0) (sI (sI M7 0 15 (nI 0)) 0 16 (nI 0)))))
set_option maxHeartbeats 4000000 in
set_option maxRecDepth 100000 in
theorem mX9_year (l : Launch) {G : Rg} (hG : gS G = shM) {x1 : Int32} {x2 : Int32} {x3 : Int32}  {M Mf : Mm} {r : Int32} (hf : fX9_year x1 x2 x3 M = some (r, Mf)) : Mt l G yX9_year cX9_year 11 (some .int) 5 114 [.ref (gA G 0), .int x1, .int x2, .int x3] M (some (.int r)) Mf := by
  refine Mt.of (by decide) (Nat.le_of_ble_eq_true rfl) ?_
  intro X C hX
  subst hX
  have C : cxX9_year G X := C
  show V G X 11 (some (.int r)) Mf 0 [(0, .ref (gA G 0)), (1, .int x1), (2, .int x2), (3, .int x3)] [] M
  rw [fX9_year] at hf
  refine V.iload_n (pc := 0) C 1 rfl dX9_year_0 ?_
  refine V.i2l (pc := 1) C dX9_year_1 ?_
  refine V.lconst (pc := 2) C (lN 0) (by decide) dX9_year_2 ?_
  refine V.ldc2 (pc := 3) C wL_X9_268 dX9_year_3 ?_
  obtain ⟨r1, M1, h1, hf⟩ := bd_some hf
  refine V.callSi (pc := 6) (As := [.long x1.toInt64, .long (lN 0), .long (lN 9999)]) (rest := []) C (mX9_in X.2.1 hG  h1) mf_X9_in wM_X9_69 rfl rfl ⟨by decide, by decide⟩ (Nat.le_of_ble_eq_true rfl) dX9_year_6 ?_
  rcases it_some hf with ⟨h2, hf⟩ | ⟨h2, hf⟩
  · refine V.if_eqT (pc := 9) C 36 h2 (by decide) dX9_year_9 ?_
    refine V.bipush (pc := 36) C (mI 2) (by decide) dX9_year_36 ?_
    exact V.retI (pc := 38) C hf dX9_year_38
  · refine V.if_eqF (pc := 9) C 36 h2 (by decide) dX9_year_9 ?_
    refine V.iload_n (pc := 12) C 2 rfl dX9_year_12 ?_
    refine V.i2l (pc := 13) C dX9_year_13 ?_
    refine V.lconst (pc := 14) C (lN 1) (by decide) dX9_year_14 ?_
    refine V.ldc2 (pc := 15) C wL_X9_89 dX9_year_15 ?_
    obtain ⟨r3, M3, h3, hf⟩ := bd_some hf
    refine V.callSi (pc := 18) (As := [.long x2.toInt64, .long (lN 1), .long (lN 99)]) (rest := []) C (mX9_in X.2.1 hG  h3) mf_X9_in wM_X9_69 rfl rfl ⟨by decide, by decide⟩ (Nat.le_of_ble_eq_true rfl) dX9_year_18 ?_
    rcases it_some hf with ⟨h4, hf⟩ | ⟨h4, hf⟩
    · refine V.if_eqT (pc := 21) C 36 h4 (by decide) dX9_year_21 ?_
      refine V.bipush (pc := 36) C (mI 2) (by decide) dX9_year_36 ?_
      exact V.retI (pc := 38) C hf dX9_year_38
    · refine V.if_eqF (pc := 21) C 36 h4 (by decide) dX9_year_21 ?_
      refine V.iload_n (pc := 24) C 3 rfl dX9_year_24 ?_
      refine V.i2l (pc := 25) C dX9_year_25 ?_
      refine V.lconst (pc := 26) C (lN 0) (by decide) dX9_year_26 ?_
      refine V.ldc2 (pc := 27) C wL_X9_202 dX9_year_27 ?_
      obtain ⟨r5, M5, h5, hf⟩ := bd_some hf
      refine V.callSi (pc := 30) (As := [.long x3.toInt64, .long (lN 0), .long (lN 2)]) (rest := []) C (mX9_in X.2.1 hG  h5) mf_X9_in wM_X9_69 rfl rfl ⟨by decide, by decide⟩ (Nat.le_of_ble_eq_true rfl) dX9_year_30 ?_
      rcases it_some hf with ⟨h6, hf⟩ | ⟨h6, hf⟩
      · refine V.if_neF (pc := 33) C 39 h6 (by decide) dX9_year_33 ?_
        refine V.bipush (pc := 36) C (mI 2) (by decide) dX9_year_36 ?_
        exact V.retI (pc := 38) C hf dX9_year_38
      · refine V.if_neT (pc := 33) C 39 h6 (by decide) dX9_year_33 ?_
        refine V.aload_n (pc := 39) C 0 rfl dX9_year_39 ?_
        refine V.aload_n (pc := 40) C 0 rfl dX9_year_40 ?_
        refine V.getR (pc := 41) C clX9 inX9 (sm_0 hG) 17 (by decide) wF_X9_40 rfl dX9_year_41 ?_
        obtain ⟨_, M7, h7, hf⟩ := bd_some hf
        refine V.callVv (pc := 44) (As := [.ref (gA G 11)]) (rest := []) C (mX9_store X.2.1 hG (sm_11 hG) h7) mf_X9_store clX9 (sm_0 hG) wM_X9_183 rfl rfl ⟨by decide, by decide⟩ (Nat.le_of_ble_eq_true rfl) dX9_year_44 ?_
        refine V.aload_n (pc := 47) C 0 rfl dX9_year_47 ?_
        refine V.iconst (pc := 48) C (nI 0) (by decide) dX9_year_48 ?_
        refine V.putI (pc := 49) C clX9 inX9 (sm_0 hG) 15 (by decide) wF_X9_156 tyX9 tyX9_ok nmX9 rfl (tyX9_ok 15 (by decide)) rfl dX9_year_49 ?_
        refine V.aload_n (pc := 52) C 0 rfl dX9_year_52 ?_
        refine V.iconst (pc := 53) C (nI 0) (by decide) dX9_year_53 ?_
        refine V.putI (pc := 54) C clX9 inX9 (sm_0 hG) 16 (by decide) wF_X9_153 tyX9 tyX9_ok nmX9 rfl (tyX9_ok 16 (by decide)) rfl dX9_year_54 ?_
        refine V.iload_n (pc := 57) C 1 rfl dX9_year_57 ?_
        refine V.istore (pc := 58) (lv' := [(4, .int x1), (0, .ref (gA G 0)), (1, .int x1), (2, .int x2), (3, .int x3)]) C (by decide) rfl dX9_year_58 ?_
        refine V.iconst (pc := 60) C (nI 0) (by decide) dX9_year_60 ?_
        refine V.istore (pc := 61) (lv' := [(5, .int (nI 0)), (4, .int x1), (0, .ref (gA G 0)), (1, .int x1), (2, .int x2), (3, .int x3)]) C (by decide) rfl dX9_year_61 ?_
        refine V.sub C [2, 4, 5, 1, 0] (lv' := [(0, .ref (gA G 0)), (2, .int x2), (3, .int x3), (4, .int x1), (5, .int (nI 0))]) rfl ?_
        exact vX9_year_b63 C hG   fu _ _ _ _ _ hf
theorem dX9_pass_0 : decode cX9_pass 0 = .ok (.aload_n 0, 1) := by decide +kernel
theorem dX9_pass_1 : decode cX9_pass 1 = .ok (.getfield 276, 3) := by decide +kernel
theorem dX9_pass_4 : decode cX9_pass 4 = .ok (.ifCond .eq 7, 3) := by decide +kernel
theorem dX9_pass_7 : decode cX9_pass 7 = .ok (.iload_n 1, 1) := by decide +kernel
theorem dX9_pass_8 : decode cX9_pass 8 = .ok (.goto 12, 3) := by decide +kernel
theorem dX9_pass_11 : decode cX9_pass 11 = .ok (.aload_n 0, 1) := by decide +kernel
theorem dX9_pass_12 : decode cX9_pass 12 = .ok (.getfield 56, 3) := by decide +kernel
theorem dX9_pass_15 : decode cX9_pass 15 = .ok (.aload_n 0, 1) := by decide +kernel
theorem dX9_pass_16 : decode cX9_pass 16 = .ok (.getfield 280, 3) := by decide +kernel
theorem dX9_pass_19 : decode cX9_pass 19 = .ok (.iaload, 1) := by decide +kernel
theorem dX9_pass_20 : decode cX9_pass 20 = .ok (.istore_n 2, 1) := by decide +kernel
theorem dX9_pass_21 : decode cX9_pass 21 = .ok (.aload_n 0, 1) := by decide +kernel
theorem dX9_pass_22 : decode cX9_pass 22 = .ok (.getfield 56, 3) := by decide +kernel
theorem dX9_pass_25 : decode cX9_pass 25 = .ok (.aload_n 0, 1) := by decide +kernel
theorem dX9_pass_26 : decode cX9_pass 26 = .ok (.getfield 280, 3) := by decide +kernel
theorem dX9_pass_29 : decode cX9_pass 29 = .ok (.iload_n 2, 1) := by decide +kernel
theorem dX9_pass_30 : decode cX9_pass 30 = .ok (.iastore, 1) := by decide +kernel
theorem dX9_pass_31 : decode cX9_pass 31 = .ok (.aload_n 0, 1) := by decide +kernel
theorem dX9_pass_32 : decode cX9_pass 32 = .ok (.dup, 1) := by decide +kernel
theorem dX9_pass_33 : decode cX9_pass 33 = .ok (.getfield 280, 3) := by decide +kernel
theorem dX9_pass_36 : decode cX9_pass 36 = .ok (.iconst 1, 1) := by decide +kernel
theorem dX9_pass_37 : decode cX9_pass 37 = .ok (.iadd, 1) := by decide +kernel
theorem dX9_pass_38 : decode cX9_pass 38 = .ok (.putfield 280, 3) := by decide +kernel
theorem dX9_pass_41 : decode cX9_pass 41 = .ok (.iload_n 2, 1) := by decide +kernel
theorem dX9_pass_42 : decode cX9_pass 42 = .ok (.ireturn, 1) := by decide +kernel
abbrev cxX9_pass (G : Rg) (X : Ct) : Prop := Cx G X cX9_pass 3 RX9 (some .int) 0 0 (Cond.code yX9_pass cX9_pass 3 (some .int))
def fX9_pass_b20   (s0 : Int32) (M : Mm) : Option (Int32 × Mm) :=
gd (inb (M.1 0 31) 140) (
some (s0, (sI (sI M 16 (M.1 0 31).toNatClampNeg s0) 0 31 (((sI M 16 (M.1 0 31).toNatClampNeg s0).1 0 31) + (nI 1)))))
set_option maxHeartbeats 4000000 in
set_option maxRecDepth 100000 in
theorem vX9_pass_b20 {G : Rg} {X : Ct} {r : Int32} {Mf : Mm}   (C : cxX9_pass G X) (hG : gS G = shM)   (s0 : Int32) (M : Mm) (hf : fX9_pass_b20 s0 M = some (r, Mf)) : V G X 3 (some (.int r)) Mf 20 [(0, .ref (gA G 0))] [.int s0] M := by
  rw [fX9_pass_b20] at hf
  refine V.istore_n (pc := 20) (lv' := [(2, .int s0), (0, .ref (gA G 0))]) C (by decide) rfl dX9_pass_20 ?_
  refine V.aload_n (pc := 21) C 1 rfl dX9_pass_21 ?_
  refine V.getR (pc := 22) C clX9 inX9 (sm_0 hG) 29 (by decide) wF_X9_56 rfl dX9_pass_22 ?_
  refine V.aload_n (pc := 25) C 1 rfl dX9_pass_25 ?_
  refine V.getI (pc := 26) C clX9 inX9 (sm_0 hG) 31 (by decide) wF_X9_280 rfl dX9_pass_26 ?_
  refine V.iload_n (pc := 29) C 0 rfl dX9_pass_29 ?_
  obtain ⟨g1, hf⟩ := gd_some hf
  refine V.iast (pc := 30) C (sm_16 hG) (inb_in g1) dX9_pass_30 ?_
  refine V.aload_n (pc := 31) C 1 rfl dX9_pass_31 ?_
  refine V.dup (pc := 32) C rfl dX9_pass_32 ?_
  refine V.getI (pc := 33) C clX9 inX9 (sm_0 hG) 31 (by decide) wF_X9_280 rfl dX9_pass_33 ?_
  refine V.iconst (pc := 36) C (nI 1) (by decide) dX9_pass_36 ?_
  refine V.iadd (pc := 37) C dX9_pass_37 ?_
  refine V.putI (pc := 38) C clX9 inX9 (sm_0 hG) 31 (by decide) wF_X9_280 tyX9 tyX9_ok nmX9 rfl (tyX9_ok 31 (by decide)) rfl dX9_pass_38 ?_
  refine V.iload_n (pc := 41) C 0 rfl dX9_pass_41 ?_
  exact V.retI (pc := 42) C hf dX9_pass_42
def fX9_pass (x1 : Int32) (M : Mm) : Option (Int32 × Mm) :=
if (M.1 0 32) = (nI 0) then
(gd (inb (M.1 0 31) 140) (
fX9_pass_b20 (M.1 16 (M.1 0 31).toNatClampNeg) M))
else
(fX9_pass_b20 x1 M)
set_option maxHeartbeats 4000000 in
set_option maxRecDepth 100000 in
theorem mX9_pass (l : Launch) {G : Rg} (hG : gS G = shM) {x1 : Int32}  {M Mf : Mm} {r : Int32} (hf : fX9_pass x1 M = some (r, Mf)) : Mt l G yX9_pass cX9_pass 3 (some .int) 0 0 [.ref (gA G 0), .int x1] M (some (.int r)) Mf := by
  refine Mt.of (by decide) (Nat.le_of_ble_eq_true rfl) ?_
  intro X C hX
  subst hX
  have C : cxX9_pass G X := C
  show V G X 3 (some (.int r)) Mf 0 [(0, .ref (gA G 0)), (1, .int x1)] [] M
  rw [fX9_pass] at hf
  refine V.aload_n (pc := 0) C 0 rfl dX9_pass_0 ?_
  refine V.getI (pc := 1) C clX9 inX9 (sm_0 hG) 32 (by decide) wF_X9_276 rfl dX9_pass_1 ?_
  rcases it_some hf with ⟨h1, hf⟩ | ⟨h1, hf⟩
  · refine V.if_eqT (pc := 4) C 11 h1 (by decide) dX9_pass_4 ?_
    refine V.aload_n (pc := 11) C 0 rfl dX9_pass_11 ?_
    refine V.getR (pc := 12) C clX9 inX9 (sm_0 hG) 29 (by decide) wF_X9_56 rfl dX9_pass_12 ?_
    refine V.aload_n (pc := 15) C 0 rfl dX9_pass_15 ?_
    refine V.getI (pc := 16) C clX9 inX9 (sm_0 hG) 31 (by decide) wF_X9_280 rfl dX9_pass_16 ?_
    obtain ⟨g2, hf⟩ := gd_some hf
    refine V.iald (pc := 19) C (sm_16 hG) (inb_in g2) dX9_pass_19 ?_
    refine V.sub C [0] (lv' := [(0, .ref (gA G 0))]) rfl ?_
    exact vX9_pass_b20 C hG    _ _ hf
  · refine V.if_eqF (pc := 4) C 11 h1 (by decide) dX9_pass_4 ?_
    refine V.iload_n (pc := 7) C 1 rfl dX9_pass_7 ?_
    refine V.goto (pc := 8) C 20 (by decide) dX9_pass_8 ?_
    refine V.sub C [0] (lv' := [(0, .ref (gA G 0))]) rfl ?_
    exact vX9_pass_b20 C hG    _ _ hf
theorem dX9_passAll_0 : decode cX9_passAll 0 = .ok (.aload_n 0, 1) := by decide +kernel
theorem dX9_passAll_1 : decode cX9_passAll 1 = .ok (.aload_n 0, 1) := by decide +kernel
theorem dX9_passAll_2 : decode cX9_passAll 2 = .ok (.aload_n 0, 1) := by decide +kernel
theorem dX9_passAll_3 : decode cX9_passAll 3 = .ok (.getfield 73, 3) := by decide +kernel
theorem dX9_passAll_6 : decode cX9_passAll 6 = .ok (.invokevirtual 283, 3) := by decide +kernel
theorem dX9_passAll_9 : decode cX9_passAll 9 = .ok (.putfield 73, 3) := by decide +kernel
theorem dX9_passAll_12 : decode cX9_passAll 12 = .ok (.aload_n 0, 1) := by decide +kernel
theorem dX9_passAll_13 : decode cX9_passAll 13 = .ok (.aload_n 0, 1) := by decide +kernel
theorem dX9_passAll_14 : decode cX9_passAll 14 = .ok (.aload_n 0, 1) := by decide +kernel
theorem dX9_passAll_15 : decode cX9_passAll 15 = .ok (.getfield 63, 3) := by decide +kernel
theorem dX9_passAll_18 : decode cX9_passAll 18 = .ok (.invokevirtual 283, 3) := by decide +kernel
theorem dX9_passAll_21 : decode cX9_passAll 21 = .ok (.putfield 63, 3) := by decide +kernel
theorem dX9_passAll_24 : decode cX9_passAll 24 = .ok (.aload_n 0, 1) := by decide +kernel
theorem dX9_passAll_25 : decode cX9_passAll 25 = .ok (.aload_n 0, 1) := by decide +kernel
theorem dX9_passAll_26 : decode cX9_passAll 26 = .ok (.aload_n 0, 1) := by decide +kernel
theorem dX9_passAll_27 : decode cX9_passAll 27 = .ok (.getfield 233, 3) := by decide +kernel
theorem dX9_passAll_30 : decode cX9_passAll 30 = .ok (.invokevirtual 283, 3) := by decide +kernel
theorem dX9_passAll_33 : decode cX9_passAll 33 = .ok (.putfield 233, 3) := by decide +kernel
theorem dX9_passAll_36 : decode cX9_passAll 36 = .ok (.iconst 0, 1) := by decide +kernel
theorem dX9_passAll_37 : decode cX9_passAll 37 = .ok (.istore_n 1, 1) := by decide +kernel
theorem dX9_passAll_38 : decode cX9_passAll 38 = .ok (.iload_n 1, 1) := by decide +kernel
theorem dX9_passAll_39 : decode cX9_passAll 39 = .ok (.bipush 12, 2) := by decide +kernel
theorem dX9_passAll_41 : decode cX9_passAll 41 = .ok (.if_icmp .ge 41, 3) := by decide +kernel
theorem dX9_passAll_44 : decode cX9_passAll 44 = .ok (.aload_n 0, 1) := by decide +kernel
theorem dX9_passAll_45 : decode cX9_passAll 45 = .ok (.getfield 7, 3) := by decide +kernel
theorem dX9_passAll_48 : decode cX9_passAll 48 = .ok (.iload_n 1, 1) := by decide +kernel
theorem dX9_passAll_49 : decode cX9_passAll 49 = .ok (.aload_n 0, 1) := by decide +kernel
theorem dX9_passAll_50 : decode cX9_passAll 50 = .ok (.aload_n 0, 1) := by decide +kernel
theorem dX9_passAll_51 : decode cX9_passAll 51 = .ok (.getfield 7, 3) := by decide +kernel
theorem dX9_passAll_54 : decode cX9_passAll 54 = .ok (.iload_n 1, 1) := by decide +kernel
theorem dX9_passAll_55 : decode cX9_passAll 55 = .ok (.iaload, 1) := by decide +kernel
theorem dX9_passAll_56 : decode cX9_passAll 56 = .ok (.invokevirtual 283, 3) := by decide +kernel
theorem dX9_passAll_59 : decode cX9_passAll 59 = .ok (.iastore, 1) := by decide +kernel
theorem dX9_passAll_60 : decode cX9_passAll 60 = .ok (.aload_n 0, 1) := by decide +kernel
theorem dX9_passAll_61 : decode cX9_passAll 61 = .ok (.getfield 13, 3) := by decide +kernel
theorem dX9_passAll_64 : decode cX9_passAll 64 = .ok (.iload_n 1, 1) := by decide +kernel
theorem dX9_passAll_65 : decode cX9_passAll 65 = .ok (.aload_n 0, 1) := by decide +kernel
theorem dX9_passAll_66 : decode cX9_passAll 66 = .ok (.aload_n 0, 1) := by decide +kernel
theorem dX9_passAll_67 : decode cX9_passAll 67 = .ok (.getfield 13, 3) := by decide +kernel
theorem dX9_passAll_70 : decode cX9_passAll 70 = .ok (.iload_n 1, 1) := by decide +kernel
theorem dX9_passAll_71 : decode cX9_passAll 71 = .ok (.iaload, 1) := by decide +kernel
theorem dX9_passAll_72 : decode cX9_passAll 72 = .ok (.invokevirtual 283, 3) := by decide +kernel
theorem dX9_passAll_75 : decode cX9_passAll 75 = .ok (.iastore, 1) := by decide +kernel
theorem dX9_passAll_76 : decode cX9_passAll 76 = .ok (.iinc 1 1, 3) := by decide +kernel
theorem dX9_passAll_79 : decode cX9_passAll 79 = .ok (.goto (-41), 3) := by decide +kernel
theorem dX9_passAll_82 : decode cX9_passAll 82 = .ok (.iconst 0, 1) := by decide +kernel
theorem dX9_passAll_83 : decode cX9_passAll 83 = .ok (.istore_n 1, 1) := by decide +kernel
theorem dX9_passAll_84 : decode cX9_passAll 84 = .ok (.iload_n 1, 1) := by decide +kernel
theorem dX9_passAll_85 : decode cX9_passAll 85 = .ok (.bipush 6, 2) := by decide +kernel
theorem dX9_passAll_87 : decode cX9_passAll 87 = .ok (.if_icmp .ge 25, 3) := by decide +kernel
theorem dX9_passAll_90 : decode cX9_passAll 90 = .ok (.aload_n 0, 1) := by decide +kernel
theorem dX9_passAll_91 : decode cX9_passAll 91 = .ok (.getfield 16, 3) := by decide +kernel
theorem dX9_passAll_94 : decode cX9_passAll 94 = .ok (.iload_n 1, 1) := by decide +kernel
theorem dX9_passAll_95 : decode cX9_passAll 95 = .ok (.aload_n 0, 1) := by decide +kernel
theorem dX9_passAll_96 : decode cX9_passAll 96 = .ok (.aload_n 0, 1) := by decide +kernel
theorem dX9_passAll_97 : decode cX9_passAll 97 = .ok (.getfield 16, 3) := by decide +kernel
theorem dX9_passAll_100 : decode cX9_passAll 100 = .ok (.iload_n 1, 1) := by decide +kernel
theorem dX9_passAll_101 : decode cX9_passAll 101 = .ok (.iaload, 1) := by decide +kernel
theorem dX9_passAll_102 : decode cX9_passAll 102 = .ok (.invokevirtual 283, 3) := by decide +kernel
theorem dX9_passAll_105 : decode cX9_passAll 105 = .ok (.iastore, 1) := by decide +kernel
theorem dX9_passAll_106 : decode cX9_passAll 106 = .ok (.iinc 1 1, 3) := by decide +kernel
theorem dX9_passAll_109 : decode cX9_passAll 109 = .ok (.goto (-25), 3) := by decide +kernel
theorem dX9_passAll_112 : decode cX9_passAll 112 = .ok (.iconst 0, 1) := by decide +kernel
theorem dX9_passAll_113 : decode cX9_passAll 113 = .ok (.istore_n 1, 1) := by decide +kernel
theorem dX9_passAll_114 : decode cX9_passAll 114 = .ok (.iload_n 1, 1) := by decide +kernel
theorem dX9_passAll_115 : decode cX9_passAll 115 = .ok (.bipush 8, 2) := by decide +kernel
theorem dX9_passAll_117 : decode cX9_passAll 117 = .ok (.if_icmp .ge 57, 3) := by decide +kernel
theorem dX9_passAll_120 : decode cX9_passAll 120 = .ok (.aload_n 0, 1) := by decide +kernel
theorem dX9_passAll_121 : decode cX9_passAll 121 = .ok (.getfield 19, 3) := by decide +kernel
theorem dX9_passAll_124 : decode cX9_passAll 124 = .ok (.iload_n 1, 1) := by decide +kernel
theorem dX9_passAll_125 : decode cX9_passAll 125 = .ok (.aload_n 0, 1) := by decide +kernel
theorem dX9_passAll_126 : decode cX9_passAll 126 = .ok (.aload_n 0, 1) := by decide +kernel
theorem dX9_passAll_127 : decode cX9_passAll 127 = .ok (.getfield 19, 3) := by decide +kernel
theorem dX9_passAll_130 : decode cX9_passAll 130 = .ok (.iload_n 1, 1) := by decide +kernel
theorem dX9_passAll_131 : decode cX9_passAll 131 = .ok (.iaload, 1) := by decide +kernel
theorem dX9_passAll_132 : decode cX9_passAll 132 = .ok (.invokevirtual 283, 3) := by decide +kernel
theorem dX9_passAll_135 : decode cX9_passAll 135 = .ok (.iastore, 1) := by decide +kernel
theorem dX9_passAll_136 : decode cX9_passAll 136 = .ok (.aload_n 0, 1) := by decide +kernel
theorem dX9_passAll_137 : decode cX9_passAll 137 = .ok (.getfield 22, 3) := by decide +kernel
theorem dX9_passAll_140 : decode cX9_passAll 140 = .ok (.iload_n 1, 1) := by decide +kernel
theorem dX9_passAll_141 : decode cX9_passAll 141 = .ok (.aload_n 0, 1) := by decide +kernel
theorem dX9_passAll_142 : decode cX9_passAll 142 = .ok (.aload_n 0, 1) := by decide +kernel
theorem dX9_passAll_143 : decode cX9_passAll 143 = .ok (.getfield 22, 3) := by decide +kernel
theorem dX9_passAll_146 : decode cX9_passAll 146 = .ok (.iload_n 1, 1) := by decide +kernel
theorem dX9_passAll_147 : decode cX9_passAll 147 = .ok (.iaload, 1) := by decide +kernel
theorem dX9_passAll_148 : decode cX9_passAll 148 = .ok (.invokevirtual 283, 3) := by decide +kernel
theorem dX9_passAll_151 : decode cX9_passAll 151 = .ok (.iastore, 1) := by decide +kernel
theorem dX9_passAll_152 : decode cX9_passAll 152 = .ok (.aload_n 0, 1) := by decide +kernel
theorem dX9_passAll_153 : decode cX9_passAll 153 = .ok (.getfield 25, 3) := by decide +kernel
theorem dX9_passAll_156 : decode cX9_passAll 156 = .ok (.iload_n 1, 1) := by decide +kernel
theorem dX9_passAll_157 : decode cX9_passAll 157 = .ok (.aload_n 0, 1) := by decide +kernel
theorem dX9_passAll_158 : decode cX9_passAll 158 = .ok (.aload_n 0, 1) := by decide +kernel
theorem dX9_passAll_159 : decode cX9_passAll 159 = .ok (.getfield 25, 3) := by decide +kernel
theorem dX9_passAll_162 : decode cX9_passAll 162 = .ok (.iload_n 1, 1) := by decide +kernel
theorem dX9_passAll_163 : decode cX9_passAll 163 = .ok (.iaload, 1) := by decide +kernel
theorem dX9_passAll_164 : decode cX9_passAll 164 = .ok (.invokevirtual 283, 3) := by decide +kernel
theorem dX9_passAll_167 : decode cX9_passAll 167 = .ok (.iastore, 1) := by decide +kernel
theorem dX9_passAll_168 : decode cX9_passAll 168 = .ok (.iinc 1 1, 3) := by decide +kernel
theorem dX9_passAll_171 : decode cX9_passAll 171 = .ok (.goto (-57), 3) := by decide +kernel
theorem dX9_passAll_174 : decode cX9_passAll 174 = .ok (.return_, 1) := by decide +kernel
abbrev cxX9_passAll (G : Rg) (X : Ct) : Prop := Cx G X cX9_passAll 2 RX9 (none) 1 22 (Cond.code yX9_passAll cX9_passAll 2 (none))
def fX9_passAll_b114   : Nat → Int32 → Mm → Option (Unit × Mm)
  | 0, _, _ => none
  | n + 1, v1, M =>
    if (nI 8) ≤ v1 then
    (some ((), M))
    else
    (gd (inb v1 8) (
    bd (fX9_pass (M.1 4 v1.toNatClampNeg) M) fun r3 M3 =>
    gd (inb v1 8) (
    gd (inb v1 8) (
    bd (fX9_pass ((sI M3 4 v1.toNatClampNeg r3).1 5 v1.toNatClampNeg) (sI M3 4 v1.toNatClampNeg r3)) fun r6 M6 =>
    gd (inb v1 8) (
    gd (inb v1 8) (
    bd (fX9_pass ((sI M6 5 v1.toNatClampNeg r6).1 6 v1.toNatClampNeg) (sI M6 5 v1.toNatClampNeg r6)) fun r9 M9 =>
    gd (inb v1 8) (
    fX9_passAll_b114  n (v1 + (nI 1)) (sI M9 6 v1.toNatClampNeg r9))))))))
set_option maxHeartbeats 4000000 in
set_option maxRecDepth 100000 in
theorem vX9_passAll_b114 {G : Rg} {X : Ct} {r : Unit} {Mf : Mm}   (C : cxX9_passAll G X) (hG : gS G = shM)   : ∀ (n : Nat) (v1 : Int32) (M : Mm), fX9_passAll_b114 n v1 M = some (r, Mf) → V G X 2 none Mf 114 [(0, .ref (gA G 0)), (1, .int v1)] [] M := by
  intro n
  induction n with
  | zero => intro v1 M hf; rw [fX9_passAll_b114] at hf; cases hf
  | succ n ih =>
    intro v1 M hf
    rw [fX9_passAll_b114] at hf
    refine V.iload_n (pc := 114) C 1 rfl dX9_passAll_114 ?_
    refine V.bipush (pc := 115) C (nI 8) (by decide) dX9_passAll_115 ?_
    rcases it_some hf with ⟨h1, hf⟩ | ⟨h1, hf⟩
    · refine V.ic_geT (pc := 117) C 174 h1 (by decide) dX9_passAll_117 ?_
      exact V.retV (pc := 174) C hf dX9_passAll_174
    · refine V.ic_geF (pc := 117) C 174 h1 (by decide) dX9_passAll_117 ?_
      refine V.aload_n (pc := 120) C 0 rfl dX9_passAll_120 ?_
      refine V.getR (pc := 121) C clX9 inX9 (sm_0 hG) 5 (by decide) wF_X9_19 rfl dX9_passAll_121 ?_
      refine V.iload_n (pc := 124) C 1 rfl dX9_passAll_124 ?_
      refine V.aload_n (pc := 125) C 0 rfl dX9_passAll_125 ?_
      refine V.aload_n (pc := 126) C 0 rfl dX9_passAll_126 ?_
      refine V.getR (pc := 127) C clX9 inX9 (sm_0 hG) 5 (by decide) wF_X9_19 rfl dX9_passAll_127 ?_
      refine V.iload_n (pc := 130) C 1 rfl dX9_passAll_130 ?_
      obtain ⟨g2, hf⟩ := gd_some hf
      refine V.iald (pc := 131) C (sm_4 hG) (inb_in g2) dX9_passAll_131 ?_
      obtain ⟨r3, M3, h3, hf⟩ := bd_some hf
      refine V.callVi (pc := 132) (As := [.int (M.1 4 v1.toNatClampNeg)]) (rest := [.int v1, .ref (gA G 4)]) C (mX9_pass X.2.1 hG  h3) mf_X9_pass clX9 (sm_0 hG) wM_X9_283 rfl rfl ⟨by decide, by decide⟩ (Nat.le_of_ble_eq_true rfl) dX9_passAll_132 ?_
      obtain ⟨g4, hf⟩ := gd_some hf
      refine V.iast (pc := 135) C (sm_4 hG) (inb_in g4) dX9_passAll_135 ?_
      refine V.aload_n (pc := 136) C 0 rfl dX9_passAll_136 ?_
      refine V.getR (pc := 137) C clX9 inX9 (sm_0 hG) 6 (by decide) wF_X9_22 rfl dX9_passAll_137 ?_
      refine V.iload_n (pc := 140) C 1 rfl dX9_passAll_140 ?_
      refine V.aload_n (pc := 141) C 0 rfl dX9_passAll_141 ?_
      refine V.aload_n (pc := 142) C 0 rfl dX9_passAll_142 ?_
      refine V.getR (pc := 143) C clX9 inX9 (sm_0 hG) 6 (by decide) wF_X9_22 rfl dX9_passAll_143 ?_
      refine V.iload_n (pc := 146) C 1 rfl dX9_passAll_146 ?_
      obtain ⟨g5, hf⟩ := gd_some hf
      refine V.iald (pc := 147) C (sm_5 hG) (inb_in g5) dX9_passAll_147 ?_
      obtain ⟨r6, M6, h6, hf⟩ := bd_some hf
      refine V.callVi (pc := 148) (As := [.int ((sI M3 4 v1.toNatClampNeg r3).1 5 v1.toNatClampNeg)]) (rest := [.int v1, .ref (gA G 5)]) C (mX9_pass X.2.1 hG  h6) mf_X9_pass clX9 (sm_0 hG) wM_X9_283 rfl rfl ⟨by decide, by decide⟩ (Nat.le_of_ble_eq_true rfl) dX9_passAll_148 ?_
      obtain ⟨g7, hf⟩ := gd_some hf
      refine V.iast (pc := 151) C (sm_5 hG) (inb_in g7) dX9_passAll_151 ?_
      refine V.aload_n (pc := 152) C 0 rfl dX9_passAll_152 ?_
      refine V.getR (pc := 153) C clX9 inX9 (sm_0 hG) 7 (by decide) wF_X9_25 rfl dX9_passAll_153 ?_
      refine V.iload_n (pc := 156) C 1 rfl dX9_passAll_156 ?_
      refine V.aload_n (pc := 157) C 0 rfl dX9_passAll_157 ?_
      refine V.aload_n (pc := 158) C 0 rfl dX9_passAll_158 ?_
      refine V.getR (pc := 159) C clX9 inX9 (sm_0 hG) 7 (by decide) wF_X9_25 rfl dX9_passAll_159 ?_
      refine V.iload_n (pc := 162) C 1 rfl dX9_passAll_162 ?_
      obtain ⟨g8, hf⟩ := gd_some hf
      refine V.iald (pc := 163) C (sm_6 hG) (inb_in g8) dX9_passAll_163 ?_
      obtain ⟨r9, M9, h9, hf⟩ := bd_some hf
      refine V.callVi (pc := 164) (As := [.int ((sI M6 5 v1.toNatClampNeg r6).1 6 v1.toNatClampNeg)]) (rest := [.int v1, .ref (gA G 6)]) C (mX9_pass X.2.1 hG  h9) mf_X9_pass clX9 (sm_0 hG) wM_X9_283 rfl rfl ⟨by decide, by decide⟩ (Nat.le_of_ble_eq_true rfl) dX9_passAll_164 ?_
      obtain ⟨g10, hf⟩ := gd_some hf
      refine V.iast (pc := 167) C (sm_6 hG) (inb_in g10) dX9_passAll_167 ?_
      refine V.iinc (pc := 168) (lv' := [(1, .int (v1 + (nI 1))), (0, .ref (gA G 0))]) C (v1 + (nI 1)) 1 rfl rfl (by decide) rfl dX9_passAll_168 ?_
      refine V.goto (pc := 171) C 114 (by decide) dX9_passAll_171 ?_
      refine V.sub C [1, 0] (lv' := [(0, .ref (gA G 0)), (1, .int (v1 + (nI 1)))]) rfl ?_
      exact ih _ _ hf
def fX9_passAll_b84   : Nat → Int32 → Mm → Option (Unit × Mm)
  | 0, _, _ => none
  | n + 1, v1, M =>
    if (nI 6) ≤ v1 then
    (fX9_passAll_b114 fu (nI 0) M)
    else
    (gd (inb v1 6) (
    bd (fX9_pass (M.1 3 v1.toNatClampNeg) M) fun r3 M3 =>
    gd (inb v1 6) (
    fX9_passAll_b84  n (v1 + (nI 1)) (sI M3 3 v1.toNatClampNeg r3))))
set_option maxHeartbeats 4000000 in
set_option maxRecDepth 100000 in
theorem vX9_passAll_b84 {G : Rg} {X : Ct} {r : Unit} {Mf : Mm}   (C : cxX9_passAll G X) (hG : gS G = shM)   : ∀ (n : Nat) (v1 : Int32) (M : Mm), fX9_passAll_b84 n v1 M = some (r, Mf) → V G X 2 none Mf 84 [(0, .ref (gA G 0)), (1, .int v1)] [] M := by
  intro n
  induction n with
  | zero => intro v1 M hf; rw [fX9_passAll_b84] at hf; cases hf
  | succ n ih =>
    intro v1 M hf
    rw [fX9_passAll_b84] at hf
    refine V.iload_n (pc := 84) C 1 rfl dX9_passAll_84 ?_
    refine V.bipush (pc := 85) C (nI 6) (by decide) dX9_passAll_85 ?_
    rcases it_some hf with ⟨h1, hf⟩ | ⟨h1, hf⟩
    · refine V.ic_geT (pc := 87) C 112 h1 (by decide) dX9_passAll_87 ?_
      refine V.iconst (pc := 112) C (nI 0) (by decide) dX9_passAll_112 ?_
      refine V.istore_n (pc := 113) (lv' := [(1, .int (nI 0)), (0, .ref (gA G 0))]) C (by decide) rfl dX9_passAll_113 ?_
      refine V.sub C [1, 0] (lv' := [(0, .ref (gA G 0)), (1, .int (nI 0))]) rfl ?_
      exact vX9_passAll_b114 C hG   fu _ _ hf
    · refine V.ic_geF (pc := 87) C 112 h1 (by decide) dX9_passAll_87 ?_
      refine V.aload_n (pc := 90) C 0 rfl dX9_passAll_90 ?_
      refine V.getR (pc := 91) C clX9 inX9 (sm_0 hG) 4 (by decide) wF_X9_16 rfl dX9_passAll_91 ?_
      refine V.iload_n (pc := 94) C 1 rfl dX9_passAll_94 ?_
      refine V.aload_n (pc := 95) C 0 rfl dX9_passAll_95 ?_
      refine V.aload_n (pc := 96) C 0 rfl dX9_passAll_96 ?_
      refine V.getR (pc := 97) C clX9 inX9 (sm_0 hG) 4 (by decide) wF_X9_16 rfl dX9_passAll_97 ?_
      refine V.iload_n (pc := 100) C 1 rfl dX9_passAll_100 ?_
      obtain ⟨g2, hf⟩ := gd_some hf
      refine V.iald (pc := 101) C (sm_3 hG) (inb_in g2) dX9_passAll_101 ?_
      obtain ⟨r3, M3, h3, hf⟩ := bd_some hf
      refine V.callVi (pc := 102) (As := [.int (M.1 3 v1.toNatClampNeg)]) (rest := [.int v1, .ref (gA G 3)]) C (mX9_pass X.2.1 hG  h3) mf_X9_pass clX9 (sm_0 hG) wM_X9_283 rfl rfl ⟨by decide, by decide⟩ (Nat.le_of_ble_eq_true rfl) dX9_passAll_102 ?_
      obtain ⟨g4, hf⟩ := gd_some hf
      refine V.iast (pc := 105) C (sm_3 hG) (inb_in g4) dX9_passAll_105 ?_
      refine V.iinc (pc := 106) (lv' := [(1, .int (v1 + (nI 1))), (0, .ref (gA G 0))]) C (v1 + (nI 1)) 1 rfl rfl (by decide) rfl dX9_passAll_106 ?_
      refine V.goto (pc := 109) C 84 (by decide) dX9_passAll_109 ?_
      refine V.sub C [1, 0] (lv' := [(0, .ref (gA G 0)), (1, .int (v1 + (nI 1)))]) rfl ?_
      exact ih _ _ hf
def fX9_passAll_b38   : Nat → Int32 → Mm → Option (Unit × Mm)
  | 0, _, _ => none
  | n + 1, v1, M =>
    if (nI 12) ≤ v1 then
    (fX9_passAll_b84 fu (nI 0) M)
    else
    (gd (inb v1 12) (
    bd (fX9_pass (M.1 1 v1.toNatClampNeg) M) fun r3 M3 =>
    gd (inb v1 12) (
    gd (inb v1 12) (
    bd (fX9_pass ((sI M3 1 v1.toNatClampNeg r3).1 2 v1.toNatClampNeg) (sI M3 1 v1.toNatClampNeg r3)) fun r6 M6 =>
    gd (inb v1 12) (
    fX9_passAll_b38  n (v1 + (nI 1)) (sI M6 2 v1.toNatClampNeg r6))))))
set_option maxHeartbeats 4000000 in
set_option maxRecDepth 100000 in
theorem vX9_passAll_b38 {G : Rg} {X : Ct} {r : Unit} {Mf : Mm}   (C : cxX9_passAll G X) (hG : gS G = shM)   : ∀ (n : Nat) (v1 : Int32) (M : Mm), fX9_passAll_b38 n v1 M = some (r, Mf) → V G X 2 none Mf 38 [(0, .ref (gA G 0)), (1, .int v1)] [] M := by
  intro n
  induction n with
  | zero => intro v1 M hf; rw [fX9_passAll_b38] at hf; cases hf
  | succ n ih =>
    intro v1 M hf
    rw [fX9_passAll_b38] at hf
    refine V.iload_n (pc := 38) C 1 rfl dX9_passAll_38 ?_
    refine V.bipush (pc := 39) C (nI 12) (by decide) dX9_passAll_39 ?_
    rcases it_some hf with ⟨h1, hf⟩ | ⟨h1, hf⟩
    · refine V.ic_geT (pc := 41) C 82 h1 (by decide) dX9_passAll_41 ?_
      refine V.iconst (pc := 82) C (nI 0) (by decide) dX9_passAll_82 ?_
      refine V.istore_n (pc := 83) (lv' := [(1, .int (nI 0)), (0, .ref (gA G 0))]) C (by decide) rfl dX9_passAll_83 ?_
      refine V.sub C [1, 0] (lv' := [(0, .ref (gA G 0)), (1, .int (nI 0))]) rfl ?_
      exact vX9_passAll_b84 C hG   fu _ _ hf
    · refine V.ic_geF (pc := 41) C 82 h1 (by decide) dX9_passAll_41 ?_
      refine V.aload_n (pc := 44) C 0 rfl dX9_passAll_44 ?_
      refine V.getR (pc := 45) C clX9 inX9 (sm_0 hG) 2 (by decide) wF_X9_7 rfl dX9_passAll_45 ?_
      refine V.iload_n (pc := 48) C 1 rfl dX9_passAll_48 ?_
      refine V.aload_n (pc := 49) C 0 rfl dX9_passAll_49 ?_
      refine V.aload_n (pc := 50) C 0 rfl dX9_passAll_50 ?_
      refine V.getR (pc := 51) C clX9 inX9 (sm_0 hG) 2 (by decide) wF_X9_7 rfl dX9_passAll_51 ?_
      refine V.iload_n (pc := 54) C 1 rfl dX9_passAll_54 ?_
      obtain ⟨g2, hf⟩ := gd_some hf
      refine V.iald (pc := 55) C (sm_1 hG) (inb_in g2) dX9_passAll_55 ?_
      obtain ⟨r3, M3, h3, hf⟩ := bd_some hf
      refine V.callVi (pc := 56) (As := [.int (M.1 1 v1.toNatClampNeg)]) (rest := [.int v1, .ref (gA G 1)]) C (mX9_pass X.2.1 hG  h3) mf_X9_pass clX9 (sm_0 hG) wM_X9_283 rfl rfl ⟨by decide, by decide⟩ (Nat.le_of_ble_eq_true rfl) dX9_passAll_56 ?_
      obtain ⟨g4, hf⟩ := gd_some hf
      refine V.iast (pc := 59) C (sm_1 hG) (inb_in g4) dX9_passAll_59 ?_
      refine V.aload_n (pc := 60) C 0 rfl dX9_passAll_60 ?_
      refine V.getR (pc := 61) C clX9 inX9 (sm_0 hG) 3 (by decide) wF_X9_13 rfl dX9_passAll_61 ?_
      refine V.iload_n (pc := 64) C 1 rfl dX9_passAll_64 ?_
      refine V.aload_n (pc := 65) C 0 rfl dX9_passAll_65 ?_
      refine V.aload_n (pc := 66) C 0 rfl dX9_passAll_66 ?_
      refine V.getR (pc := 67) C clX9 inX9 (sm_0 hG) 3 (by decide) wF_X9_13 rfl dX9_passAll_67 ?_
      refine V.iload_n (pc := 70) C 1 rfl dX9_passAll_70 ?_
      obtain ⟨g5, hf⟩ := gd_some hf
      refine V.iald (pc := 71) C (sm_2 hG) (inb_in g5) dX9_passAll_71 ?_
      obtain ⟨r6, M6, h6, hf⟩ := bd_some hf
      refine V.callVi (pc := 72) (As := [.int ((sI M3 1 v1.toNatClampNeg r3).1 2 v1.toNatClampNeg)]) (rest := [.int v1, .ref (gA G 2)]) C (mX9_pass X.2.1 hG  h6) mf_X9_pass clX9 (sm_0 hG) wM_X9_283 rfl rfl ⟨by decide, by decide⟩ (Nat.le_of_ble_eq_true rfl) dX9_passAll_72 ?_
      obtain ⟨g7, hf⟩ := gd_some hf
      refine V.iast (pc := 75) C (sm_2 hG) (inb_in g7) dX9_passAll_75 ?_
      refine V.iinc (pc := 76) (lv' := [(1, .int (v1 + (nI 1))), (0, .ref (gA G 0))]) C (v1 + (nI 1)) 1 rfl rfl (by decide) rfl dX9_passAll_76 ?_
      refine V.goto (pc := 79) C 38 (by decide) dX9_passAll_79 ?_
      refine V.sub C [1, 0] (lv' := [(0, .ref (gA G 0)), (1, .int (v1 + (nI 1)))]) rfl ?_
      exact ih _ _ hf
def fX9_passAll  (M : Mm) : Option (Unit × Mm) :=
bd (fX9_pass (M.1 0 0) M) fun r1 M1 =>
bd (fX9_pass ((sI M1 0 0 r1).1 0 1) (sI M1 0 0 r1)) fun r2 M2 =>
bd (fX9_pass ((sI M2 0 1 r2).1 0 8) (sI M2 0 1 r2)) fun r3 M3 =>
fX9_passAll_b38 fu (nI 0) (sI M3 0 8 r3)
set_option maxHeartbeats 4000000 in
set_option maxRecDepth 100000 in
theorem mX9_passAll (l : Launch) {G : Rg} (hG : gS G = shM)   {M Mf : Mm} {r : Unit} (hf : fX9_passAll  M = some (r, Mf)) : Mt l G yX9_passAll cX9_passAll 2 (none) 1 22 [.ref (gA G 0)] M none Mf := by
  refine Mt.of (by decide) (Nat.le_of_ble_eq_true rfl) ?_
  intro X C hX
  subst hX
  have C : cxX9_passAll G X := C
  show V G X 2 none Mf 0 [(0, .ref (gA G 0))] [] M
  rw [fX9_passAll] at hf
  refine V.aload_n (pc := 0) C 0 rfl dX9_passAll_0 ?_
  refine V.aload_n (pc := 1) C 0 rfl dX9_passAll_1 ?_
  refine V.aload_n (pc := 2) C 0 rfl dX9_passAll_2 ?_
  refine V.getI (pc := 3) C clX9 inX9 (sm_0 hG) 0 (by decide) wF_X9_73 rfl dX9_passAll_3 ?_
  obtain ⟨r1, M1, h1, hf⟩ := bd_some hf
  refine V.callVi (pc := 6) (As := [.int (M.1 0 0)]) (rest := [.ref (gA G 0)]) C (mX9_pass X.2.1 hG  h1) mf_X9_pass clX9 (sm_0 hG) wM_X9_283 rfl rfl ⟨by decide, by decide⟩ (Nat.le_of_ble_eq_true rfl) dX9_passAll_6 ?_
  refine V.putI (pc := 9) C clX9 inX9 (sm_0 hG) 0 (by decide) wF_X9_73 tyX9 tyX9_ok nmX9 rfl (tyX9_ok 0 (by decide)) rfl dX9_passAll_9 ?_
  refine V.aload_n (pc := 12) C 0 rfl dX9_passAll_12 ?_
  refine V.aload_n (pc := 13) C 0 rfl dX9_passAll_13 ?_
  refine V.aload_n (pc := 14) C 0 rfl dX9_passAll_14 ?_
  refine V.getI (pc := 15) C clX9 inX9 (sm_0 hG) 1 (by decide) wF_X9_63 rfl dX9_passAll_15 ?_
  obtain ⟨r2, M2, h2, hf⟩ := bd_some hf
  refine V.callVi (pc := 18) (As := [.int ((sI M1 0 0 r1).1 0 1)]) (rest := [.ref (gA G 0)]) C (mX9_pass X.2.1 hG  h2) mf_X9_pass clX9 (sm_0 hG) wM_X9_283 rfl rfl ⟨by decide, by decide⟩ (Nat.le_of_ble_eq_true rfl) dX9_passAll_18 ?_
  refine V.putI (pc := 21) C clX9 inX9 (sm_0 hG) 1 (by decide) wF_X9_63 tyX9 tyX9_ok nmX9 rfl (tyX9_ok 1 (by decide)) rfl dX9_passAll_21 ?_
  refine V.aload_n (pc := 24) C 0 rfl dX9_passAll_24 ?_
  refine V.aload_n (pc := 25) C 0 rfl dX9_passAll_25 ?_
  refine V.aload_n (pc := 26) C 0 rfl dX9_passAll_26 ?_
  refine V.getI (pc := 27) C clX9 inX9 (sm_0 hG) 8 (by decide) wF_X9_233 rfl dX9_passAll_27 ?_
  obtain ⟨r3, M3, h3, hf⟩ := bd_some hf
  refine V.callVi (pc := 30) (As := [.int ((sI M2 0 1 r2).1 0 8)]) (rest := [.ref (gA G 0)]) C (mX9_pass X.2.1 hG  h3) mf_X9_pass clX9 (sm_0 hG) wM_X9_283 rfl rfl ⟨by decide, by decide⟩ (Nat.le_of_ble_eq_true rfl) dX9_passAll_30 ?_
  refine V.putI (pc := 33) C clX9 inX9 (sm_0 hG) 8 (by decide) wF_X9_233 tyX9 tyX9_ok nmX9 rfl (tyX9_ok 8 (by decide)) rfl dX9_passAll_33 ?_
  refine V.iconst (pc := 36) C (nI 0) (by decide) dX9_passAll_36 ?_
  refine V.istore_n (pc := 37) (lv' := [(1, .int (nI 0)), (0, .ref (gA G 0))]) C (by decide) rfl dX9_passAll_37 ?_
  refine V.sub C [1, 0] (lv' := [(0, .ref (gA G 0)), (1, .int (nI 0))]) rfl ?_
  exact vX9_passAll_b38 C hG   fu _ _ hf
theorem dX9_image_0 : decode cX9_image 0 = .ok (.iload_n 1, 1) := by decide +kernel
theorem dX9_image_1 : decode cX9_image 1 = .ok (.i2l, 1) := by decide +kernel
theorem dX9_image_2 : decode cX9_image 2 = .ok (.lconst 0, 1) := by decide +kernel
theorem dX9_image_3 : decode cX9_image 3 = .ok (.lconst 1, 1) := by decide +kernel
theorem dX9_image_4 : decode cX9_image 4 = .ok (.invokestatic 69, 3) := by decide +kernel
theorem dX9_image_7 : decode cX9_image 7 = .ok (.ifCond .ne 6, 3) := by decide +kernel
theorem dX9_image_10 : decode cX9_image 10 = .ok (.bipush (-2), 2) := by decide +kernel
theorem dX9_image_12 : decode cX9_image 12 = .ok (.ireturn, 1) := by decide +kernel
theorem dX9_image_13 : decode cX9_image 13 = .ok (.aload_n 0, 1) := by decide +kernel
theorem dX9_image_14 : decode cX9_image 14 = .ok (.bipush 70, 2) := by decide +kernel
theorem dX9_image_16 : decode cX9_image 16 = .ok (.iload_n 1, 1) := by decide +kernel
theorem dX9_image_17 : decode cX9_image 17 = .ok (.imul, 1) := by decide +kernel
theorem dX9_image_18 : decode cX9_image 18 = .ok (.putfield 280, 3) := by decide +kernel
theorem dX9_image_21 : decode cX9_image 21 = .ok (.aload_n 0, 1) := by decide +kernel
theorem dX9_image_22 : decode cX9_image 22 = .ok (.iconst 1, 1) := by decide +kernel
theorem dX9_image_23 : decode cX9_image 23 = .ok (.putfield 276, 3) := by decide +kernel
theorem dX9_image_26 : decode cX9_image 26 = .ok (.aload_n 0, 1) := by decide +kernel
theorem dX9_image_27 : decode cX9_image 27 = .ok (.invokevirtual 286, 3) := by decide +kernel
theorem dX9_image_30 : decode cX9_image 30 = .ok (.aload_n 0, 1) := by decide +kernel
theorem dX9_image_31 : decode cX9_image 31 = .ok (.getfield 59, 3) := by decide +kernel
theorem dX9_image_34 : decode cX9_image 34 = .ok (.iload_n 1, 1) := by decide +kernel
theorem dX9_image_35 : decode cX9_image 35 = .ok (.iconst 1, 1) := by decide +kernel
theorem dX9_image_36 : decode cX9_image 36 = .ok (.bastore, 1) := by decide +kernel
theorem dX9_image_37 : decode cX9_image 37 = .ok (.iconst 1, 1) := by decide +kernel
theorem dX9_image_38 : decode cX9_image 38 = .ok (.ireturn, 1) := by decide +kernel
abbrev cxX9_image (G : Rg) (X : Ct) : Prop := Cx G X cX9_image 2 RX9 (some .int) 2 43 (Cond.code yX9_image cX9_image 2 (some .int))
def fX9_image (x1 : Int32) (M : Mm) : Option (Int32 × Mm) :=
bd (fX9_in x1.toInt64 (lN 0) (lN 1) M) fun r1 M1 =>
if r1 = (nI 0) then
(some ((mI 2), M1))
else
(bd (fX9_passAll (sI (sI M1 0 31 ((nI 70) * x1)) 0 32 (nI 1))) fun _ M3 =>
gd (inb x1 2) (
some ((nI 1), (sI M3 17 x1.toNatClampNeg (nI 1)))))
set_option maxHeartbeats 4000000 in
set_option maxRecDepth 100000 in
theorem mX9_image (l : Launch) {G : Rg} (hG : gS G = shM) {x1 : Int32}  {M Mf : Mm} {r : Int32} (hf : fX9_image x1 M = some (r, Mf)) : Mt l G yX9_image cX9_image 2 (some .int) 2 43 [.ref (gA G 0), .int x1] M (some (.int r)) Mf := by
  refine Mt.of (by decide) (Nat.le_of_ble_eq_true rfl) ?_
  intro X C hX
  subst hX
  have C : cxX9_image G X := C
  show V G X 2 (some (.int r)) Mf 0 [(0, .ref (gA G 0)), (1, .int x1)] [] M
  rw [fX9_image] at hf
  refine V.iload_n (pc := 0) C 1 rfl dX9_image_0 ?_
  refine V.i2l (pc := 1) C dX9_image_1 ?_
  refine V.lconst (pc := 2) C (lN 0) (by decide) dX9_image_2 ?_
  refine V.lconst (pc := 3) C (lN 1) (by decide) dX9_image_3 ?_
  obtain ⟨r1, M1, h1, hf⟩ := bd_some hf
  refine V.callSi (pc := 4) (As := [.long x1.toInt64, .long (lN 0), .long (lN 1)]) (rest := []) C (mX9_in X.2.1 hG  h1) mf_X9_in wM_X9_69 rfl rfl ⟨by decide, by decide⟩ (Nat.le_of_ble_eq_true rfl) dX9_image_4 ?_
  rcases it_some hf with ⟨h2, hf⟩ | ⟨h2, hf⟩
  · refine V.if_neF (pc := 7) C 13 h2 (by decide) dX9_image_7 ?_
    refine V.bipush (pc := 10) C (mI 2) (by decide) dX9_image_10 ?_
    exact V.retI (pc := 12) C hf dX9_image_12
  · refine V.if_neT (pc := 7) C 13 h2 (by decide) dX9_image_7 ?_
    refine V.aload_n (pc := 13) C 0 rfl dX9_image_13 ?_
    refine V.bipush (pc := 14) C (nI 70) (by decide) dX9_image_14 ?_
    refine V.iload_n (pc := 16) C 1 rfl dX9_image_16 ?_
    refine V.imul (pc := 17) C dX9_image_17 ?_
    refine V.putI (pc := 18) C clX9 inX9 (sm_0 hG) 31 (by decide) wF_X9_280 tyX9 tyX9_ok nmX9 rfl (tyX9_ok 31 (by decide)) rfl dX9_image_18 ?_
    refine V.aload_n (pc := 21) C 0 rfl dX9_image_21 ?_
    refine V.iconst (pc := 22) C (nI 1) (by decide) dX9_image_22 ?_
    refine V.putZ (pc := 23) C clX9 inX9 (sm_0 hG) 32 (by decide) wF_X9_276 tyX9 tyX9_ok nmX9 rfl (tyX9_ok 32 (by decide)) (Or.inr rfl) rfl dX9_image_23 ?_
    refine V.aload_n (pc := 26) C 0 rfl dX9_image_26 ?_
    obtain ⟨_, M3, h3, hf⟩ := bd_some hf
    refine V.callVv (pc := 27) (As := []) (rest := []) C (mX9_passAll X.2.1 hG  h3) mf_X9_passAll clX9 (sm_0 hG) wM_X9_286 rfl rfl ⟨by decide, by decide⟩ (Nat.le_of_ble_eq_true rfl) dX9_image_27 ?_
    refine V.aload_n (pc := 30) C 0 rfl dX9_image_30 ?_
    refine V.getR (pc := 31) C clX9 inX9 (sm_0 hG) 30 (by decide) wF_X9_59 rfl dX9_image_31 ?_
    refine V.iload_n (pc := 34) C 1 rfl dX9_image_34 ?_
    refine V.iconst (pc := 35) C (nI 1) (by decide) dX9_image_35 ?_
    obtain ⟨g4, hf⟩ := gd_some hf
    refine V.zast (pc := 36) C (sm_17 hG) (Or.inr rfl) (inb_in g4) dX9_image_36 ?_
    refine V.iconst (pc := 37) C (nI 1) (by decide) dX9_image_37 ?_
    exact V.retI (pc := 38) C hf dX9_image_38
theorem dX9_restore_0 : decode cX9_restore 0 = .ok (.iload_n 1, 1) := by decide +kernel
theorem dX9_restore_1 : decode cX9_restore 1 = .ok (.i2l, 1) := by decide +kernel
theorem dX9_restore_2 : decode cX9_restore 2 = .ok (.lconst 0, 1) := by decide +kernel
theorem dX9_restore_3 : decode cX9_restore 3 = .ok (.lconst 1, 1) := by decide +kernel
theorem dX9_restore_4 : decode cX9_restore 4 = .ok (.invokestatic 69, 3) := by decide +kernel
theorem dX9_restore_7 : decode cX9_restore 7 = .ok (.ifCond .ne 6, 3) := by decide +kernel
theorem dX9_restore_10 : decode cX9_restore 10 = .ok (.bipush (-2), 2) := by decide +kernel
theorem dX9_restore_12 : decode cX9_restore 12 = .ok (.ireturn, 1) := by decide +kernel
theorem dX9_restore_13 : decode cX9_restore 13 = .ok (.aload_n 0, 1) := by decide +kernel
theorem dX9_restore_14 : decode cX9_restore 14 = .ok (.getfield 59, 3) := by decide +kernel
theorem dX9_restore_17 : decode cX9_restore 17 = .ok (.iload_n 1, 1) := by decide +kernel
theorem dX9_restore_18 : decode cX9_restore 18 = .ok (.baload, 1) := by decide +kernel
theorem dX9_restore_19 : decode cX9_restore 19 = .ok (.ifCond .ne 6, 3) := by decide +kernel
theorem dX9_restore_22 : decode cX9_restore 22 = .ok (.bipush (-3), 2) := by decide +kernel
theorem dX9_restore_24 : decode cX9_restore 24 = .ok (.ireturn, 1) := by decide +kernel
theorem dX9_restore_25 : decode cX9_restore 25 = .ok (.aload_n 0, 1) := by decide +kernel
theorem dX9_restore_26 : decode cX9_restore 26 = .ok (.bipush 70, 2) := by decide +kernel
theorem dX9_restore_28 : decode cX9_restore 28 = .ok (.iload_n 1, 1) := by decide +kernel
theorem dX9_restore_29 : decode cX9_restore 29 = .ok (.imul, 1) := by decide +kernel
theorem dX9_restore_30 : decode cX9_restore 30 = .ok (.putfield 280, 3) := by decide +kernel
theorem dX9_restore_33 : decode cX9_restore 33 = .ok (.aload_n 0, 1) := by decide +kernel
theorem dX9_restore_34 : decode cX9_restore 34 = .ok (.iconst 0, 1) := by decide +kernel
theorem dX9_restore_35 : decode cX9_restore 35 = .ok (.putfield 276, 3) := by decide +kernel
theorem dX9_restore_38 : decode cX9_restore 38 = .ok (.aload_n 0, 1) := by decide +kernel
theorem dX9_restore_39 : decode cX9_restore 39 = .ok (.invokevirtual 286, 3) := by decide +kernel
theorem dX9_restore_42 : decode cX9_restore 42 = .ok (.iconst 1, 1) := by decide +kernel
theorem dX9_restore_43 : decode cX9_restore 43 = .ok (.ireturn, 1) := by decide +kernel
abbrev cxX9_restore (G : Rg) (X : Ct) : Prop := Cx G X cX9_restore 2 RX9 (some .int) 2 43 (Cond.code yX9_restore cX9_restore 2 (some .int))
def fX9_restore (x1 : Int32) (M : Mm) : Option (Int32 × Mm) :=
bd (fX9_in x1.toInt64 (lN 0) (lN 1) M) fun r1 M1 =>
if r1 = (nI 0) then
(some ((mI 2), M1))
else
(gd (inb x1 2) (
if (M1.1 17 x1.toNatClampNeg) = (nI 0) then
(some ((mI 3), M1))
else
(bd (fX9_passAll (sI (sI M1 0 31 ((nI 70) * x1)) 0 32 (nI 0))) fun _ M5 =>
some ((nI 1), M5))))
set_option maxHeartbeats 4000000 in
set_option maxRecDepth 100000 in
theorem mX9_restore (l : Launch) {G : Rg} (hG : gS G = shM) {x1 : Int32}  {M Mf : Mm} {r : Int32} (hf : fX9_restore x1 M = some (r, Mf)) : Mt l G yX9_restore cX9_restore 2 (some .int) 2 43 [.ref (gA G 0), .int x1] M (some (.int r)) Mf := by
  refine Mt.of (by decide) (Nat.le_of_ble_eq_true rfl) ?_
  intro X C hX
  subst hX
  have C : cxX9_restore G X := C
  show V G X 2 (some (.int r)) Mf 0 [(0, .ref (gA G 0)), (1, .int x1)] [] M
  rw [fX9_restore] at hf
  refine V.iload_n (pc := 0) C 1 rfl dX9_restore_0 ?_
  refine V.i2l (pc := 1) C dX9_restore_1 ?_
  refine V.lconst (pc := 2) C (lN 0) (by decide) dX9_restore_2 ?_
  refine V.lconst (pc := 3) C (lN 1) (by decide) dX9_restore_3 ?_
  obtain ⟨r1, M1, h1, hf⟩ := bd_some hf
  refine V.callSi (pc := 4) (As := [.long x1.toInt64, .long (lN 0), .long (lN 1)]) (rest := []) C (mX9_in X.2.1 hG  h1) mf_X9_in wM_X9_69 rfl rfl ⟨by decide, by decide⟩ (Nat.le_of_ble_eq_true rfl) dX9_restore_4 ?_
  rcases it_some hf with ⟨h2, hf⟩ | ⟨h2, hf⟩
  · refine V.if_neF (pc := 7) C 13 h2 (by decide) dX9_restore_7 ?_
    refine V.bipush (pc := 10) C (mI 2) (by decide) dX9_restore_10 ?_
    exact V.retI (pc := 12) C hf dX9_restore_12
  · refine V.if_neT (pc := 7) C 13 h2 (by decide) dX9_restore_7 ?_
    refine V.aload_n (pc := 13) C 0 rfl dX9_restore_13 ?_
    refine V.getR (pc := 14) C clX9 inX9 (sm_0 hG) 30 (by decide) wF_X9_59 rfl dX9_restore_14 ?_
    refine V.iload_n (pc := 17) C 1 rfl dX9_restore_17 ?_
    obtain ⟨g3, hf⟩ := gd_some hf
    refine V.zald (pc := 18) C (sm_17 hG) (inb_in g3) dX9_restore_18 ?_
    rcases it_some hf with ⟨h4, hf⟩ | ⟨h4, hf⟩
    · refine V.if_neF (pc := 19) C 25 h4 (by decide) dX9_restore_19 ?_
      refine V.bipush (pc := 22) C (mI 3) (by decide) dX9_restore_22 ?_
      exact V.retI (pc := 24) C hf dX9_restore_24
    · refine V.if_neT (pc := 19) C 25 h4 (by decide) dX9_restore_19 ?_
      refine V.aload_n (pc := 25) C 0 rfl dX9_restore_25 ?_
      refine V.bipush (pc := 26) C (nI 70) (by decide) dX9_restore_26 ?_
      refine V.iload_n (pc := 28) C 1 rfl dX9_restore_28 ?_
      refine V.imul (pc := 29) C dX9_restore_29 ?_
      refine V.putI (pc := 30) C clX9 inX9 (sm_0 hG) 31 (by decide) wF_X9_280 tyX9 tyX9_ok nmX9 rfl (tyX9_ok 31 (by decide)) rfl dX9_restore_30 ?_
      refine V.aload_n (pc := 33) C 0 rfl dX9_restore_33 ?_
      refine V.iconst (pc := 34) C (nI 0) (by decide) dX9_restore_34 ?_
      refine V.putZ (pc := 35) C clX9 inX9 (sm_0 hG) 32 (by decide) wF_X9_276 tyX9 tyX9_ok nmX9 rfl (tyX9_ok 32 (by decide)) (Or.inl rfl) rfl dX9_restore_35 ?_
      refine V.aload_n (pc := 38) C 0 rfl dX9_restore_38 ?_
      obtain ⟨_, M5, h5, hf⟩ := bd_some hf
      refine V.callVv (pc := 39) (As := []) (rest := []) C (mX9_passAll X.2.1 hG  h5) mf_X9_passAll clX9 (sm_0 hG) wM_X9_286 rfl rfl ⟨by decide, by decide⟩ (Nat.le_of_ble_eq_true rfl) dX9_restore_39 ?_
      refine V.iconst (pc := 42) C (nI 1) (by decide) dX9_restore_42 ?_
      exact V.retI (pc := 43) C hf dX9_restore_43
theorem dX9_told_0 : decode cX9_told 0 = .ok (.iload_n 1, 1) := by decide +kernel
theorem dX9_told_1 : decode cX9_told 1 = .ok (.i2l, 1) := by decide +kernel
theorem dX9_told_2 : decode cX9_told 2 = .ok (.ldc2_w 289, 3) := by decide +kernel
theorem dX9_told_5 : decode cX9_told 5 = .ok (.ldc2_w 291, 3) := by decide +kernel
theorem dX9_told_8 : decode cX9_told 8 = .ok (.invokestatic 69, 3) := by decide +kernel
theorem dX9_told_11 : decode cX9_told 11 = .ok (.ifCond .eq 29, 3) := by decide +kernel
theorem dX9_told_14 : decode cX9_told 14 = .ok (.aload_n 0, 1) := by decide +kernel
theorem dX9_told_15 : decode cX9_told 15 = .ok (.iload_n 1, 1) := by decide +kernel
theorem dX9_told_16 : decode cX9_told 16 = .ok (.bipush 40, 2) := by decide +kernel
theorem dX9_told_18 : decode cX9_told 18 = .ok (.isub, 1) := by decide +kernel
theorem dX9_told_19 : decode cX9_told 19 = .ok (.invokevirtual 86, 3) := by decide +kernel
theorem dX9_told_22 : decode cX9_told 22 = .ok (.ifCond .eq 15, 3) := by decide +kernel
theorem dX9_told_25 : decode cX9_told 25 = .ok (.aload_n 0, 1) := by decide +kernel
theorem dX9_told_26 : decode cX9_told 26 = .ok (.getfield 13, 3) := by decide +kernel
theorem dX9_told_29 : decode cX9_told 29 = .ok (.iload_n 1, 1) := by decide +kernel
theorem dX9_told_30 : decode cX9_told 30 = .ok (.bipush 40, 2) := by decide +kernel
theorem dX9_told_32 : decode cX9_told 32 = .ok (.isub, 1) := by decide +kernel
theorem dX9_told_33 : decode cX9_told 33 = .ok (.iaload, 1) := by decide +kernel
theorem dX9_told_34 : decode cX9_told 34 = .ok (.goto 5, 3) := by decide +kernel
theorem dX9_told_37 : decode cX9_told 37 = .ok (.bipush (-2), 2) := by decide +kernel
theorem dX9_told_39 : decode cX9_told 39 = .ok (.ireturn, 1) := by decide +kernel
theorem dX9_told_40 : decode cX9_told 40 = .ok (.iload_n 1, 1) := by decide +kernel
theorem dX9_told_41 : decode cX9_told 41 = .ok (.i2l, 1) := by decide +kernel
theorem dX9_told_42 : decode cX9_told 42 = .ok (.ldc2_w 293, 3) := by decide +kernel
theorem dX9_told_45 : decode cX9_told 45 = .ok (.ldc2_w 295, 3) := by decide +kernel
theorem dX9_told_48 : decode cX9_told 48 = .ok (.invokestatic 69, 3) := by decide +kernel
theorem dX9_told_51 : decode cX9_told 51 = .ok (.ifCond .eq 29, 3) := by decide +kernel
theorem dX9_told_54 : decode cX9_told 54 = .ok (.aload_n 0, 1) := by decide +kernel
theorem dX9_told_55 : decode cX9_told 55 = .ok (.iload_n 1, 1) := by decide +kernel
theorem dX9_told_56 : decode cX9_told 56 = .ok (.bipush 20, 2) := by decide +kernel
theorem dX9_told_58 : decode cX9_told 58 = .ok (.isub, 1) := by decide +kernel
theorem dX9_told_59 : decode cX9_told 59 = .ok (.invokevirtual 86, 3) := by decide +kernel
theorem dX9_told_62 : decode cX9_told 62 = .ok (.ifCond .eq 15, 3) := by decide +kernel
theorem dX9_told_65 : decode cX9_told 65 = .ok (.aload_n 0, 1) := by decide +kernel
theorem dX9_told_66 : decode cX9_told 66 = .ok (.getfield 7, 3) := by decide +kernel
theorem dX9_told_69 : decode cX9_told 69 = .ok (.iload_n 1, 1) := by decide +kernel
theorem dX9_told_70 : decode cX9_told 70 = .ok (.bipush 20, 2) := by decide +kernel
theorem dX9_told_72 : decode cX9_told 72 = .ok (.isub, 1) := by decide +kernel
theorem dX9_told_73 : decode cX9_told 73 = .ok (.iaload, 1) := by decide +kernel
theorem dX9_told_74 : decode cX9_told 74 = .ok (.goto 5, 3) := by decide +kernel
theorem dX9_told_77 : decode cX9_told 77 = .ok (.bipush (-2), 2) := by decide +kernel
theorem dX9_told_79 : decode cX9_told 79 = .ok (.ireturn, 1) := by decide +kernel
theorem dX9_told_80 : decode cX9_told 80 = .ok (.iload_n 1, 1) := by decide +kernel
theorem dX9_told_81 : decode cX9_told 81 = .ok (.i2l, 1) := by decide +kernel
theorem dX9_told_82 : decode cX9_told 82 = .ok (.ldc2_w 255, 3) := by decide +kernel
theorem dX9_told_85 : decode cX9_told 85 = .ok (.ldc2_w 297, 3) := by decide +kernel
theorem dX9_told_88 : decode cX9_told 88 = .ok (.invokestatic 69, 3) := by decide +kernel
theorem dX9_told_91 : decode cX9_told 91 = .ok (.ifCond .eq 13, 3) := by decide +kernel
theorem dX9_told_94 : decode cX9_told 94 = .ok (.aload_n 0, 1) := by decide +kernel
theorem dX9_told_95 : decode cX9_told 95 = .ok (.getfield 16, 3) := by decide +kernel
theorem dX9_told_98 : decode cX9_told 98 = .ok (.iload_n 1, 1) := by decide +kernel
theorem dX9_told_99 : decode cX9_told 99 = .ok (.bipush 10, 2) := by decide +kernel
theorem dX9_told_101 : decode cX9_told 101 = .ok (.isub, 1) := by decide +kernel
theorem dX9_told_102 : decode cX9_told 102 = .ok (.iaload, 1) := by decide +kernel
theorem dX9_told_103 : decode cX9_told 103 = .ok (.ireturn, 1) := by decide +kernel
theorem dX9_told_104 : decode cX9_told 104 = .ok (.iload_n 1, 1) := by decide +kernel
theorem dX9_told_105 : decode cX9_told 105 = .ok (.ifCond .ne 10, 3) := by decide +kernel
theorem dX9_told_108 : decode cX9_told 108 = .ok (.aload_n 0, 1) := by decide +kernel
theorem dX9_told_109 : decode cX9_told 109 = .ok (.getfield 97, 3) := by decide +kernel
theorem dX9_told_112 : decode cX9_told 112 = .ok (.goto 41, 3) := by decide +kernel
theorem dX9_told_115 : decode cX9_told 115 = .ok (.iload_n 1, 1) := by decide +kernel
theorem dX9_told_116 : decode cX9_told 116 = .ok (.iconst 1, 1) := by decide +kernel
theorem dX9_told_117 : decode cX9_told 117 = .ok (.if_icmp .ne 10, 3) := by decide +kernel
theorem dX9_told_120 : decode cX9_told 120 = .ok (.aload_n 0, 1) := by decide +kernel
theorem dX9_told_121 : decode cX9_told 121 = .ok (.getfield 73, 3) := by decide +kernel
theorem dX9_told_124 : decode cX9_told 124 = .ok (.goto 29, 3) := by decide +kernel
theorem dX9_told_127 : decode cX9_told 127 = .ok (.iload_n 1, 1) := by decide +kernel
theorem dX9_told_128 : decode cX9_told 128 = .ok (.iconst 2, 1) := by decide +kernel
theorem dX9_told_129 : decode cX9_told 129 = .ok (.if_icmp .ne 10, 3) := by decide +kernel
theorem dX9_told_132 : decode cX9_told 132 = .ok (.aload_n 0, 1) := by decide +kernel
theorem dX9_told_133 : decode cX9_told 133 = .ok (.getfield 63, 3) := by decide +kernel
theorem dX9_told_136 : decode cX9_told 136 = .ok (.goto 17, 3) := by decide +kernel
theorem dX9_told_139 : decode cX9_told 139 = .ok (.iload_n 1, 1) := by decide +kernel
theorem dX9_told_140 : decode cX9_told 140 = .ok (.iconst 3, 1) := by decide +kernel
theorem dX9_told_141 : decode cX9_told 141 = .ok (.if_icmp .ne 10, 3) := by decide +kernel
theorem dX9_told_144 : decode cX9_told 144 = .ok (.aload_n 0, 1) := by decide +kernel
theorem dX9_told_145 : decode cX9_told 145 = .ok (.getfield 233, 3) := by decide +kernel
theorem dX9_told_148 : decode cX9_told 148 = .ok (.goto 5, 3) := by decide +kernel
theorem dX9_told_151 : decode cX9_told 151 = .ok (.bipush (-2), 2) := by decide +kernel
theorem dX9_told_153 : decode cX9_told 153 = .ok (.ireturn, 1) := by decide +kernel
abbrev cxX9_told (G : Rg) (X : Ct) : Prop := Cx G X cX9_told 2 RX9 (some .int) 2 46 (Cond.code yX9_told cX9_told 2 (some .int))
def fX9_told (x1 : Int32) (M : Mm) : Option (Int32 × Mm) :=
bd (fX9_in x1.toInt64 (lN 40) (lN 51) M) fun r1 M1 =>
if r1 = (nI 0) then
(bd (fX9_in x1.toInt64 (lN 20) (lN 31) M1) fun r3 M3 =>
if r3 = (nI 0) then
(bd (fX9_in x1.toInt64 (lN 10) (lN 15) M3) fun r5 M5 =>
if r5 = (nI 0) then
(if x1 = (nI 0) then
(some ((M5.1 0 10), M5))
else
(if x1 = (nI 1) then
(some ((M5.1 0 0), M5))
else
(if x1 = (nI 2) then
(some ((M5.1 0 1), M5))
else
(if x1 = (nI 3) then
(some ((M5.1 0 8), M5))
else
(some ((mI 2), M5))))))
else
(gd (inb (x1 - (nI 10)) 6) (
some ((M5.1 3 (x1 - (nI 10)).toNatClampNeg), M5))))
else
(bd (fX9_isOfficer (x1 - (nI 20)) M3) fun r12 M12 =>
if r12 = (nI 0) then
(some ((mI 2), M12))
else
(gd (inb (x1 - (nI 20)) 12) (
some ((M12.1 1 (x1 - (nI 20)).toNatClampNeg), M12)))))
else
(bd (fX9_isOfficer (x1 - (nI 40)) M1) fun r15 M15 =>
if r15 = (nI 0) then
(some ((mI 2), M15))
else
(gd (inb (x1 - (nI 40)) 12) (
some ((M15.1 2 (x1 - (nI 40)).toNatClampNeg), M15))))
set_option maxHeartbeats 4000000 in
set_option maxRecDepth 100000 in
theorem mX9_told (l : Launch) {G : Rg} (hG : gS G = shM) {x1 : Int32}  {M Mf : Mm} {r : Int32} (hf : fX9_told x1 M = some (r, Mf)) : Mt l G yX9_told cX9_told 2 (some .int) 2 46 [.ref (gA G 0), .int x1] M (some (.int r)) Mf := by
  refine Mt.of (by decide) (Nat.le_of_ble_eq_true rfl) ?_
  intro X C hX
  subst hX
  have C : cxX9_told G X := C
  show V G X 2 (some (.int r)) Mf 0 [(0, .ref (gA G 0)), (1, .int x1)] [] M
  rw [fX9_told] at hf
  refine V.iload_n (pc := 0) C 1 rfl dX9_told_0 ?_
  refine V.i2l (pc := 1) C dX9_told_1 ?_
  refine V.ldc2 (pc := 2) C wL_X9_289 dX9_told_2 ?_
  refine V.ldc2 (pc := 5) C wL_X9_291 dX9_told_5 ?_
  obtain ⟨r1, M1, h1, hf⟩ := bd_some hf
  refine V.callSi (pc := 8) (As := [.long x1.toInt64, .long (lN 40), .long (lN 51)]) (rest := []) C (mX9_in X.2.1 hG  h1) mf_X9_in wM_X9_69 rfl rfl ⟨by decide, by decide⟩ (Nat.le_of_ble_eq_true rfl) dX9_told_8 ?_
  rcases it_some hf with ⟨h2, hf⟩ | ⟨h2, hf⟩
  · refine V.if_eqT (pc := 11) C 40 h2 (by decide) dX9_told_11 ?_
    refine V.iload_n (pc := 40) C 1 rfl dX9_told_40 ?_
    refine V.i2l (pc := 41) C dX9_told_41 ?_
    refine V.ldc2 (pc := 42) C wL_X9_293 dX9_told_42 ?_
    refine V.ldc2 (pc := 45) C wL_X9_295 dX9_told_45 ?_
    obtain ⟨r3, M3, h3, hf⟩ := bd_some hf
    refine V.callSi (pc := 48) (As := [.long x1.toInt64, .long (lN 20), .long (lN 31)]) (rest := []) C (mX9_in X.2.1 hG  h3) mf_X9_in wM_X9_69 rfl rfl ⟨by decide, by decide⟩ (Nat.le_of_ble_eq_true rfl) dX9_told_48 ?_
    rcases it_some hf with ⟨h4, hf⟩ | ⟨h4, hf⟩
    · refine V.if_eqT (pc := 51) C 80 h4 (by decide) dX9_told_51 ?_
      refine V.iload_n (pc := 80) C 1 rfl dX9_told_80 ?_
      refine V.i2l (pc := 81) C dX9_told_81 ?_
      refine V.ldc2 (pc := 82) C wL_X9_255 dX9_told_82 ?_
      refine V.ldc2 (pc := 85) C wL_X9_297 dX9_told_85 ?_
      obtain ⟨r5, M5, h5, hf⟩ := bd_some hf
      refine V.callSi (pc := 88) (As := [.long x1.toInt64, .long (lN 10), .long (lN 15)]) (rest := []) C (mX9_in X.2.1 hG  h5) mf_X9_in wM_X9_69 rfl rfl ⟨by decide, by decide⟩ (Nat.le_of_ble_eq_true rfl) dX9_told_88 ?_
      rcases it_some hf with ⟨h6, hf⟩ | ⟨h6, hf⟩
      · refine V.if_eqT (pc := 91) C 104 h6 (by decide) dX9_told_91 ?_
        refine V.iload_n (pc := 104) C 1 rfl dX9_told_104 ?_
        rcases it_some hf with ⟨h7, hf⟩ | ⟨h7, hf⟩
        · refine V.if_neF (pc := 105) C 115 h7 (by decide) dX9_told_105 ?_
          refine V.aload_n (pc := 108) C 0 rfl dX9_told_108 ?_
          refine V.getI (pc := 109) C clX9 inX9 (sm_0 hG) 10 (by decide) wF_X9_97 rfl dX9_told_109 ?_
          refine V.goto (pc := 112) C 153 (by decide) dX9_told_112 ?_
          exact V.retI (pc := 153) C hf dX9_told_153
        · refine V.if_neT (pc := 105) C 115 h7 (by decide) dX9_told_105 ?_
          refine V.iload_n (pc := 115) C 1 rfl dX9_told_115 ?_
          refine V.iconst (pc := 116) C (nI 1) (by decide) dX9_told_116 ?_
          rcases it_some hf with ⟨h8, hf⟩ | ⟨h8, hf⟩
          · refine V.ic_neF (pc := 117) C 127 h8 (by decide) dX9_told_117 ?_
            refine V.aload_n (pc := 120) C 0 rfl dX9_told_120 ?_
            refine V.getI (pc := 121) C clX9 inX9 (sm_0 hG) 0 (by decide) wF_X9_73 rfl dX9_told_121 ?_
            refine V.goto (pc := 124) C 153 (by decide) dX9_told_124 ?_
            exact V.retI (pc := 153) C hf dX9_told_153
          · refine V.ic_neT (pc := 117) C 127 h8 (by decide) dX9_told_117 ?_
            refine V.iload_n (pc := 127) C 1 rfl dX9_told_127 ?_
            refine V.iconst (pc := 128) C (nI 2) (by decide) dX9_told_128 ?_
            rcases it_some hf with ⟨h9, hf⟩ | ⟨h9, hf⟩
            · refine V.ic_neF (pc := 129) C 139 h9 (by decide) dX9_told_129 ?_
              refine V.aload_n (pc := 132) C 0 rfl dX9_told_132 ?_
              refine V.getI (pc := 133) C clX9 inX9 (sm_0 hG) 1 (by decide) wF_X9_63 rfl dX9_told_133 ?_
              refine V.goto (pc := 136) C 153 (by decide) dX9_told_136 ?_
              exact V.retI (pc := 153) C hf dX9_told_153
            · refine V.ic_neT (pc := 129) C 139 h9 (by decide) dX9_told_129 ?_
              refine V.iload_n (pc := 139) C 1 rfl dX9_told_139 ?_
              refine V.iconst (pc := 140) C (nI 3) (by decide) dX9_told_140 ?_
              rcases it_some hf with ⟨h10, hf⟩ | ⟨h10, hf⟩
              · refine V.ic_neF (pc := 141) C 151 h10 (by decide) dX9_told_141 ?_
                refine V.aload_n (pc := 144) C 0 rfl dX9_told_144 ?_
                refine V.getI (pc := 145) C clX9 inX9 (sm_0 hG) 8 (by decide) wF_X9_233 rfl dX9_told_145 ?_
                refine V.goto (pc := 148) C 153 (by decide) dX9_told_148 ?_
                exact V.retI (pc := 153) C hf dX9_told_153
              · refine V.ic_neT (pc := 141) C 151 h10 (by decide) dX9_told_141 ?_
                refine V.bipush (pc := 151) C (mI 2) (by decide) dX9_told_151 ?_
                exact V.retI (pc := 153) C hf dX9_told_153
      · refine V.if_eqF (pc := 91) C 104 h6 (by decide) dX9_told_91 ?_
        refine V.aload_n (pc := 94) C 0 rfl dX9_told_94 ?_
        refine V.getR (pc := 95) C clX9 inX9 (sm_0 hG) 4 (by decide) wF_X9_16 rfl dX9_told_95 ?_
        refine V.iload_n (pc := 98) C 1 rfl dX9_told_98 ?_
        refine V.bipush (pc := 99) C (nI 10) (by decide) dX9_told_99 ?_
        refine V.isub (pc := 101) C dX9_told_101 ?_
        obtain ⟨g11, hf⟩ := gd_some hf
        refine V.iald (pc := 102) C (sm_3 hG) (inb_in g11) dX9_told_102 ?_
        exact V.retI (pc := 103) C hf dX9_told_103
    · refine V.if_eqF (pc := 51) C 80 h4 (by decide) dX9_told_51 ?_
      refine V.aload_n (pc := 54) C 0 rfl dX9_told_54 ?_
      refine V.iload_n (pc := 55) C 1 rfl dX9_told_55 ?_
      refine V.bipush (pc := 56) C (nI 20) (by decide) dX9_told_56 ?_
      refine V.isub (pc := 58) C dX9_told_58 ?_
      obtain ⟨r12, M12, h12, hf⟩ := bd_some hf
      refine V.callVi (pc := 59) (As := [.int (x1 - (nI 20))]) (rest := []) C (mX9_isOfficer X.2.1 hG  h12) mf_X9_isOfficer clX9 (sm_0 hG) wM_X9_86 rfl rfl ⟨by decide, by decide⟩ (Nat.le_of_ble_eq_true rfl) dX9_told_59 ?_
      rcases it_some hf with ⟨h13, hf⟩ | ⟨h13, hf⟩
      · refine V.if_eqT (pc := 62) C 77 h13 (by decide) dX9_told_62 ?_
        refine V.bipush (pc := 77) C (mI 2) (by decide) dX9_told_77 ?_
        exact V.retI (pc := 79) C hf dX9_told_79
      · refine V.if_eqF (pc := 62) C 77 h13 (by decide) dX9_told_62 ?_
        refine V.aload_n (pc := 65) C 0 rfl dX9_told_65 ?_
        refine V.getR (pc := 66) C clX9 inX9 (sm_0 hG) 2 (by decide) wF_X9_7 rfl dX9_told_66 ?_
        refine V.iload_n (pc := 69) C 1 rfl dX9_told_69 ?_
        refine V.bipush (pc := 70) C (nI 20) (by decide) dX9_told_70 ?_
        refine V.isub (pc := 72) C dX9_told_72 ?_
        obtain ⟨g14, hf⟩ := gd_some hf
        refine V.iald (pc := 73) C (sm_1 hG) (inb_in g14) dX9_told_73 ?_
        refine V.goto (pc := 74) C 79 (by decide) dX9_told_74 ?_
        exact V.retI (pc := 79) C hf dX9_told_79
  · refine V.if_eqF (pc := 11) C 40 h2 (by decide) dX9_told_11 ?_
    refine V.aload_n (pc := 14) C 0 rfl dX9_told_14 ?_
    refine V.iload_n (pc := 15) C 1 rfl dX9_told_15 ?_
    refine V.bipush (pc := 16) C (nI 40) (by decide) dX9_told_16 ?_
    refine V.isub (pc := 18) C dX9_told_18 ?_
    obtain ⟨r15, M15, h15, hf⟩ := bd_some hf
    refine V.callVi (pc := 19) (As := [.int (x1 - (nI 40))]) (rest := []) C (mX9_isOfficer X.2.1 hG  h15) mf_X9_isOfficer clX9 (sm_0 hG) wM_X9_86 rfl rfl ⟨by decide, by decide⟩ (Nat.le_of_ble_eq_true rfl) dX9_told_19 ?_
    rcases it_some hf with ⟨h16, hf⟩ | ⟨h16, hf⟩
    · refine V.if_eqT (pc := 22) C 37 h16 (by decide) dX9_told_22 ?_
      refine V.bipush (pc := 37) C (mI 2) (by decide) dX9_told_37 ?_
      exact V.retI (pc := 39) C hf dX9_told_39
    · refine V.if_eqF (pc := 22) C 37 h16 (by decide) dX9_told_22 ?_
      refine V.aload_n (pc := 25) C 0 rfl dX9_told_25 ?_
      refine V.getR (pc := 26) C clX9 inX9 (sm_0 hG) 3 (by decide) wF_X9_13 rfl dX9_told_26 ?_
      refine V.iload_n (pc := 29) C 1 rfl dX9_told_29 ?_
      refine V.bipush (pc := 30) C (nI 40) (by decide) dX9_told_30 ?_
      refine V.isub (pc := 32) C dX9_told_32 ?_
      obtain ⟨g17, hf⟩ := gd_some hf
      refine V.iald (pc := 33) C (sm_2 hG) (inb_in g17) dX9_told_33 ?_
      refine V.goto (pc := 34) C 39 (by decide) dX9_told_34 ?_
      exact V.retI (pc := 39) C hf dX9_told_39
