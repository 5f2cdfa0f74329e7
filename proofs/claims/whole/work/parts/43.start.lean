theorem wS_ao : Cond.arrayOver (.object RX0) ∈ lw_tbl := List.mem_of_getElem? (i := 293) (by decide +kernel)
theorem wS_c8 : Cond.classLink RL 7 RX8 ∈ lw_tbl := List.mem_of_getElem? (i := 68) (by decide +kernel)
theorem wS_c9 : Cond.classLink RL 10 RX9 ∈ lw_tbl := List.mem_of_getElem? (i := 729) (by decide +kernel)
theorem wS_d8 : Cond.code yX8_init cX8_init 1 none ∈ lw_tbl := List.mem_of_getElem? (i := 72) (by decide +kernel)
theorem wS_d9 : Cond.code yX9_init cX9_init 1 none ∈ lw_tbl := List.mem_of_getElem? (i := 733) (by decide +kernel)
theorem wS_e8 : Cond.instanceMethod yX8_init ∈ lw_tbl := List.mem_of_getElem? (i := 71) (by decide +kernel)
theorem wS_e9 : Cond.instanceMethod yX9_init ∈ lw_tbl := List.mem_of_getElem? (i := 732) (by decide +kernel)
theorem wS_ls : Cond.laysStatic RX2 "LACKING" "[J" ∈ lw_tbl := List.mem_of_getElem? (i := 568) (by decide +kernel)
theorem wS_m8 : Cond.methodLink RL 9 yX8_init ∈ lw_tbl := List.mem_of_getElem? (i := 70) (by decide +kernel)
theorem wS_m9 : Cond.methodLink RL 12 yX9_init ∈ lw_tbl := List.mem_of_getElem? (i := 731) (by decide +kernel)
theorem wS_n8 : Cond.instantiable RX8 10 ∈ lw_tbl := List.mem_of_getElem? (i := 69) (by decide +kernel)
theorem wS_n9 : Cond.instantiable RX9 33 ∈ lw_tbl := List.mem_of_getElem? (i := 730) (by decide +kernel)
theorem wS_nst : Cond.methodLinkNest RX4 30 yX8_isWithin RX8 ∈ lw_tbl := List.mem_of_getElem? (i := 385) (by decide +kernel)
theorem wS_t2 : Cond.initialized RX2 ∈ lw_tbl := List.mem_of_getElem? (i := 58) (by decide +kernel)
theorem wS_t8 : Cond.initialized RX8 ∈ lw_tbl := List.mem_of_getElem? (i := 54) (by decide +kernel)
theorem wS_t9 : Cond.initialized RX9 ∈ lw_tbl := List.mem_of_getElem? (i := 63) (by decide +kernel)
def Mz : Mm := (fun _ _ => 0, fun _ _ => 0)
theorem Mz_Z (n : Nat) : Z0 Mz n := fun _ _ => ⟨rfl, rfl⟩
def Mx0 : Mm := (sI (sI (sI (sI (sI (sI (sI (sI (sI (sI (sI (sI (sI (sI (sI (sI (sI (sI (sI (sI (sI (sI (sI (sI (sI (sI (sI (sI (sI (sI (sI (sI (sI (sI (sI Mz 1 1 (nI 5)) 4 (nI 0).toNatClampNeg (nI 1)) 4 (nI 1).toNatClampNeg (nI 2)) 4 (nI 2).toNatClampNeg (nI 4)) 4 (nI 3).toNatClampNeg (nI 8)) 4 (nI 4).toNatClampNeg (nI 20)) 4 (nI 5).toNatClampNeg (nI 60)) 9 1 (nI 5)) 12 (nI 0).toNatClampNeg (nI 1)) 12 (nI 1).toNatClampNeg (nI 2)) 12 (nI 2).toNatClampNeg (nI 4)) 12 (nI 3).toNatClampNeg (nI 8)) 12 (nI 4).toNatClampNeg (nI 20)) 12 (nI 5).toNatClampNeg (nI 60)) 28 1 (nI 5)) 31 (nI 0).toNatClampNeg (nI 1)) 31 (nI 1).toNatClampNeg (nI 2)) 31 (nI 2).toNatClampNeg (nI 4)) 31 (nI 3).toNatClampNeg (nI 8)) 31 (nI 4).toNatClampNeg (nI 20)) 31 (nI 5).toNatClampNeg (nI 60)) 34 1 (nI 5)) 37 (nI 0).toNatClampNeg (nI 1)) 37 (nI 1).toNatClampNeg (nI 2)) 37 (nI 2).toNatClampNeg (nI 4)) 37 (nI 3).toNatClampNeg (nI 8)) 37 (nI 4).toNatClampNeg (nI 20)) 37 (nI 5).toNatClampNeg (nI 60)) 39 1 (nI 5)) 42 (nI 0).toNatClampNeg (nI 1)) 42 (nI 1).toNatClampNeg (nI 2)) 42 (nI 2).toNatClampNeg (nI 4)) 42 (nI 3).toNatClampNeg (nI 8)) 42 (nI 4).toNatClampNeg (nI 20)) 42 (nI 5).toNatClampNeg (nI 60))
def Mm0 : Mm := (sI (sI (sI (sI (sI (sI (sI Mz 0 1 (nI 5)) 3 (nI 0).toNatClampNeg (nI 1)) 3 (nI 1).toNatClampNeg (nI 2)) 3 (nI 2).toNatClampNeg (nI 4)) 3 (nI 3).toNatClampNeg (nI 8)) 3 (nI 4).toNatClampNeg (nI 20)) 3 (nI 5).toNatClampNeg (nI 60))
theorem Rp_al {D : va_G} {cs : ClassId × ClassId × ClassId × ClassId} {sh : List Sh} {ad : Nat → Nat} {a1 a2 : Nat} {M : Mm} {H : Heap} (h : Rp (D, cs, sh, ad, a1) M H) : Rp (D, cs, sh, ad, a2) M H := by
  have e : (fun (c : Nat) (x : Sh) => (ad c, en (D, cs, sh, ad, a1) M c x)) = fun c x => (ad c, en (D, cs, sh, ad, a2) M c x) := by
    funext c x
    rfl
  have h' : va_P D vwCl (sh.mapIdx (fun c x => (ad c, en (D, cs, sh, ad, a1) M c x))) H := h
  rw [e] at h'
  exact h'
theorem law_mk {E : Ev} {p : Program} {l : Launch} {e : Env} {s : State} {m : MethodId} {args : Array Value} {below : List Frame} {meth : Method} {c : Code} {H : Heap} {locs : List Loc} {ls : Array Slot} {Q : State → Prop} {lv : List (Nat × Value)} {st : List Value} {pc ix ix2 k n : Nat}
    (hx : p.tables.exec = Jvm.exec) (hb : c.code = code) (hml : c.maxLocals = 4) (hown : s.vm.findClass RL = some m.cls) (hts : ∀ w ∈ lw_tbl, w.before args s = true) (hKA : KA E s)
    {ci : Nat} {Cn : String} {T : u_T} {N : Nat} (hcl : vwCl[ci]? = some (Cn, T, N)) (hin : ∀ w ∈ u_ws Cn T N, w ∈ lw_tbl) (ty : Nat → FieldType) (hty : ∀ k, k < N → parseFieldDescriptor (T k).2.2.1 = some (ty k)) (hw1 : Cond.classLink RL ix Cn ∈ lw_tbl) (hw2 : Cond.instantiable Cn N ∈ lw_tbl) (hw3 : Cond.initialized Cn ∈ lw_tbl) {fl : List Fk} (hfl : ∀ j, j < N → defaultValue (ty j) = vp_V (fl.map bl) j) (hpr : fl.all isP = true)
    {y : MethodName} {cy : ByteArray} {ny fy ly mc1 ms1 : Nat} {shf : List Sh} {Mf : Mm} (hM : MtA l E y cy ny fy ly 0 [.inr (.inl (ci, fl))] Mz shf Mf mc1 ms1) (hc1 : Cond.code y cy ny none ∈ lw_tbl) (hc2 : Cond.instanceMethod y ∈ lw_tbl) (hc3 : Cond.initialized y.cls ∈ lw_tbl) (hw4 : Cond.methodLink RL ix2 y ∈ lw_tbl) (hy1 : y.name = "<init>") (hyd : y.cls ≠ "java/lang/invoke/MethodHandle" ∧ y.cls ≠ "java/lang/invoke/VarHandle" ∧ (parseMethodDescriptor y.desc).map (fun d => d.parameters.length) = some 0) (hroom : fy + 1 ≤ 10 ∧ 8 + (ny + 11) + ly ≤ 358) (hk : k + 1 + mc1 ≤ 63) (hn : n + N + ms1 ≤ 5502) (h8 : ((Value.ref E.2.2 :: st).map fun v => v.category).sum ≤ 8)
    (d1 : decode code pc = .ok (.new ix, 3)) (d2 : decode code (pc + 3) = .ok (.dup, 1)) (d3 : decode code (pc + 3 + 1) = .ok (.invokespecial ix2, 3)) (hz : H.size = E.2.2) (hE : s.heap.size ≤ E.2.2) (hS : va_S (fun q => s.heap.size ≤ q) s.heap H locs) (hl : lv_has ls 4 lv)
    (kk : ∀ (H1 : Heap) (locs1 : List Loc), H1.size = E.2.2 + shf.length → Rp (gs E shf) Mf H1 → (∀ q, q < H.size → H1[q]? = H[q]?) → va_S (fun q => s.heap.size ≤ q) s.heap H1 locs1 → W p l e room_1 s m args below meth c H1 locs1 (k + 1 + mc1) (n + N + ms1) Q (F0 m (pc + 3 + 1 + 3) ls (.ref (E.2.2 + 0) :: st))) : W p l e room_1 s m args below meth c H locs k n Q (F0 m pc ls st) := by
  have hKn := hKA.1.1 ci _ hcl
  have r1 : room_1.cells = 63 := rfl
  have r2 : room_1.slots = 5502 := rfl
  refine W.newcK hx hb hown (hts _ hw1) (hts _ hw2) (hts _ hw3) rfl d1 (by rw [r1]; omega) (by rw [r2]; omega) hKn.2.1 hz fun H1 kC hkC e1 z1 o1 => ?_
  have hz1 : H1.size = E.2.2 + [(.inr (.inl (ci, fl)) : Sh)].length := z1
  have hP1 : Rp (gs E [.inr (.inl (ci, fl))]) Mz H1 := by
    refine va_P_push (E := E) (sh := []) (M := Mz) (H := H) (fun k q h => by have h' : ([] : va_W)[k]? = some q := h; simp at h') hz o1 ⟨_, hcl, ?_⟩
    have hb1 := u_born ty hts hin hKn hkC e1 hty
    refine hb1.to (fun j hj => ?_)
    rw [hfl j hj, map_bl rfl rfl hpr]
  have hS1 : va_S (fun q => s.heap.size ≤ q) s.heap H1 locs := va_S_push hS hz z1 o1
  refine lv_dup hx hb d2 rfl ?_
  have hG : GoodIn lw_tbl (Cond.code y cy ny none :: bg) := lw_GoodIn hc1 [] (by simp)
  have hrun := va_runI (As := []) (rest := .ref E.2.2 :: st) (b := E.2.2) (g := F0 m (pc + 3 + 1) ls (.ref E.2.2 :: .ref E.2.2 :: st)) (below := below) (meth := meth) (e := e) (H := H1) (locs := locs) (cells := k + 1) (slots := n + N) ⟨hx, hb, hml, hown, hts⟩ hM (cwI (R := room_1) 0 hts hG rfl rfl rfl (hts _ hc3) (hts _ hw4) (hts _ hc2) hy1 hyd hroom) ⟨pA_blind _ _ _ _, fun U hU hW => ⟨rfl, by rw [hU]; exact hz1, by rw [hU]; exact hP1, va_K.moved hW.alike hKA.1, va_AO.moved hW.alike hKA.2⟩⟩ rfl rfl hl.1 rfl (lv_room h8) d3 ⟨by rw [r1]; exact hk, by rw [r2]; exact hn⟩
  intro T hT XX
  obtain ⟨v, st₀, t, T', L, h0, X', hL, e1', e2', ⟨hv, hz2, hP2, hzz, hkk⟩, stp⟩ := hrun T hT XX
  cases hv
  rw [h0] at hzz hkk
  obtain ⟨t2, a1, b1⟩ := kk T'.heap (locs ++ L) (by rw [e1']; exact hz2) (by rw [e1']; exact hP2) (fun q hq => by
      rw [e1', hkk q (by omega) (by show ¬ _ ≤ _; omega)]
      exact o1 q (by omega))
    ⟨Nat.le_trans hS1.1 (by rw [e1']; exact hzz), fun q h1 h2 => by
      rw [e1', hkk q (Nat.lt_of_lt_of_le h1 hS1.1) (by show ¬ _ ≤ _; omega)]; exact hS1.2.1 q h1 h2, fun q hq => by
      rcases List.mem_append.mp hq with h | h
      · exact hS1.2.2 q h
      · exact Nat.le_trans hE (hL q h)⟩ T' rfl X'
  exact ⟨t2, stp t2 a1, b1⟩
set_option maxHeartbeats 4000000 in
set_option maxRecDepth 100000 in
theorem whole_of {Rl : Mm → Mm → Prop} (S : Sim Rl) (hR0 : Rl Mx0 Mm0) {p : Program} {e : Env} {s : State} {m : MethodId} {below : List Frame} {meth : Method} {c : Code} (l : Launch) {b L : Nat} {xs : Nat → Int32} (hL : L ≤ 320) (C0 : lw_At p s m meth c b L xs) : W p l e room_1 s m #[Value.ref b] below meth c s.heap [] 0 0 (lw_Z below #[Value.ref b] s) (entryFrame m ([Value.ref b] : List Value).toArray 4) := by
  obtain ⟨hx, hb, hr, hml, hown, hts, hX, hbl, hlocks, hgv⟩ := C0
  have hown : s.vm.findClass RL = some m.cls := hown
  obtain ⟨c0, i0, k0⟩ := u_known hts inX0 (hts _ wN_X0)
  obtain ⟨c1, i1, k1⟩ := u_known hts inX1 (hts _ wN_X1)
  obtain ⟨c2, i2, k2⟩ := u_known hts inX2 (hts _ wN_X2)
  obtain ⟨c3, i3, k3⟩ := u_known hts inX3 (hts _ wN_X3)
  obtain ⟨c4, i4, k4⟩ := u_known hts inX4 (hts _ wN_X4)
  obtain ⟨c5, i5, k5⟩ := u_known hts inX5 (hts _ wN_X5)
  obtain ⟨c6, i6, k6⟩ := u_known hts inX6 (hts _ wN_X6)
  obtain ⟨c7, i7, k7⟩ := u_known hts inX7 (hts _ wN_X7)
  obtain ⟨c8, i8, k8⟩ := u_known hts inX8 (hts _ wS_n8)
  obtain ⟨c9, i9, k9⟩ := u_known hts inX9 (hts _ wS_n9)
  obtain ⟨cI, kI, mI, a1, a2, a3⟩ := Cond.arrayClass_spec (hts _ wA_int)
  obtain ⟨cJ, kJ, mJ, b1, b2, b3⟩ := Cond.arrayClass_spec (hts _ wA_long)
  obtain ⟨cZ, kZ, mZ, z1, z2, z3⟩ := Cond.arrayClass_spec (hts _ wA_boolean)
  obtain ⟨comp, cB, kB, q1, q2, q3, q4, q5⟩ := Cond.arrayOver_spec (hts _ wS_ao)
  obtain ⟨D, hD⟩ : ∃ D : va_G, D = ((fun k => ([c0, c1, c2, c3, c4, c5, c6, c7, c8, c9] : List Nat).getD k 0), (fun k => ([i0, i1, i2, i3, i4, i5, i6, i7, i8, i9] : List (Nat → Nat)).getD k (fun _ => 0))) := ⟨_, rfl⟩
  have hK1 : ∀ (k : Nat) (q : vw_C), vwCl[k]? = some q → u_Kn s q.1 q.2.1 q.2.2 (D.1 k) (D.2 k) := by
    intro k q hq
    rw [hD]
    match k, hq with
      | 0, hq => cases hq; exact k0
      | 1, hq => cases hq; exact k1
      | 2, hq => cases hq; exact k2
      | 3, hq => cases hq; exact k3
      | 4, hq => cases hq; exact k4
      | 5, hq => cases hq; exact k5
      | 6, hq => cases hq; exact k6
      | 7, hq => cases hq; exact k7
      | 8, hq => cases hq; exact k8
      | 9, hq => cases hq; exact k9
      | k + 10, hq => simp [vwCl] at hq
  obtain ⟨E, hE⟩ : ∃ E : Ev, E = (D, (cI, cJ, cZ, cB), s.heap.size) := ⟨_, rfl⟩
  obtain ⟨E2, hE2⟩ : ∃ E2 : Ev, E2 = (D, (cI, cJ, cZ, cB), s.heap.size + 45) := ⟨_, rfl⟩
  have hK : va_K D vwCl [(cI, .int), (cJ, .long), (cZ, .boolean), (cB, .object RX0)] s := by
    refine ⟨hK1, fun k q hq => ?_⟩
    match k, hq with
      | 0, hq => cases hq; exact ⟨fun n z => ⟨fun k h => (by cases h), kI, a2, mI, a3⟩, a1⟩
      | 1, hq => cases hq; exact ⟨fun n z => ⟨fun k h => (by cases h), kJ, b2, mJ, b3⟩, b1⟩
      | 2, hq => cases hq; exact ⟨fun n z => ⟨fun k h => (by cases h), kZ, z2, mZ, z3⟩, z1⟩
      | 3, hq => cases hq; exact ⟨fun n z => ⟨fun k h => (by cases h), kB, q3, comp, q4⟩, kB, comp, q3, q4, q1, q5⟩
      | k + 4, hq => simp at hq
  have hAO : va_AO RX0 s := va_AO.of (hts _ wS_ao)
  have hKE : KA E s := by rw [hE]; exact ⟨hK, hAO⟩
  have hKE2 : KA E2 s := by rw [hE2]; exact ⟨hK, hAO⟩
  -- the masks
  have hs := flat_of_before _ hgv
  have harr : (Cond.arrayOf (.static "ParoleLedger$Exchanges" "LACKING" "[J") .long).before #[Value.ref b] s = true := hs _ (by decide +kernel)
  have hlen := va_eqt (hs (.eq (.length (.static "ParoleLedger$Exchanges" "LACKING" "[J")) (.int 6)) (by decide +kernel))
  obtain ⟨t, ht, cell, t1, t2, t3, t4, t5, t6, t7⟩ := va_Tof (N := 6) (f := fun j => .long (lkF j)) (A := fun q => s.heap.size ≤ q) (by decide) harr hlen (fun j hj => by
    match j, hj with
      | 0, _ => exact va_eqtl (hs (.eq (.elem (.static "ParoleLedger$Exchanges" "LACKING" "[J") (.int 0)) (.long 6148914691236517205)) (by decide +kernel))
      | 1, _ => exact va_eqtl (hs (.eq (.elem (.static "ParoleLedger$Exchanges" "LACKING" "[J") (.int 1)) (.long 3689348814741910323)) (by decide +kernel))
      | 2, _ => exact va_eqtl (hs (.eq (.elem (.static "ParoleLedger$Exchanges" "LACKING" "[J") (.int 2)) (.long 1085102592571150095)) (by decide +kernel))
      | 3, _ => exact va_eqtl (hs (.eq (.elem (.static "ParoleLedger$Exchanges" "LACKING" "[J") (.int 3)) (.long 71777214294589695)) (by decide +kernel))
      | 4, _ => exact va_eqtl (hs (.eq (.elem (.static "ParoleLedger$Exchanges" "LACKING" "[J") (.int 4)) (.long 281470681808895)) (by decide +kernel))
      | 5, _ => exact va_eqtl (hs (.eq (.elem (.static "ParoleLedger$Exchanges" "LACKING" "[J") (.int 5)) (.long 4294967295)) (by decide +kernel))) (fun a ha => by show ¬ _ ≤ _; omega)
  have htl : t < s.heap.size := (Array.getElem?_eq_some_iff.mp t1).1
  obtain ⟨Gx, hGx⟩ : ∃ G : Rg, G = (D, (cI, cJ, cZ, cB), shX, (fun c => s.heap.size + c), t) := ⟨_, rfl⟩
  obtain ⟨Gm, hGm⟩ : ∃ G : Rg, G = (D, (cI, cJ, cZ, cB), shM, (fun c => s.heap.size + 45 + c), t) := ⟨_, rfl⟩
  have hAx : ∀ q, Ar Gx q → s.heap.size ≤ q ∧ q < s.heap.size + 45 := by
    rw [hGx]
    rintro q ⟨k, hk, rfl⟩
    have hk' : k < 45 := hk
    exact ⟨Nat.le_add_right _ _, by show s.heap.size + k < _; omega⟩
  have hAm : ∀ q, Ar Gm q → s.heap.size + 45 ≤ q := by
    rw [hGm]
    rintro q ⟨k, hk, rfl⟩
    exact Nat.le_add_right _ _
  have hZ : ∀ (A : Nat → Prop), (∀ a : Nat, a < s.heap.size → ¬ A a) → va_Z RX2 "LACKING" "[J" (.ref t) A s s.heap := fun A hA => va_Zof (hts _ wS_ls) (hts _ wS_t2) ht hA
  have hnx : ∀ a : Nat, a < s.heap.size → ¬ Ar Gx a := fun a ha h => by have := (hAx a h).1; omega
  have hnm : ∀ a : Nat, a < s.heap.size → ¬ Ar Gm a := fun a ha h => by have := hAm a h; omega
  have hKx : Kn Gx s s.heap := by
    refine ⟨by rw [hGx]; exact hK, ?_, va_Nw.of rfl (hts _ wS_nst), ?_, ?_, ?_⟩
    · rw [hGx]
      intro i j _ _ h
      have h' : s.heap.size + i = s.heap.size + j := h
      omega
    · have := hZ (Ar Gx) hnx
      rw [show gL Gx = t by rw [hGx]]; exact this
    · rw [show gL Gx = t by rw [hGx]]; exact ⟨cell, t1, t2, t3, t4, t6⟩
    · rw [show gL Gx = t by rw [hGx]]; exact hnx t htl
  have hKm : Kn Gm s s.heap := by
    refine ⟨by rw [hGm]; exact hK, ?_, va_Nw.of rfl (hts _ wS_nst), ?_, ?_, ?_⟩
    · rw [hGm]
      intro i j _ _ h
      have h' : s.heap.size + 45 + i = s.heap.size + 45 + j := h
      omega
    · have := hZ (Ar Gm) hnm
      rw [show gL Gm = t by rw [hGm]]; exact this
    · rw [show gL Gm = t by rw [hGm]]; exact ⟨cell, t1, t2, t3, t4, t6⟩
    · rw [show gL Gm = t by rw [hGm]]; exact hnm t htl
  have hl := lv_entry ([.ref b]) (n := 4) (Nat.le_of_ble_eq_true rfl)
  rw [lg_entry_eq]
  generalize (lg_sl ([.ref b]) ++ List.replicate (4 - (lg_sl ([.ref b])).length) Slot.unset).toArray = ls at hl ⊢
  have hl : lv_has ls 4 [(0, .ref b)] := hl
  have hS : va_S (fun q => s.heap.size ≤ q) s.heap s.heap [] := va_S.rf
  have eE : E.2.2 = s.heap.size := by rw [hE]
  have eE2 : E2.2.2 = s.heap.size + 45 := by rw [hE2]
  refine law_mk (E := E) (pc := 0) (ci := 8) hx hb hml hown hts hKE clX8 inX8 tyX8 tyX8_ok wS_c8 wS_n8 wS_t8 df_X8 (by decide) (iX8_init_0 l E Mz (Mz_Z 1)) wS_d8 wS_e8 wS_t8 wS_m8 rfl (by decide +kernel) ⟨by decide, by decide⟩ (by decide) (by decide) (Nat.le_of_ble_eq_true rfl) dL_law_0 dL_law_3 dL_law_4 eE.symm (by omega) hS hl (fun H1 locs1 hz1 hP1 hq1 hS1 => ?_)
  refine lv_astore_n (lv' := [(1, .ref (E.2.2 + 0)), (0, .ref b)]) hx hb dL_law_7 rfl hl (by decide) rfl (fun ls hl => ?_)
  have hz1' : H1.size = s.heap.size + 45 := by rw [hz1, eE]; rfl
  refine law_mk (E := E2) (pc := 8) (ci := 9) hx hb hml hown hts hKE2 clX9 inX9 tyX9 tyX9_ok wS_c9 wS_n9 wS_t9 df_X9 (by decide) (iX9_init_0 l E2 Mz (Mz_Z 1)) wS_d9 wS_e9 wS_t9 wS_m9 rfl (by decide +kernel) ⟨by decide, by decide⟩ (by decide) (by decide) (Nat.le_of_ble_eq_true rfl) dL_law_8 dL_law_11 dL_law_12 (hz1'.trans eE2.symm) (by omega) hS1 hl (fun H2 locs2 hz2 hP2 hq2 hS2 => ?_)
  refine lv_astore_n (lv' := [(2, .ref (E2.2.2 + 0)), (1, .ref (E.2.2 + 0)), (0, .ref b)]) hx hb dL_law_15 rfl hl (by decide) rfl (fun ls hl => ?_)
  refine lv_iconst (v := 0) hx hb dL_law_16 (by decide) ?_
  refine lv_istore_n (lv' := [(3, .int 0), (2, .ref (E2.2.2 + 0)), (1, .ref (E.2.2 + 0)), (0, .ref b)]) hx hb dL_law_17 rfl hl (by decide) rfl (fun ls hl => ?_)
  have hPx : Rp Gx Mx0 H2 := by
    have h1 : Rp (gs E shX) Mx0 H1 := hP1
    have h2 : Rp (gs E shX) Mx0 H2 := va_P.kept h1 fun k q hq => hq2 q.1 (h1 k q hq).lt
    rw [hE] at h2
    rw [hGx]
    exact Rp_al h2
  have hPm : Rp Gm Mm0 H2 := by
    have h2 : Rp (gs E2 shM) Mm0 H2 := hP2
    rw [hE2] at h2
    rw [hGm]
    exact Rp_al h2
  have hCL : CL Gx Gm (p, l, e, room_1, s, m, #[Value.ref b], below, meth, c) b L xs := ⟨hx, hb, hml, hr, hlocks, hown, hts, hX, hbl, rfl, rfl, hKx, hKm, fun q h => (hAx q h).1, fun q h => by have := hAm q h; omega, fun q h1 h2 => by have := (hAx q h1).2; have := hAm q h2; omega⟩
  have hloop := law_loop hCL (by rw [hGx]) (by rw [hGm]) hL S (L + 1) 0 Mx0 Mm0 (Nat.zero_le L) (by omega) hR0
  refine hloop H2 locs2 ls hPx hPm hS2 ?_
  have ex : gA Gx 0 = E.2.2 + 0 := by rw [hGx, eE]
  have em : gA Gm 0 = E2.2.2 + 0 := by rw [hGm, eE2]
  rw [ex, em]
  exact lv_sub hl [3, 2, 1, 0] rfl
