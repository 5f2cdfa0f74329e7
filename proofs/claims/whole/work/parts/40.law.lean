/-! the law's own walk: two regions, the script -/
def CL (Gx Gm : Rg) (X : Ct) (b L : Nat) (xs : Nat → Int32) : Prop :=
  match X with
  | (p, l, e, R, s, m, args, below, meth, c) => p.tables.exec = Jvm.exec ∧ c.code = code ∧ c.maxLocals = 4 ∧ meth.sig.returnType = ret ∧ meth.locks = false ∧ s.vm.findClass RL = some m.cls ∧ (∀ w ∈ lw_tbl, w.before args s = true) ∧ va_X b L xs s s.heap ∧ b < s.heap.size ∧ R = room_1 ∧ args = #[Value.ref b] ∧ Kn Gx s s.heap ∧ Kn Gm s s.heap ∧ (∀ q, Ar Gx q → s.heap.size ≤ q) ∧ (∀ q, Ar Gm q → s.heap.size ≤ q) ∧ ∀ q, Ar Gx q → ¬ Ar Gm q
def VL (Gx Gm : Rg) (X : Ct) (pc : Nat) (lv : List (Nat × Value)) (st : List Value) (Mx Mm_ : Mm) : Prop :=
  match X with
  | (p, l, e, R, s, m, args, below, meth, c) => ∀ (H : Heap) (locs : List Loc) (ls : Array Slot), Rp Gx Mx H → Rp Gm Mm_ H → va_S (fun q => s.heap.size ≤ q) s.heap H locs → lv_has ls 4 lv → W p l e R s m args below meth c H locs 63 5502 (lw_Z below args s) (F0 m pc ls st)
theorem lw_GoodIn {y : MethodName} {cc : ByteArray} {n : Nat} {r : Option FieldType} (hc : Cond.code y cc n r ∈ lw_tbl) (xs : List Cond) (hx : ∀ w ∈ xs, w ∈ bg) : GoodIn lw_tbl (xs ++ (Cond.code y cc n r :: bg)) := by
  intro w hw
  rcases List.mem_append.mp hw with h | h
  · exact ⟨(List.mem_filter.mp (hx w h)).1, bg_good (hx w h)⟩
  · rcases List.mem_cons.mp h with h | h
    · subst h
      exact ⟨hc, Or.inl rfl⟩
    · exact ⟨(List.mem_filter.mp h).1, bg_good h⟩
theorem Kn.mlaw {G : Rg} {s U : State} {H' : Heap} {locs : List Loc} (h : Kn G s s.heap) (hW : s.WarmedH U.vm) (hS : va_S (fun q => s.heap.size ≤ q) s.heap H' locs) : Kn G U H' :=
  Kn.moved h hW (locs := []) ⟨hS.1, fun q h1 _ => hS.2.1 q h1 (by show ¬ _ ≤ _; omega), by simp⟩
section VLR
variable {Gx Gm : Rg} {X : Ct} {b L : Nat} {xs : Nat → Int32} {Mx M_ : Mm} {pc : Nat} {lv lv' : List (Nat × Value)} {st : List Value}
theorem VL.sub (C : CL Gx Gm X b L xs) (ks : List Nat) (h : lv_pick lv ks = lv') (k : VL Gx Gm X pc lv' st Mx M_) : VL Gx Gm X pc lv st Mx M_ := by
  obtain ⟨p, l, e, R, s, m, args, below, meth, cd⟩ := X
  intro H locs ls hP hQ hS hl
  exact k H locs ls hP hQ hS (lv_sub hl ks h)
theorem VL.aload_n (C : CL Gx Gm X b L xs) {i : Fin 4} {x : Nat} (q : Nat) (hq : lv[q]? = some ((i : Nat), .ref x)) (hd : decode code pc = .ok (.aload_n i, 1)) (k : VL Gx Gm X (pc + 1) lv (.ref x :: st) Mx M_) : VL Gx Gm X pc lv st Mx M_ := by
  obtain ⟨p, l, e, R, s, m, args, below, meth, cd⟩ := X
  intro H locs ls hP hQ hS hl
  exact lv_aload_n C.1 C.2.1 hd rfl (lv_at hl q hq) (k H locs ls hP hQ hS hl)
theorem VL.iload_n (C : CL Gx Gm X b L xs) {i : Fin 4} {x : Int32} (q : Nat) (hq : lv[q]? = some ((i : Nat), .int x)) (hd : decode code pc = .ok (.iload_n i, 1)) (k : VL Gx Gm X (pc + 1) lv (.int x :: st) Mx M_) : VL Gx Gm X pc lv st Mx M_ := by
  obtain ⟨p, l, e, R, s, m, args, below, meth, cd⟩ := X
  intro H locs ls hP hQ hS hl
  exact lv_iload_n C.1 C.2.1 hd rfl (lv_at hl q hq) (k H locs ls hP hQ hS hl)
theorem VL.iconst (C : CL Gx Gm X b L xs) {n : Int} (v : Int32) (hv : Int32.ofInt n = v) (hd : decode code pc = .ok (.iconst n, 1)) (k : VL Gx Gm X (pc + 1) lv (.int v :: st) Mx M_) : VL Gx Gm X pc lv st Mx M_ := by
  obtain ⟨p, l, e, R, s, m, args, below, meth, cd⟩ := X
  intro H locs ls hP hQ hS hl
  exact lv_iconst C.1 C.2.1 hd hv (k H locs ls hP hQ hS hl)
theorem VL.bipush (C : CL Gx Gm X b L xs) {n : Int} (v : Int32) (hv : (Int8.ofInt n).toInt32 = v) (hd : decode code pc = .ok (.bipush n, 2)) (k : VL Gx Gm X (pc + 2) lv (.int v :: st) Mx M_) : VL Gx Gm X pc lv st Mx M_ := by
  obtain ⟨p, l, e, R, s, m, args, below, meth, cd⟩ := X
  intro H locs ls hP hQ hS hl
  exact lv_bipush C.1 C.2.1 hd hv (k H locs ls hP hQ hS hl)
theorem VL.iadd (C : CL Gx Gm X b L xs) {x y : Int32} (hd : decode code pc = .ok (.iadd, 1)) (k : VL Gx Gm X (pc + 1) lv (.int (x + y) :: st) Mx M_) : VL Gx Gm X pc lv (.int y :: .int x :: st) Mx M_ := by
  obtain ⟨p, l, e, R, s, m, args, below, meth, cd⟩ := X
  intro H locs ls hP hQ hS hl
  exact lv_iadd C.1 C.2.1 hd (k H locs ls hP hQ hS hl)
theorem VL.isub (C : CL Gx Gm X b L xs) {x y : Int32} (hd : decode code pc = .ok (.isub, 1)) (k : VL Gx Gm X (pc + 1) lv (.int (x - y) :: st) Mx M_) : VL Gx Gm X pc lv (.int y :: .int x :: st) Mx M_ := by
  obtain ⟨p, l, e, R, s, m, args, below, meth, cd⟩ := X
  intro H locs ls hP hQ hS hl
  exact lv_isub C.1 C.2.1 hd (k H locs ls hP hQ hS hl)
theorem VL.iand (C : CL Gx Gm X b L xs) {x y : Int32} (hd : decode code pc = .ok (.iand, 1)) (k : VL Gx Gm X (pc + 1) lv (.int (x &&& y) :: st) Mx M_) : VL Gx Gm X pc lv (.int y :: .int x :: st) Mx M_ := by
  obtain ⟨p, l, e, R, s, m, args, below, meth, cd⟩ := X
  intro H locs ls hP hQ hS hl
  exact lv_iand C.1 C.2.1 hd (k H locs ls hP hQ hS hl)
theorem VL.lcmp (C : CL Gx Gm X b L xs) {x y : Int64} (hd : decode code pc = .ok (.lcmp, 1)) (k : VL Gx Gm X (pc + 1) lv (.int (lg_cmp x y) :: st) Mx M_) : VL Gx Gm X pc lv (.long y :: .long x :: st) Mx M_ := by
  obtain ⟨p, l, e, R, s, m, args, below, meth, cd⟩ := X
  intro H locs ls hP hQ hS hl
  exact W.lcmp C.1 C.2.1 hd (k H locs ls hP hQ hS hl)
theorem VL.goto (C : CL Gx Gm X b L xs) {off : Int} (tgt : Nat) (ht : (pc : Int) + off = (tgt : Int)) (hd : decode code pc = .ok (.goto off, 3)) (k : VL Gx Gm X tgt lv st Mx M_) : VL Gx Gm X pc lv st Mx M_ := by
  obtain ⟨p, l, e, R, s, m, args, below, meth, cd⟩ := X
  intro H locs ls hP hQ hS hl
  exact lv_goto C.1 C.2.1 hd ht (k H locs ls hP hQ hS hl)
theorem VL.icgt (C : CL Gx Gm X b L xs) {x y : Int32} {off : Int} (tgt : Nat) (ht : (pc : Int) + off = (tgt : Int)) (hd : decode code pc = .ok (.if_icmp .gt off, 3)) (kt : y < x → VL Gx Gm X tgt lv st Mx M_) (kf : ¬ y < x → VL Gx Gm X (pc + 3) lv st Mx M_) : VL Gx Gm X pc lv (.int y :: .int x :: st) Mx M_ := by
  obtain ⟨p, l, e, R, s, m, args, below, meth, cd⟩ := X
  intro H locs ls hP hQ hS hl
  exact lv_icmp_gt C.1 C.2.1 hd ht (fun h => kt h H locs ls hP hQ hS hl) (fun h => kf h H locs ls hP hQ hS hl)
theorem VL.iceqT (C : CL Gx Gm X b L xs) {x : Int32} {off : Int} (tgt : Nat) (ht : (pc : Int) + off = (tgt : Int)) (hd : decode code pc = .ok (.if_icmp .eq off, 3)) (k : VL Gx Gm X tgt lv st Mx M_) : VL Gx Gm X pc lv (.int x :: .int x :: st) Mx M_ := by
  obtain ⟨p, l, e, R, s, m, args, below, meth, cd⟩ := X
  intro H locs ls hP hQ hS hl
  exact lv_icmp_eq C.1 C.2.1 hd ht (fun _ => k H locs ls hP hQ hS hl) (fun h => absurd rfl h)
theorem VL.ifeqT (C : CL Gx Gm X b L xs) {x : Int32} {off : Int} (tgt : Nat) (h : x = 0) (ht : (pc : Int) + off = (tgt : Int)) (hd : decode code pc = .ok (.ifCond .eq off, 3)) (k : VL Gx Gm X tgt lv st Mx M_) : VL Gx Gm X pc lv (.int x :: st) Mx M_ := by
  obtain ⟨p, l, e, R, s, m, args, below, meth, cd⟩ := X
  intro H locs ls hP hQ hS hl
  exact lv_if_eq C.1 C.2.1 hd ht (fun _ => k H locs ls hP hQ hS hl) (fun z => absurd h z)
theorem VL.ifeqF (C : CL Gx Gm X b L xs) {x : Int32} {off : Int} (tgt : Nat) (h : ¬ x = 0) (ht : (pc : Int) + off = (tgt : Int)) (hd : decode code pc = .ok (.ifCond .eq off, 3)) (k : VL Gx Gm X (pc + 3) lv st Mx M_) : VL Gx Gm X pc lv (.int x :: st) Mx M_ := by
  obtain ⟨p, l, e, R, s, m, args, below, meth, cd⟩ := X
  intro H locs ls hP hQ hS hl
  exact lv_if_eq C.1 C.2.1 hd ht (fun z => absurd z h) (fun _ => k H locs ls hP hQ hS hl)
theorem VL.iinc (C : CL Gx Gm X b L xs) {i : Nat} {n : Int} {x : Int32} (v : Int32) (q : Nat) (hq : lv[q]? = some (i, .int x)) (hv : x + Int32.ofInt n = v) (hn : i < 4) (hl' : (i, Value.int v) :: lv.filter (fun q => !(q.1 == i) && !(q.1 + 1 == i && q.2.category == 2)) = lv') (hd : decode code pc = .ok (.iinc i n, 3)) (k : VL Gx Gm X (pc + 3) lv' st Mx M_) : VL Gx Gm X pc lv st Mx M_ := by
  obtain ⟨p, l, e, R, s, m, args, below, meth, cd⟩ := X
  intro H locs ls hP hQ hS hl
  exact lv_iinc C.1 C.2.1 hd hl hq hv hn hl' (fun ls hl => k H locs ls hP hQ hS hl)
theorem VL.tabIn (C : CL Gx Gm X b L xs) {dflt lo' hi : Int} {offs : Array Int} {len : Nat} {x : Int32} {off : Int} (tgt : Nat) (h1 : ¬ x.toInt < lo') (h2 : ¬ hi < x.toInt) (ho : offs[(x.toInt - lo').toNat]? = some off) (ht : (pc : Int) + off = (tgt : Int)) (hd : decode code pc = .ok (.tableswitch dflt lo' hi offs, len)) (k : VL Gx Gm X tgt lv st Mx M_) : VL Gx Gm X pc lv (.int x :: st) Mx M_ := by
  obtain ⟨p, l, e, R, s, m, args, below, meth, cd⟩ := X
  intro H locs ls hP hQ hS hl
  exact lv_tableIn C.1 C.2.1 hd h1 h2 ho ht (k H locs ls hP hQ hS hl)
theorem VL.tabOut (C : CL Gx Gm X b L xs) {dflt lo' hi : Int} {offs : Array Int} {len : Nat} {x : Int32} (tgt : Nat) (h : x.toInt < lo' ∨ hi < x.toInt) (ht : (pc : Int) + dflt = (tgt : Int)) (hd : decode code pc = .ok (.tableswitch dflt lo' hi offs, len)) (k : VL Gx Gm X tgt lv st Mx M_) : VL Gx Gm X pc lv (.int x :: st) Mx M_ := by
  obtain ⟨p, l, e, R, s, m, args, below, meth, cd⟩ := X
  intro H locs ls hP hQ hS hl
  exact lv_tableOut C.1 C.2.1 hd h ht (k H locs ls hP hQ hS hl)
theorem VL.sld (C : CL Gx Gm X b L xs) {i : Int32} (hi : vp_in i L) (hd : decode code pc = .ok (.iaload, 1)) (k : VL Gx Gm X (pc + 1) lv (.int (xs i.toNatClampNeg) :: st) Mx M_) : VL Gx Gm X pc lv (.int i :: .ref b :: st) Mx M_ := by
  obtain ⟨p, l, e, R, s, m, args, below, meth, cd⟩ := X
  obtain ⟨hx, hb, hml, hr, hlk, hown, hts, hX, hbl, hR, ha, k1, k2, a1, a2, a3⟩ := C
  intro H locs ls hP hQ hS hl
  exact va_sld hx hb hX hbl (by show ¬ _ ≤ _; omega) hS hi hd (k H locs ls hP hQ hS hl)
theorem VL.slen (C : CL Gx Gm X b L xs) (hd : decode code pc = .ok (.arraylength, 1)) (k : VL Gx Gm X (pc + 1) lv (.int (Int32.ofNat L) :: st) Mx M_) : VL Gx Gm X pc lv (.ref b :: st) Mx M_ := by
  obtain ⟨p, l, e, R, s, m, args, below, meth, cd⟩ := X
  obtain ⟨hx, hb, hml, hr, hlk, hown, hts, hX, hbl, hR, ha, k1, k2, a1, a2, a3⟩ := C
  intro H locs ls hP hQ hS hl
  exact va_slen hx hb hX hbl (by show ¬ _ ≤ _; omega) hS hd (k H locs ls hP hQ hS hl)
theorem VL.end1 (C : CL Gx Gm X b L xs) (hd : decode code pc = .ok (.ireturn, 1)) : VL Gx Gm X pc lv [.int 1] Mx M_ := by
  obtain ⟨p, l, e, R, s, m, args, below, meth, cd⟩ := X
  obtain ⟨hx, hb, hml, hr, hlk, hown, hts, hX, hbl, hR, ha, k1, k2, a1, a2, a3⟩ := C
  intro H locs ls hP hQ hS hl
  subst hR; subst ha
  refine va_forget (fun q hq => hS.2.2 q hq) ?_
  exact lw_ret hx hb hr hlk hd
theorem VL.call {ovc : Option Value} {As rest : List Value} {G : Rg} {M M1 : Mm} {y : MethodName} {cy : ByteArray} {ny fy ly n : Nat} {ry : Option FieldType} (hF : MF y cy ny ry n) {ci : Nat} {T : u_T} {N : Nat} (hcl : vwCl[ci]? = some (y.cls, T, N)) {fl : List Fk} (hc : (gS G)[0]? = some (.inr (.inl (ci, fl)))) {ix : Nat} (hw : Cond.methodLink RL ix y ∈ lw_tbl) (hst : st = As.reverse ++ .ref (gA G 0) :: rest) (hn : As.length = n) (hroom : fy + 1 ≤ 10 ∧ 8 + (ny + 11) + ly ≤ 358) (h8 : (rest.map fun v => v.category).sum ≤ 8) (hd : decode code pc = .ok (.invokevirtual ix, 3))
    {p : Program} {l : Launch} {e : Env} {s : State} {m : MethodId} {args : Array Value} {below : List Frame} {meth : Method} {c : Code} {H : Heap} {locs : List Loc} {ls : Array Slot} {Q : State → Prop} (hM : Mt l G y cy ny ry fy ly (.ref (gA G 0) :: As) M ovc M1)
    (hx : p.tables.exec = Jvm.exec) (hb : c.code = code) (hml : c.maxLocals = 4) (hown : s.vm.findClass RL = some m.cls) (hts : ∀ w ∈ lw_tbl, w.before args s = true) (hK : Kn G s s.heap) (hA : ∀ q, Ar G q → s.heap.size ≤ q) (hP : Rp G M H) (hS : va_S (fun q => s.heap.size ≤ q) s.heap H locs) (hl : lv_has ls 4 lv)
    (k : ∀ (H1 : Heap) (locs1 : List Loc), Rp G M1 H1 → H.size ≤ H1.size → (∀ q : Nat, q < H.size → ¬ Ar G q → H1[q]? = H[q]?) → va_S (fun q => s.heap.size ≤ q) s.heap H1 locs1 → W p l e room_1 s m args below meth c H1 locs1 63 5502 Q (F0 m (pc + 3) ls (ovc.toList ++ rest))) : W p l e room_1 s m args below meth c H locs 63 5502 Q (F0 m pc ls st) := by
  obtain ⟨f1, f2, f3, f4, f5⟩ := hF
  have hG : GoodIn lw_tbl (wsV RL ix y.cls y (Cond.code y cy ny ry :: bg)) := lw_GoodIn f1 [.methodLink RL ix y, .instanceMethod y, .selects y.cls y y, .initialized y.cls] (by
    intro w h
    simp only [List.mem_cons, List.not_mem_nil, or_false] at h
    rcases h with rfl | rfl | rfl | rfl
    · exact bg_of hw rfl
    · exact bg_of f2 rfl
    · exact bg_of f3 rfl
    · exact bg_of f4 rfl)
  have hrun := va_runV (As := As) (rest := rest) (g := F0 m pc ls st) (below := below) (meth := meth) (e := e) (locs := locs) (cells := 63) (slots := 5502) ⟨hx, hb, hml, hown, hts⟩ hM (cwV (R := room_1) n hts hG rfl rfl rfl ⟨rfl, f5⟩ hroom) ⟨vP_blind _ _ _, va_recv hK.1 hP hcl (wl_at M hc), fun U hU hW => ⟨rfl, by rw [hU]; exact hP, Kn.mlaw hK hW (by rw [hU]; exact hS)⟩⟩ rfl hn hl.1 hst (lv_room h8) hd ⟨Nat.le_refl _, Nat.le_refl _⟩
  intro T hT XX
  obtain ⟨v, st₀, t, T', L, h0, X', hL, e1, e2, ⟨hv, hP1, hz, hk⟩, stp⟩ := hrun T hT XX
  cases hv
  rw [h0] at hz hk
  obtain ⟨t2, a1, b1⟩ := k T'.heap (locs ++ L) (by rw [e1]; exact hP1) (by rw [e1]; exact hz) (fun q h1 h2 => by rw [e1]; exact hk q h1 h2)
    ⟨Nat.le_trans hS.1 (by rw [e1]; exact hz), fun q h1 h2 => by rw [e1, hk q (Nat.lt_of_lt_of_le h1 hS.1) (fun z => h2 (hA q z))]; exact hS.2.1 q h1 h2, fun q hq => by
      rcases List.mem_append.mp hq with h | h
      · exact hS.2.2 q h
      · exact hA _ (hL q h)⟩ T' rfl X'
  exact ⟨t2, stp t2 a1, b1⟩
theorem Rp_keep {G G' : Rg} {M : Mm} {H H1 : Heap} (hP : Rp G M H) (hk : ∀ q : Nat, q < H.size → ¬ Ar G' q → H1[q]? = H[q]?) (hd : ∀ q, Ar G q → ¬ Ar G' q) : Rp G M H1 := by
  refine va_P.kept hP fun k q hq => ?_
  obtain ⟨a1, a2⟩ := wl_inv hq
  exact hk q.1 (hP k q hq).lt (hd _ ⟨k, a1, a2⟩)
theorem VL.callX (C : CL Gx Gm X b L xs) {ovc : Option Value} {As rest : List Value} {M1 : Mm} {y : MethodName} {cy : ByteArray} {ny fy ly n : Nat} {ry : Option FieldType} (hM : Mt X.2.1 Gx y cy ny ry fy ly (.ref (gA Gx 0) :: As) Mx ovc M1) (hF : MF y cy ny ry n) {ci : Nat} {T : u_T} {N : Nat} (hcl : vwCl[ci]? = some (y.cls, T, N)) {fl : List Fk} (hc : (gS Gx)[0]? = some (.inr (.inl (ci, fl)))) {ix : Nat} (hw : Cond.methodLink RL ix y ∈ lw_tbl) (hst : st = As.reverse ++ .ref (gA Gx 0) :: rest) (hn : As.length = n) (hroom : fy + 1 ≤ 10 ∧ 8 + (ny + 11) + ly ≤ 358) (h8 : (rest.map fun v => v.category).sum ≤ 8) (hd : decode code pc = .ok (.invokevirtual ix, 3))
    (k : VL Gx Gm X (pc + 3) lv (ovc.toList ++ rest) M1 M_) : VL Gx Gm X pc lv st Mx M_ := by
  obtain ⟨p, l, e, R, s, m, args, below, meth, cd⟩ := X
  obtain ⟨hx, hb, hml, hr, hlk, hown, hts, hX, hbl, hR, ha, k1, k2, a1, a2, a3⟩ := C
  intro H locs ls hP hQ hS hl
  subst hR
  exact VL.call hF hcl hc hw hst hn hroom h8 hd hM hx hb hml hown hts k1 a1 hP hS hl (fun H1 locs1 hP1 hz hk hS1 => k H1 locs1 ls hP1 (Rp_keep hQ hk (fun q h1 h2 => a3 q h2 h1)) hS1 hl)
theorem VL.callM (C : CL Gx Gm X b L xs) {ovc : Option Value} {As rest : List Value} {M1 : Mm} {y : MethodName} {cy : ByteArray} {ny fy ly n : Nat} {ry : Option FieldType} (hM : Mt X.2.1 Gm y cy ny ry fy ly (.ref (gA Gm 0) :: As) M_ ovc M1) (hF : MF y cy ny ry n) {ci : Nat} {T : u_T} {N : Nat} (hcl : vwCl[ci]? = some (y.cls, T, N)) {fl : List Fk} (hc : (gS Gm)[0]? = some (.inr (.inl (ci, fl)))) {ix : Nat} (hw : Cond.methodLink RL ix y ∈ lw_tbl) (hst : st = As.reverse ++ .ref (gA Gm 0) :: rest) (hn : As.length = n) (hroom : fy + 1 ≤ 10 ∧ 8 + (ny + 11) + ly ≤ 358) (h8 : (rest.map fun v => v.category).sum ≤ 8) (hd : decode code pc = .ok (.invokevirtual ix, 3))
    (k : VL Gx Gm X (pc + 3) lv (ovc.toList ++ rest) Mx M1) : VL Gx Gm X pc lv st Mx M_ := by
  obtain ⟨p, l, e, R, s, m, args, below, meth, cd⟩ := X
  obtain ⟨hx, hb, hml, hr, hlk, hown, hts, hX, hbl, hR, ha, k1, k2, a1, a2, a3⟩ := C
  intro H locs ls hP hQ hS hl
  subst hR
  exact VL.call hF hcl hc hw hst hn hroom h8 hd hM hx hb hml hown hts k2 a2 hQ hS hl (fun H1 locs1 hP1 hz hk hS1 => k H1 locs1 ls (Rp_keep hP hk (fun q h1 h2 => a3 q h1 h2)) hP1 hS1 hl)
end VLR
