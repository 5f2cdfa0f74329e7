theorem Kn.call {G : Rg} {U : State} {H : Heap} (g : JFrame) (mk : MethodId) (a : Array Value) (h : Kn G U H) : Kn G (U.calling g mk a) H := by
  obtain ⟨h1, h2, h3, h4, ⟨cell, c1, c2, c3⟩, h6⟩ := h
  exact ⟨va_K.moved (u := U) (U := U.calling g mk a) (Vm.Alike.refl U.vm) h1, h2, va_Nw.same rfl rfl h3, va_Z.moved (u := U) (U := U.calling g mk a) (Vm.Alike.refl U.vm) h4, ⟨cell, c1, State.isArrayOf_alike (s := U) (T := U.calling g mk a) (Vm.Alike.refl U.vm) c2, c3⟩, h6⟩
theorem vP_blind (G : Rg) (av : List Value) (M : Mm) : FrameBlind (vP G av M) := by
  intro a U g mk ⟨q0, qP, qK⟩
  exact ⟨q0, qP, qK.call g mk a⟩
/-- what is fixed of a method that is called on an object, and of a static one -/
def MF (y : MethodName) (cc : ByteArray) (nL : Nat) (ret : Option FieldType) (n : Nat) : Prop := Cond.code y cc nL ret ∈ lw_tbl ∧ Cond.instanceMethod y ∈ lw_tbl ∧ Cond.selects y.cls y y ∈ lw_tbl ∧ Cond.initialized y.cls ∈ lw_tbl ∧ (y.cls ≠ "java/lang/invoke/MethodHandle" ∧ y.cls ≠ "java/lang/invoke/VarHandle" ∧ (parseMethodDescriptor y.desc).map (fun d => d.parameters.length) = some n)
def MS (y : MethodName) (cc : ByteArray) (nL : Nat) (ret : Option FieldType) (n : Nat) : Prop := Cond.code y cc nL ret ∈ lw_tbl ∧ Cond.static y ∈ lw_tbl ∧ Cond.initialized y.cls ∈ lw_tbl ∧ (y.cls ≠ "java/lang/invoke/MethodHandle" ∧ y.cls ≠ "java/lang/invoke/VarHandle" ∧ (parseMethodDescriptor y.desc).map (fun d => d.parameters.length) = some n)
section VC
variable {G : Rg} {p : Program} {l : Launch} {e : Env} {R : Room} {s : State} {m : MethodId} {args : Array Value} {below : List Frame} {meth : Method} {c : Code} {H : Heap} {locs : List Loc} {Q : State → Prop}
theorem vc_go {ovc : Option Value} {M1 : Mm} {pc : Nat} {ls : Array Slot} {st0 rest : List Value} {a : Array Value}
    (hr : va_Run p l e R s m args below meth c H locs 0 0 0 0 (F0 m pc ls st0) rest (vQ G ovc M1 a) (Ar G)) (hS : va_S (Ar G) s.heap H locs)
    (k : ∀ (H1 : Heap) (locs1 : List Loc), Rp G M1 H1 → va_S (Ar G) s.heap H1 locs1 → W p l e R s m args below meth c H1 locs1 0 0 Q (F0 m (pc + 3) ls (ovc.toList ++ rest))) : W p l e R s m args below meth c H locs 0 0 Q (F0 m pc ls st0) := by
  intro T hT X
  obtain ⟨v, st₀, t, T', L, h0, X', hL, e1, e2, ⟨hv, hP1, hz, hk⟩, st⟩ := hr T hT X
  cases hv
  rw [h0] at hz hk
  obtain ⟨t2, a1, b1⟩ := k T'.heap (locs ++ L) (by rw [e1]; exact hP1)
    ⟨Nat.le_trans hS.1 (by rw [e1]; exact hz), fun q h1 h2 => by rw [e1, hk q (Nat.lt_of_lt_of_le h1 hS.1) h2]; exact hS.2.1 q h1 h2, fun q hq => by
      rcases List.mem_append.mp hq with h | h
      · exact hS.2.2 q h
      · exact hL q h⟩ T' rfl X'
  exact ⟨t2, st t2 a1, b1⟩
end VC
section VR3
variable {G : Rg} {X : Ct} {cc : ByteArray} {nL fr lo : Nat} {own : String} {ret : Option FieldType} {cw : Cond} {ov : Option Value} {Mf M : Mm} {pc : Nat} {lv lv' : List (Nat × Value)} {st : List Value}
theorem V.callV (C : Cx G X cc nL own ret fr lo cw) {y : MethodName} {cy : ByteArray} {ny fy ly n : Nat} {ry : Option FieldType} {As rest : List Value} {a : Nat} {ovc : Option Value} {M1 : Mm} (hM : Mt X.2.1 G y cy ny ry fy ly (.ref (gA G a) :: As) M ovc M1) (hF : MF y cy ny ry n) {ci : Nat} {T : u_T} {N : Nat} (hcl : vwCl[ci]? = some (y.cls, T, N)) {fl : List Fk} (hc : (gS G)[a]? = some (.inr (.inl (ci, fl)))) {ix : Nat} (hw : Cond.methodLink own ix y ∈ lw_tbl)
    (hst : st = As.reverse ++ .ref (gA G a) :: rest) (hn : As.length = n) (hroom : fy + 1 ≤ fr ∧ 8 + (ny + 11) + ly ≤ lo) (h8 : (rest.map fun v => v.category).sum ≤ 8) (hd : decode cc pc = .ok (.invokevirtual ix, 3)) (k : V G X nL ov Mf (pc + 3) lv (ovc.toList ++ rest) M1) : V G X nL ov Mf pc lv st M := by
  obtain ⟨p, l, e, R, s, m, args, below, meth, cd⟩ := X
  obtain ⟨hx, hb, hml, hr, hlk, hown, hts, hK, hR⟩ := C
  intro H locs ls hP hS hl
  subst hR
  obtain ⟨f1, f2, f3, f4, f5⟩ := hF
  have hG : GoodIn (cw :: bg) (wsV own ix y.cls y (Cond.code y cy ny ry :: bg)) := bg_GoodIn f1 [.methodLink own ix y, .instanceMethod y, .selects y.cls y y, .initialized y.cls] (by
    intro w h
    simp only [List.mem_cons, List.not_mem_nil, or_false] at h
    rcases h with rfl | rfl | rfl | rfl
    · exact bg_of hw rfl
    · exact bg_of f2 rfl
    · exact bg_of f3 rfl
    · exact bg_of f4 rfl)
  refine vc_go (va_runV (As := As) (rest := rest) (g := F0 m pc ls st) ⟨hx, hb, hml, hown, hts⟩ hM (cwV (R := ({ frames := fr, cells := 0, slots := 0, locals := lo } : Room)) n hts hG rfl rfl rfl ⟨rfl, f5⟩ hroom) ⟨vP_blind _ _ _, va_recv hK.1 hP hcl (wl_at M hc), fun U hU hW => ⟨rfl, by rw [hU]; exact hP, Kn.moved hK hW (by rw [hU]; exact hS)⟩⟩ rfl hn hl.1 hst (lv_room h8) hd ⟨Nat.le_refl _, Nat.le_refl _⟩) hS (fun H1 locs1 hP1 hS1 => k H1 locs1 ls hP1 hS1 hl)
theorem V.callS (C : Cx G X cc nL own ret fr lo cw) {y : MethodName} {cy : ByteArray} {ny fy ly n : Nat} {ry : Option FieldType} {As rest : List Value} {ovc : Option Value} {M1 : Mm} (hM : Mt X.2.1 G y cy ny ry fy ly As M ovc M1) (hF : MS y cy ny ry n) {ix : Nat} (hw : Cond.methodLink own ix y ∈ lw_tbl)
    (hst : st = As.reverse ++ rest) (hn : As.length = n) (hroom : fy + 1 ≤ fr ∧ 8 + (ny + 11) + ly ≤ lo) (h8 : (rest.map fun v => v.category).sum ≤ 8) (hd : decode cc pc = .ok (.invokestatic ix, 3)) (k : V G X nL ov Mf (pc + 3) lv (ovc.toList ++ rest) M1) : V G X nL ov Mf pc lv st M := by
  obtain ⟨p, l, e, R, s, m, args, below, meth, cd⟩ := X
  obtain ⟨hx, hb, hml, hr, hlk, hown, hts, hK, hR⟩ := C
  intro H locs ls hP hS hl
  subst hR
  obtain ⟨f1, f2, f4, f5⟩ := hF
  have hG : GoodIn (cw :: bg) (va_wsS own ix y (Cond.code y cy ny ry :: bg)) := bg_GoodIn f1 [.methodLink own ix y, .static y, .initialized y.cls] (by
    intro w h
    simp only [List.mem_cons, List.not_mem_nil, or_false] at h
    rcases h with rfl | rfl | rfl
    · exact bg_of hw rfl
    · exact bg_of f2 rfl
    · exact bg_of f4 rfl)
  refine vc_go (va_runS (As := As) (rest := rest) (g := F0 m pc ls st) ⟨hx, hb, hml, hown, hts⟩ hM (va_cwS (R := ({ frames := fr, cells := 0, slots := 0, locals := lo } : Room)) n hts hG rfl rfl rfl f5 hroom) ⟨vP_blind _ _ _, fun U hU hW => ⟨rfl, by rw [hU]; exact hP, Kn.moved hK hW (by rw [hU]; exact hS)⟩⟩ rfl hn hl.1 hst (lv_room h8) hd ⟨Nat.le_refl _, Nat.le_refl _⟩) hS (fun H1 locs1 hP1 hS1 => k H1 locs1 ls hP1 hS1 hl)
/-- the one call of a nest mate's private static method -/
theorem V.callN (C : Cx G X cc nL RX4 ret fr lo cw) {cy : ByteArray} {ny fy ly n : Nat} {ry : Option FieldType} {As rest : List Value} {ovc : Option Value} {M1 : Mm} (hM : Mt X.2.1 G yX8_isWithin cy ny ry fy ly As M ovc M1) (hF : MS yX8_isWithin cy ny ry n)
    (hst : st = As.reverse ++ rest) (hn : As.length = n) (hroom : fy + 1 ≤ fr ∧ 8 + (ny + 11) + ly ≤ lo) (h8 : (rest.map fun v => v.category).sum ≤ 8) (hd : decode cc pc = .ok (.invokestatic 30, 3)) (k : V G X nL ov Mf (pc + 3) lv (ovc.toList ++ rest) M1) : V G X nL ov Mf pc lv st M := by
  obtain ⟨p, l, e, R, s, m, args, below, meth, cd⟩ := X
  obtain ⟨hx, hb, hml, hr, hlk, hown, hts, hK, hR⟩ := C
  intro H locs ls hP hS hl
  subst hR
  obtain ⟨f1, f2, f4, f5⟩ := hF
  have hG : GoodIn (cw :: bg) (Cond.code yX8_isWithin cy ny ry :: bg) := bg_GoodIn f1 [] (by simp)
  have h1 := hts _ (List.mem_cons_of_mem _ (bg_of f4 rfl))
  have h2 := hts _ (List.mem_cons_of_mem _ (bg_of f2 rfl))
  refine vc_go (va_runSN (As := As) (rest := rest) (g := F0 m pc ls st) ⟨hx, hb, hml, hown, hts⟩ hM ⟨va_cnB (R := ({ frames := fr, cells := 0, slots := 0, locals := lo } : Room)) n hts hG rfl rfl rfl hK.2.2.1 h1 f5 hroom, h2, trivial⟩ ⟨vP_blind _ _ _, fun U hU hW => ⟨rfl, by rw [hU]; exact hP, Kn.moved hK hW (by rw [hU]; exact hS)⟩⟩ rfl hn hl.1 hst (lv_room h8) hd ⟨Nat.le_refl _, Nat.le_refl _⟩) hS (fun H1 locs1 hP1 hS1 => k H1 locs1 ls hP1 hS1 hl)
theorem en_cpI_ne {M : Mm} {c d n a : Nat} (h : a ≠ d) (x : Sh) : en G (cpI M c d n) a x = en G M a x := by
  have e0 : (cpI M c d n).1 a = M.1 a := by funext b; simp [cpI, h]
  rcases x with ⟨t, n⟩ | ⟨ci, fl⟩ | rs
  · match t with
    | 0 => simp only [en, e0]
    | 1 => rfl
    | t + 2 => simp only [en, e0]
  · have e : (fun (j : Nat) (f : Fk) => fv G (cpI M c d n) a j f) = fun j f => fv G M a j f := by
      funext j f
      rcases f with _ | _ | r <;> simp only [fv, e0] <;> rfl
    simp only [en, e]
  · rfl
theorem en_cpL_ne {M : Mm} {c d n a : Nat} (h : a ≠ d) (x : Sh) : en G (cpL M c d n) a x = en G M a x := by
  have e0 : (cpL M c d n).2 a = M.2 a := by funext b; simp [cpL, h]
  rcases x with ⟨t, n⟩ | ⟨ci, fl⟩ | rs
  · match t with
    | 0 => rfl
    | 1 => simp only [en, e0]
    | t + 2 => rfl
  · have e : (fun (j : Nat) (f : Fk) => fv G (cpL M c d n) a j f) = fun j f => fv G M a j f := by
      funext j f
      rcases f with _ | _ | r <;> simp only [fv, e0] <;> rfl
    simp only [en, e]
  · rfl
def MC (own : String) (ix : Nat) : Prop := Cond.methodLink own ix arraycopyName ∈ lw_tbl ∧ Cond.native arraycopyName ∈ lw_tbl ∧ Cond.static arraycopyName ∈ lw_tbl ∧ Cond.initialized "java/lang/System" ∈ lw_tbl
theorem V.copyI (C : Cx G X cc nL own ret fr lo cw) {ix : Nat} (hF : MC own ix) {a b na nb : Nat} (ha : (gS G)[a]? = some (.inl (0, na))) (hbb : (gS G)[b]? = some (.inl (0, nb))) {n : Int32} (h3 : ¬ n < 0) (h4 : n.toNatClampNeg ≤ na) (h5 : n.toNatClampNeg ≤ nb) (hfr : 1 ≤ fr) (hlo : (st.map fun v => v.category).sum + (nativeFrameWords "java/lang/System" "arraycopy" 5 + 11) ≤ lo) (hd : decode cc pc = .ok (.invokestatic ix, 3))
    (k : V G X nL ov Mf (pc + 3) lv st (cpI M a b n.toNatClampNeg)) : V G X nL ov Mf pc lv (.int n :: .int 0 :: .ref (gA G b) :: .int 0 :: .ref (gA G a) :: st) M := by
  obtain ⟨p, l, e, R, s, m, args, below, meth, cd⟩ := X
  obtain ⟨hx, hb, hml, hr, hlk, hown, hts, hK, hR⟩ := C
  intro H locs ls hP hS hl
  subst hR
  have w : ∀ {c : Cond}, c ∈ lw_tbl → goodWord c = true → c.before args s = true := fun h1 h2 => hts _ (List.mem_cons_of_mem _ (bg_of h1 h2))
  refine va_copyi hx hb (hml.trans hl.1.symm) hown (w hF.1 rfl) (w hF.2.1 rfl) (w hF.2.2.1 rfl) (w hF.2.2.2 rfl) hK.1 hP (wl_D M hK.2.1) hS a b 0 0 (wl_at M ha) (wl_at M hbb) rfl rfl rfl (sp := 0) (dp := 0) (by decide) (by decide) h3 (by rw [show ((0 : Int32).toNatClampNeg) = 0 from rfl]; omega) (by rw [show ((0 : Int32).toNatClampNeg) = 0 from rfl]; omega) (fun _ _ => rfl) hfr hlo hd (fun H1 locs1 hP1 _ hS1 => ?_)
  have e := wl_set (M := M) (M' := cpI M a b n.toNatClampNeg) hbb (fun a y h => en_cpI_ne h y)
  have e2 : (cpI M a b n.toNatClampNeg).1 b = va_cpy (M.1 a) (M.1 b) (0 : Int32).toNatClampNeg (0 : Int32).toNatClampNeg n.toNatClampNeg := by
    funext j
    rw [show ((0 : Int32).toNatClampNeg) = 0 from rfl]
    simp [cpI, va_cpy]
  simp only [en, e2] at e
  rw [e] at hP1
  exact k H1 locs1 ls hP1 hS1 hl
theorem V.copyL (C : Cx G X cc nL own ret fr lo cw) {ix : Nat} (hF : MC own ix) {a b na nb : Nat} (ha : (gS G)[a]? = some (.inl (1, na))) (hbb : (gS G)[b]? = some (.inl (1, nb))) {n : Int32} (h3 : ¬ n < 0) (h4 : n.toNatClampNeg ≤ na) (h5 : n.toNatClampNeg ≤ nb) (hfr : 1 ≤ fr) (hlo : (st.map fun v => v.category).sum + (nativeFrameWords "java/lang/System" "arraycopy" 5 + 11) ≤ lo) (hd : decode cc pc = .ok (.invokestatic ix, 3))
    (k : V G X nL ov Mf (pc + 3) lv st (cpL M a b n.toNatClampNeg)) : V G X nL ov Mf pc lv (.int n :: .int 0 :: .ref (gA G b) :: .int 0 :: .ref (gA G a) :: st) M := by
  obtain ⟨p, l, e, R, s, m, args, below, meth, cd⟩ := X
  obtain ⟨hx, hb, hml, hr, hlk, hown, hts, hK, hR⟩ := C
  intro H locs ls hP hS hl
  subst hR
  have w : ∀ {c : Cond}, c ∈ lw_tbl → goodWord c = true → c.before args s = true := fun h1 h2 => hts _ (List.mem_cons_of_mem _ (bg_of h1 h2))
  refine va_copyl hx hb (hml.trans hl.1.symm) hown (w hF.1 rfl) (w hF.2.1 rfl) (w hF.2.2.1 rfl) (w hF.2.2.2 rfl) hK.1 hP (wl_D M hK.2.1) hS a b 1 1 (wl_at M ha) (wl_at M hbb) rfl rfl rfl (sp := 0) (dp := 0) (by decide) (by decide) h3 (by rw [show ((0 : Int32).toNatClampNeg) = 0 from rfl]; omega) (by rw [show ((0 : Int32).toNatClampNeg) = 0 from rfl]; omega) (fun _ _ => rfl) hfr hlo hd (fun H1 locs1 hP1 _ hS1 => ?_)
  have e := wl_set (M := M) (M' := cpL M a b n.toNatClampNeg) hbb (fun a y h => en_cpL_ne h y)
  have e2 : (cpL M a b n.toNatClampNeg).2 b = va_cpy (M.2 a) (M.2 b) (0 : Int32).toNatClampNeg (0 : Int32).toNatClampNeg n.toNatClampNeg := by
    funext j
    rw [show ((0 : Int32).toNatClampNeg) = 0 from rfl]
    simp [cpL, va_cpy]
  simp only [en, e2] at e
  rw [e] at hP1
  exact k H1 locs1 ls hP1 hS1 hl
theorem V.getLk (C : Cx G X cc nL RX2 ret fr lo cw) {ix : Nat} (hw : Cond.fieldLink RX2 ix RX2 "LACKING" "[J" ∈ lw_tbl) (hd : decode cc pc = .ok (.getstatic ix, 3)) (k : V G X nL ov Mf (pc + 3) lv (.ref (gL G) :: st) M) : V G X nL ov Mf pc lv st M := by
  obtain ⟨p, l, e, R, s, m, args, below, meth, cd⟩ := X
  obtain ⟨hx, hb, hml, hr, hlk, hown, hts, hK, hR⟩ := C
  intro H locs ls hP hS hl
  exact va_gets hx hb hK.2.2.2.1 hS hown (hts _ (List.mem_cons_of_mem _ (bg_of hw rfl))) (fun _ h => h) hd (k H locs ls hP hS hl)
theorem V.ldLk (C : Cx G X cc nL own ret fr lo cw) {i : Int32} (hi : vp_in i 6) (hd : decode cc pc = .ok (.laload, 1)) (k : V G X nL ov Mf (pc + 1) lv (.long (lkF i.toNatClampNeg) :: st) M) : V G X nL ov Mf pc lv (.int i :: .ref (gL G) :: st) M := by
  obtain ⟨p, l, e, R, s, m, args, below, meth, cd⟩ := X
  obtain ⟨hx, hb, hml, hr, hlk, hown, hts, hK, hR⟩ := C
  intro H locs ls hP hS hl
  obtain ⟨cell, c1, c2, c3, c4, c5⟩ := hK.2.2.2.2.1
  have c1' : H[gL G]? = some cell := by
    rw [hS.2.1 _ (Array.getElem?_eq_some_iff.mp c1).1 hK.2.2.2.2.2]
    exact c1
  have hlt : i.toNatClampNeg < 6 := Nat.not_le.mp fun q => hi (Or.inr q)
  exact W.lald hx hb c1' c2 c3 (by rw [c4]; exact hi) (c5 _ hlt) rfl rfl hd (k H locs ls hP hS hl)
end VR3
