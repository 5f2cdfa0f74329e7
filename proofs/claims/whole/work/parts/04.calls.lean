theorem Kn.call {G : Rg} {U : State} {H : Heap} (g : JFrame) (mk : MethodId) (a : Array Value) (h : Kn G U H) : Kn G (U.calling g mk a) H := by
  obtain ⟨h1, h2, h3, h4, ⟨cell, c1, c2, c3⟩, h6⟩ := h
  exact ⟨va_K.moved (u := U) (U := U.calling g mk a) (Vm.Alike.refl U.vm) h1, h2, va_Nw.same rfl rfl h3, va_Z.moved (u := U) (U := U.calling g mk a) (Vm.Alike.refl U.vm) h4, ⟨cell, c1, State.isArrayOf_alike (s := U) (T := U.calling g mk a) (Vm.Alike.refl U.vm) c2, c3⟩, h6⟩
theorem vP_blind (G : Rg) (av : List Value) (M : Mm) : FrameBlind (vP G av M) := by
  intro a U g mk ⟨q0, qP, qK⟩
  exact ⟨q0, qP, qK.call g mk a⟩
/-- what is fixed of a method that is called on an object, and of a static one -/
def MF (y : MethodName) (cc : ByteArray) (nL : Nat) (ret : Option FieldType) (n : Nat) : Prop := Cond.code y cc nL ret ∈ lw_tbl ∧ Cond.instanceMethod y ∈ lw_tbl ∧ Cond.selects y.cls y y ∈ lw_tbl ∧ Cond.initialized y.cls ∈ lw_tbl ∧ (y.cls ≠ "java/lang/invoke/MethodHandle" ∧ y.cls ≠ "java/lang/invoke/VarHandle" ∧ (parseMethodDescriptor y.desc).map (fun d => d.parameters.length) = some n)
def MS (y : MethodName) (cc : ByteArray) (nL : Nat) (ret : Option FieldType) (n : Nat) : Prop := Cond.code y cc nL ret ∈ lw_tbl ∧ Cond.static y ∈ lw_tbl ∧ Cond.initialized y.cls ∈ lw_tbl ∧ (y.cls ≠ "java/lang/invoke/MethodHandle" ∧ y.cls ≠ "java/lang/invoke/VarHandle" ∧ (parseMethodDescriptor y.desc).map (fun d => d.parameters.length) = some n)
section VC
variable {G : Rg} {p : Program} {l : Launch} {e : Env} {R : Room} {s : State} {m : MethodId} {args : Array Value} {below : List Frame} {meth : Method} {c : Code} {H : Heap} {locs : List Loc} {Q : State → Prop}
theorem vc_go {ovc : Option Value} {M1 : Mm} {pc : Nat} {ls : Array Slot} {st0 rest : List Value} {a : Array Value}
    (hr : va_Run p l e R s m args below meth c H locs 0 0 0 0 (F0 m pc ls st0) rest (vQ G ovc M1 a) (Ar G)) (hS : va_S (Ar G) s.heap H locs)
    (k : ∀ (H1 : Heap) (locs1 : List Loc), Rp G M1 H1 → va_S (Ar G) s.heap H1 locs1 → W p l e R s m args below meth c H1 locs1 0 0 Q (F0 m (pc + 3) ls (ovc.toList ++ rest))) : W p l e R s m args below meth c H locs 0 0 Q (F0 m pc ls st0) := by
  intro T hT X
  obtain ⟨v, st₀, t, T', L, h0, X', hL, e1, e2, ⟨hv, hP1, hz, hk⟩, st⟩ := hr T hT X
  cases hv
  rw [h0] at hz hk
  obtain ⟨t2, a1, b1⟩ := k T'.heap (locs ++ L) (by rw [e1]; exact hP1)
    ⟨Nat.le_trans hS.1 (by rw [e1]; exact hz), fun q h1 h2 => by rw [e1, hk q (Nat.lt_of_lt_of_le h1 hS.1) h2]; exact hS.2.1 q h1 h2, fun q hq => by
      rcases List.mem_append.mp hq with h | h
      · exact hS.2.2 q h
      · exact hL q h⟩ T' rfl X'
  exact ⟨t2, st t2 a1, b1⟩
end VC
section VR3
variable {G : Rg} {X : Ct} {cc : ByteArray} {nL fr lo : Nat} {own : String} {ret : Option FieldType} {cw : Cond} {ov : Option Value} {Mf M : Mm} {pc : Nat} {lv lv' : List (Nat × Value)} {st : List Value}
theorem V.callV (C : Cx G X cc nL own ret fr lo cw) {y : MethodName} {cy : ByteArray} {ny fy ly n : Nat} {ry : Option FieldType} {As rest : List Value} {a : Nat} {ovc : Option Value} {M1 : Mm} (hM : Mt X.2.1 G y cy ny ry fy ly (.ref (gA G a) :: As) M ovc M1) (hF : MF y cy ny ry n) {ci : Nat} {T : u_T} {N : Nat} (hcl : vwCl[ci]? = some (y.cls, T, N)) {fl : List Fk} (hc : (gS G)[a]? = some (.inr (.inl (ci, fl)))) {ix : Nat} (hw : Cond.methodLink own ix y ∈ lw_tbl)
    (hst : st = As.reverse ++ .ref (gA G a) :: rest) (hn : As.length = n) (hroom : fy + 1 ≤ fr ∧ 8 + (ny + 11) + ly ≤ lo) (h8 : (rest.map fun v => v.category).sum ≤ 8) (hd : decode cc pc = .ok (.invokevirtual ix, 3)) (k : V G X nL ov Mf (pc + 3) lv (ovc.toList ++ rest) M1) : V G X nL ov Mf pc lv st M := by
  obtain ⟨p, l, e, R, s, m, args, below, meth, cd⟩ := X
  obtain ⟨hx, hb, hml, hr, hlk, hown, hts, hK, hR⟩ := C
  intro H locs ls hP hS hl
  subst hR
  obtain ⟨f1, f2, f3, f4, f5⟩ := hF
  have hG : GoodIn (cw :: bg) (wsV own ix y.cls y (Cond.code y cy ny ry :: bg)) := bg_GoodIn f1 [.methodLink own ix y, .instanceMethod y, .selects y.cls y y, .initialized y.cls] (by
    intro w h
    simp only [List.mem_cons, List.not_mem_nil, or_false] at h
    rcases h with rfl | rfl | rfl | rfl
    · exact bg_of hw rfl
    · exact bg_of f2 rfl
    · exact bg_of f3 rfl
    · exact bg_of f4 rfl)
  refine vc_go (va_runV (As := As) (rest := rest) (g := F0 m pc ls st) ⟨hx, hb, hml, hown, hts⟩ hM (cwV (R := ({ frames := fr, cells := 0, slots := 0, locals := lo } : Room)) n hts hG rfl rfl rfl ⟨rfl, f5⟩ hroom) ⟨vP_blind _ _ _, va_recv hK.1 hP hcl (wl_at M hc), fun U hU hW => ⟨rfl, by rw [hU]; exact hP, Kn.moved hK hW (by rw [hU]; exact hS)⟩⟩ rfl hn hl.1 hst (lv_room h8) hd ⟨Nat.le_refl _, Nat.le_refl _⟩) hS (fun H1 locs1 hP1 hS1 => k H1 locs1 ls hP1 hS1 hl)
theorem V.callS (C : Cx G X cc nL own ret fr lo cw) {y : MethodName} {cy : ByteArray} {ny fy ly n : Nat} {ry : Option FieldType} {As rest : List Value} {ovc : Option Value} {M1 : Mm} (hM : Mt X.2.1 G y cy ny ry fy ly As M ovc M1) (hF : MS y cy ny ry n) {ix : Nat} (hw : Cond.methodLink own ix y ∈ lw_tbl)
    (hst : st = As.reverse ++ rest) (hn : As.length = n) (hroom : fy + 1 ≤ fr ∧ 8 + (ny + 11) + ly ≤ lo) (h8 : (rest.map fun v => v.category).sum ≤ 8) (hd : decode cc pc = .ok (.invokestatic ix, 3)) (k : V G X nL ov Mf (pc + 3) lv (ovc.toList ++ rest) M1) : V G X nL ov Mf pc lv st M := by
  obtain ⟨p, l, e, R, s, m, args, below, meth, cd⟩ := X
  obtain ⟨hx, hb, hml, hr, hlk, hown, hts, hK, hR⟩ := C
  intro H locs ls hP hS hl
  subst hR
  obtain ⟨f1, f2, f4, f5⟩ := hF
  have hG : GoodIn (cw :: bg) (va_wsS own ix y (Cond.code y cy ny ry :: bg)) := bg_GoodIn f1 [.methodLink own ix y, .static y, .initialized y.cls] (by
    intro w h
    simp only [List.mem_cons, List.not_mem_nil, or_false] at h
    rcases h with rfl | rfl | rfl
    · exact bg_of hw rfl
    · exact bg_of f2 rfl
    · exact bg_of f4 rfl)
  refine vc_go (va_runS (As := As) (rest := rest) (g := F0 m pc ls st) ⟨hx, hb, hml, hown, hts⟩ hM (va_cwS (R := ({ frames := fr, cells := 0, slots := 0, locals := lo } : Room)) n hts hG rfl rfl rfl f5 hroom) ⟨vP_blind _ _ _, fun U hU hW => ⟨rfl, by rw [hU]; exact hP, Kn.moved hK hW (by rw [hU]; exact hS)⟩⟩ rfl hn hl.1 hst (lv_room h8) hd ⟨Nat.le_refl _, Nat.le_refl _⟩) hS (fun H1 locs1 hP1 hS1 => k H1 locs1 ls hP1 hS1 hl)
/-- the one call of a nest mate's private static method -/
theorem V.callN (C : Cx G X cc nL RX4 ret fr lo cw) {cy : ByteArray} {ny fy ly n : Nat} {ry : Option FieldType} {As rest : List Value} {ovc : Option Value} {M1 : Mm} (hM : Mt X.2.1 G yX8_isWithin cy ny ry fy ly As M ovc M1) (hF : MS yX8_isWithin cy ny ry n)
    (hst : st = As.reverse ++ rest) (hn : As.length = n) (hroom : fy + 1 ≤ fr ∧ 8 + (ny + 11) + ly ≤ lo) (h8 : (rest.map fun v => v.category).sum ≤ 8) (hd : decode cc pc = .ok (.invokestatic 30, 3)) (k : V G X nL ov Mf (pc + 3) lv (ovc.toList ++ rest) M1) : V G X nL ov Mf pc lv st M := by
  obtain ⟨p, l, e, R, s, m, args, below, meth, cd⟩ := X
  obtain ⟨hx, hb, hml, hr, hlk, hown, hts, hK, hR⟩ := C
  intro H locs ls hP hS hl
  subst hR
  obtain ⟨f1, f2, f4, f5⟩ := hF
  have hG : GoodIn (cw :: bg) (Cond.code yX8_isWithin cy ny ry :: bg) := bg_GoodIn f1 [] (by simp)
  have h1 := hts _ (List.mem_cons_of_mem _ (bg_of f4 rfl))
  have h2 := hts _ (List.mem_cons_of_mem _ (bg_of f2 rfl))
  refine vc_go (va_runSN (As := As) (rest := rest) (g := F0 m pc ls st) ⟨hx, hb, hml, hown, hts⟩ hM ⟨va_cnB (R := ({ frames := fr, cells := 0, slots := 0, locals := lo } : Room)) n hts hG rfl rfl rfl hK.2.2.1 h1 f5 hroom, h2, trivial⟩ ⟨vP_blind _ _ _, fun U hU hW => ⟨rfl, by rw [hU]; exact hP, Kn.moved hK hW (by rw [hU]; exact hS)⟩⟩ rfl hn hl.1 hst (lv_room h8) hd ⟨Nat.le_refl _, Nat.le_refl _⟩) hS (fun H1 locs1 hP1 hS1 => k H1 locs1 ls hP1 hS1 hl)
theorem en_cpI_ne {M : Mm} {c d n a : Nat} (h : a ≠ d) (x : Sh) : en G (cpI M c d n) a x = en G M a x := by
  have e0 : (cpI M c d n).1 a = M.1 a := by funext b; simp [cpI, h]
  rcases x with ⟨t, n⟩ | ⟨ci, fl⟩ | rs
  · match t with
    | 0 => simp only [en, e0]
    | 1 => rfl
    | t + 2 => simp only [en, e0]
  · have e : (fun (j : Nat) (f : Fk) => fv G (cpI M c d n) a j f) = fun j f => fv G M a j f := by
      funext j f
      rcases f with _ | _ | _ | r <;> simp only [fv, e0] <;> rfl
    simp only [en, e]
  · rfl
theorem en_cpL_ne {M : Mm} {c d n a : Nat} (h : a ≠ d) (x : Sh) : en G (cpL M c d n) a x = en G M a x := by
  have e0 : (cpL M c d n).2 a = M.2 a := by funext b; simp [cpL, h]
  rcases x with ⟨t, n⟩ | ⟨ci, fl⟩ | rs
  · match t with
    | 0 => rfl
    | 1 => simp only [en, e0]
    | t + 2 => rfl
  · have e : (fun (j : Nat) (f : Fk) => fv G (cpL M c d n) a j f) = fun j f => fv G M a j f := by
      funext j f
      rcases f with _ | _ | _ | r <;> simp only [fv, e0] <;> rfl
    simp only [en, e]
  · rfl
def MC (own : String) (ix : Nat) : Prop := Cond.methodLink own ix arraycopyName ∈ lw_tbl ∧ Cond.native arraycopyName ∈ lw_tbl ∧ Cond.static arraycopyName ∈ lw_tbl ∧ Cond.initialized "java/lang/System" ∈ lw_tbl
theorem V.copyI (C : Cx G X cc nL own ret fr lo cw) {ix : Nat} (hF : MC own ix) {a b na nb : Nat} (ha : (gS G)[a]? = some (.inl (0, na))) (hbb : (gS G)[b]? = some (.inl (0, nb))) {n : Int32} (h3 : ¬ n < 0) (h4 : n.toNatClampNeg ≤ na) (h5 : n.toNatClampNeg ≤ nb) (hfr : 1 ≤ fr) (hlo : (st.map fun v => v.category).sum + (nativeFrameWords "java/lang/System" "arraycopy" 5 + 11) ≤ lo) (hd : decode cc pc = .ok (.invokestatic ix, 3))
    (k : V G X nL ov Mf (pc + 3) lv st (cpI M a b n.toNatClampNeg)) : V G X nL ov Mf pc lv (.int n :: .int 0 :: .ref (gA G b) :: .int 0 :: .ref (gA G a) :: st) M := by
  obtain ⟨p, l, e, R, s, m, args, below, meth, cd⟩ := X
  obtain ⟨hx, hb, hml, hr, hlk, hown, hts, hK, hR⟩ := C
  intro H locs ls hP hS hl
  subst hR
  have w : ∀ {c : Cond}, c ∈ lw_tbl → goodWord c = true → c.before args s = true := fun h1 h2 => hts _ (List.mem_cons_of_mem _ (bg_of h1 h2))
  refine va_copyi hx hb (hml.trans hl.1.symm) hown (w hF.1 rfl) (w hF.2.1 rfl) (w hF.2.2.1 rfl) (w hF.2.2.2 rfl) hK.1 hP (wl_D M hK.2.1) hS a b 0 0 (wl_at M ha) (wl_at M hbb) rfl rfl rfl (sp := 0) (dp := 0) (by decide) (by decide) h3 (by rw [show ((0 : Int32).toNatClampNeg) = 0 from rfl]; omega) (by rw [show ((0 : Int32).toNatClampNeg) = 0 from rfl]; omega) (fun _ _ => rfl) hfr hlo hd (fun H1 locs1 hP1 _ hS1 => ?_)
  have e := wl_set (M := M) (M' := cpI M a b n.toNatClampNeg) hbb (fun a y h => en_cpI_ne h y)
  have e2 : (cpI M a b n.toNatClampNeg).1 b = va_cpy (M.1 a) (M.1 b) (0 : Int32).toNatClampNeg (0 : Int32).toNatClampNeg n.toNatClampNeg := by
    funext j
    rw [show ((0 : Int32).toNatClampNeg) = 0 from rfl]
    simp [cpI, va_cpy]
  simp only [en, e2] at e
  rw [e] at hP1
  exact k H1 locs1 ls hP1 hS1 hl
theorem V.copyL (C : Cx G X cc nL own ret fr lo cw) {ix : Nat} (hF : MC own ix) {a b na nb : Nat} (ha : (gS G)[a]? = some (.inl (1, na))) (hbb : (gS G)[b]? = some (.inl (1, nb))) {n : Int32} (h3 : ¬ n < 0) (h4 : n.toNatClampNeg ≤ na) (h5 : n.toNatClampNeg ≤ nb) (hfr : 1 ≤ fr) (hlo : (st.map fun v => v.category).sum + (nativeFrameWords "java/lang/System" "arraycopy" 5 + 11) ≤ lo) (hd : decode cc pc = .ok (.invokestatic ix, 3))
    (k : V G X nL ov Mf (pc + 3) lv st (cpL M a b n.toNatClampNeg)) : V G X nL ov Mf pc lv (.int n :: .int 0 :: .ref (gA G b) :: .int 0 :: .ref (gA G a) :: st) M := by
  obtain ⟨p, l, e, R, s, m, args, below, meth, cd⟩ := X
  obtain ⟨hx, hb, hml, hr, hlk, hown, hts, hK, hR⟩ := C
  intro H locs ls hP hS hl
  subst hR
  have w : ∀ {c : Cond}, c ∈ lw_tbl → goodWord c = true → c.before args s = true := fun h1 h2 => hts _ (List.mem_cons_of_mem _ (bg_of h1 h2))
  refine va_copyl hx hb (hml.trans hl.1.symm) hown (w hF.1 rfl) (w hF.2.1 rfl) (w hF.2.2.1 rfl) (w hF.2.2.2 rfl) hK.1 hP (wl_D M hK.2.1) hS a b 1 1 (wl_at M ha) (wl_at M hbb) rfl rfl rfl (sp := 0) (dp := 0) (by decide) (by decide) h3 (by rw [show ((0 : Int32).toNatClampNeg) = 0 from rfl]; omega) (by rw [show ((0 : Int32).toNatClampNeg) = 0 from rfl]; omega) (fun _ _ => rfl) hfr hlo hd (fun H1 locs1 hP1 _ hS1 => ?_)
  have e := wl_set (M := M) (M' := cpL M a b n.toNatClampNeg) hbb (fun a y h => en_cpL_ne h y)
  have e2 : (cpL M a b n.toNatClampNeg).2 b = va_cpy (M.2 a) (M.2 b) (0 : Int32).toNatClampNeg (0 : Int32).toNatClampNeg n.toNatClampNeg := by
    funext j
    rw [show ((0 : Int32).toNatClampNeg) = 0 from rfl]
    simp [cpL, va_cpy]
  simp only [en, e2] at e
  rw [e] at hP1
  exact k H1 locs1 ls hP1 hS1 hl
theorem V.getLk (C : Cx G X cc nL RX2 ret fr lo cw) {ix : Nat} (hw : Cond.fieldLink RX2 ix RX2 "LACKING" "[J" ∈ lw_tbl) (hd : decode cc pc = .ok (.getstatic ix, 3)) (k : V G X nL ov Mf (pc + 3) lv (.ref (gL G) :: st) M) : V G X nL ov Mf pc lv st M := by
  obtain ⟨p, l, e, R, s, m, args, below, meth, cd⟩ := X
  obtain ⟨hx, hb, hml, hr, hlk, hown, hts, hK, hR⟩ := C
  intro H locs ls hP hS hl
  exact va_gets hx hb hK.2.2.2.1 hS hown (hts _ (List.mem_cons_of_mem _ (bg_of hw rfl))) (fun _ h => h) hd (k H locs ls hP hS hl)
theorem V.ldLk (C : Cx G X cc nL own ret fr lo cw) {i : Int32} (hi : vp_in i 6) (hd : decode cc pc = .ok (.laload, 1)) (k : V G X nL ov Mf (pc + 1) lv (.long (lkF i.toNatClampNeg) :: st) M) : V G X nL ov Mf pc lv (.int i :: .ref (gL G) :: st) M := by
  obtain ⟨p, l, e, R, s, m, args, below, meth, cd⟩ := X
  obtain ⟨hx, hb, hml, hr, hlk, hown, hts, hK, hR⟩ := C
  intro H locs ls hP hS hl
  obtain ⟨cell, c1, c2, c3, c4, c5⟩ := hK.2.2.2.2.1
  have c1' : H[gL G]? = some cell := by
    rw [hS.2.1 _ (Array.getElem?_eq_some_iff.mp c1).1 hK.2.2.2.2.2]
    exact c1
  have hlt : i.toNatClampNeg < 6 := Nat.not_le.mp fun q => hi (Or.inr q)
  exact W.lald hx hb c1' c2 c3 (fun q => q.elim (fun z => hi (Or.inl z)) (fun z => by omega)) (c5 _ hlt) rfl rfl hd (k H locs ls hP hS hl)
end VR3
/-! the mirrored functions' own words -/
def gd {α : Type} (b : Bool) (x : Option α) : Option α := if b = true then x else none
def bd {α β : Type} (x : Option (α × Mm)) (f : α → Mm → Option β) : Option β := match x with
  | none => none
  | some q => f q.1 q.2
def lt_ {α β : Type} (x : α) (f : α → β) : β := f x
def inb (i : Int32) (n : Nat) : Bool := decide (0 ≤ i) && decide (i.toNatClampNeg < n)
def fu : Nat := 5000
theorem gd_some {α : Type} {b : Bool} {x : Option α} {t : α} (h : gd b x = some t) : b = true ∧ x = some t := by
  unfold gd at h
  split at h
  · exact ⟨by assumption, h⟩
  · cases h
theorem bd_some {α β : Type} {x : Option (α × Mm)} {f : α → Mm → Option β} {t : β} (h : bd x f = some t) : ∃ a M, x = some (a, M) ∧ f a M = some t := by
  cases x with
  | none => cases h
  | some q => exact ⟨q.1, q.2, rfl, h⟩
theorem lt_some {α β : Type} {x : α} {f : α → β} {t : β} (h : lt_ x f = t) : ∃ v, v = x ∧ f v = t := ⟨x, rfl, h⟩
theorem it_some {α : Type} {p : Prop} [Decidable p] {a b t : α} (h : (if p then a else b) = t) : (p ∧ a = t) ∨ (¬ p ∧ b = t) := by
  by_cases hp : p
  · rw [if_pos hp] at h; exact Or.inl ⟨hp, h⟩
  · rw [if_neg hp] at h; exact Or.inr ⟨hp, h⟩
theorem inb_in {i : Int32} {n : Nat} (h : inb i n = true) : vp_in i n := by
  simp only [inb, Bool.and_eq_true, decide_eq_true_eq] at h
  intro q
  rcases q with q | q
  · exact absurd q (Int32.not_lt.mpr h.1)
  · omega
theorem dec_some {p : Prop} [Decidable p] (h : decide p = true) : p := of_decide_eq_true h
def isB (G : Rg) (c : Nat) : Prop := (gS G)[c]? = some (.inr (.inl (0, [none, none, none, none, some (some (some (c + 1))), some (some (some (c + 2))), some (some (some (c + 3))), some (some (some (c + 4)))]))) ∧ (gS G)[c + 1]? = some (.inl (0, 12)) ∧ (gS G)[c + 2]? = some (.inl (0, 12)) ∧ (gS G)[c + 3]? = some (.inl (0, 6)) ∧ (gS G)[c + 4]? = some (.inl (0, 8))
section VR4
variable {G : Rg} {X : Ct} {cc : ByteArray} {nL fr lo : Nat} {own : String} {ret : Option FieldType} {cw : Cond} {ov : Option Value} {Mf M : Mm} {pc : Nat} {lv lv' : List (Nat × Value)} {st : List Value}
theorem V.retI (C : Cx G X cc nL own (some .int) fr lo cw) {v r : Int32} (hf : (some (v, M) : Option (Int32 × Mm)) = some (r, Mf)) (hd : decode cc pc = .ok (.ireturn, 1)) : V G X nL (some (.int r)) Mf pc lv [.int v] M := by
  cases hf
  exact V.iret C rfl rfl hd
theorem V.retZ (C : Cx G X cc nL own (some .boolean) fr lo cw) {v r : Int32} (hz : v = 0 ∨ v = 1) (hf : (some (v, M) : Option (Int32 × Mm)) = some (r, Mf)) (hd : decode cc pc = .ok (.ireturn, 1)) : V G X nL (some (.int r)) Mf pc lv [.int v] M := by
  cases hf
  exact V.zret C hz rfl rfl hd
theorem V.retL (C : Cx G X cc nL own (some .long) fr lo cw) {v r : Int64} (hf : (some (v, M) : Option (Int64 × Mm)) = some (r, Mf)) (hd : decode cc pc = .ok (.lreturn, 1)) : V G X nL (some (.long r)) Mf pc lv [.long v] M := by
  cases hf
  exact V.lret C rfl rfl hd
theorem V.retV (C : Cx G X cc nL own none fr lo cw) {u r : Unit} (hf : (some (u, M) : Option (Unit × Mm)) = some (r, Mf)) (hd : decode cc pc = .ok (.return_, 1)) : V G X nL none Mf pc lv [] M := by
  cases hf
  exact V.vret C rfl rfl hd
theorem V.callVi (C : Cx G X cc nL own ret fr lo cw) {y : MethodName} {cy : ByteArray} {ny fy ly n : Nat} {ry : Option FieldType} {As rest : List Value} {a : Nat} {r : Int32} {M1 : Mm} (hM : Mt X.2.1 G y cy ny ry fy ly (.ref (gA G a) :: As) M (some (.int r)) M1) (hF : MF y cy ny ry n) {ci : Nat} {T : u_T} {N : Nat} (hcl : vwCl[ci]? = some (y.cls, T, N)) {fl : List Fk} (hc : (gS G)[a]? = some (.inr (.inl (ci, fl)))) {ix : Nat} (hw : Cond.methodLink own ix y ∈ lw_tbl)
    (hst : st = As.reverse ++ .ref (gA G a) :: rest) (hn : As.length = n) (hroom : fy + 1 ≤ fr ∧ 8 + (ny + 11) + ly ≤ lo) (h8 : (rest.map fun v => v.category).sum ≤ 8) (hd : decode cc pc = .ok (.invokevirtual ix, 3)) (k : V G X nL ov Mf (pc + 3) lv (.int r :: rest) M1) : V G X nL ov Mf pc lv st M := V.callV C hM hF hcl hc hw hst hn hroom h8 hd k
theorem V.callVl (C : Cx G X cc nL own ret fr lo cw) {y : MethodName} {cy : ByteArray} {ny fy ly n : Nat} {ry : Option FieldType} {As rest : List Value} {a : Nat} {r : Int64} {M1 : Mm} (hM : Mt X.2.1 G y cy ny ry fy ly (.ref (gA G a) :: As) M (some (.long r)) M1) (hF : MF y cy ny ry n) {ci : Nat} {T : u_T} {N : Nat} (hcl : vwCl[ci]? = some (y.cls, T, N)) {fl : List Fk} (hc : (gS G)[a]? = some (.inr (.inl (ci, fl)))) {ix : Nat} (hw : Cond.methodLink own ix y ∈ lw_tbl)
    (hst : st = As.reverse ++ .ref (gA G a) :: rest) (hn : As.length = n) (hroom : fy + 1 ≤ fr ∧ 8 + (ny + 11) + ly ≤ lo) (h8 : (rest.map fun v => v.category).sum ≤ 8) (hd : decode cc pc = .ok (.invokevirtual ix, 3)) (k : V G X nL ov Mf (pc + 3) lv (.long r :: rest) M1) : V G X nL ov Mf pc lv st M := V.callV C hM hF hcl hc hw hst hn hroom h8 hd k
theorem V.callVv (C : Cx G X cc nL own ret fr lo cw) {y : MethodName} {cy : ByteArray} {ny fy ly n : Nat} {ry : Option FieldType} {As rest : List Value} {a : Nat} {M1 : Mm} (hM : Mt X.2.1 G y cy ny ry fy ly (.ref (gA G a) :: As) M none M1) (hF : MF y cy ny ry n) {ci : Nat} {T : u_T} {N : Nat} (hcl : vwCl[ci]? = some (y.cls, T, N)) {fl : List Fk} (hc : (gS G)[a]? = some (.inr (.inl (ci, fl)))) {ix : Nat} (hw : Cond.methodLink own ix y ∈ lw_tbl)
    (hst : st = As.reverse ++ .ref (gA G a) :: rest) (hn : As.length = n) (hroom : fy + 1 ≤ fr ∧ 8 + (ny + 11) + ly ≤ lo) (h8 : (rest.map fun v => v.category).sum ≤ 8) (hd : decode cc pc = .ok (.invokevirtual ix, 3)) (k : V G X nL ov Mf (pc + 3) lv rest M1) : V G X nL ov Mf pc lv st M := V.callV C hM hF hcl hc hw hst hn hroom h8 hd k
theorem V.callSi (C : Cx G X cc nL own ret fr lo cw) {y : MethodName} {cy : ByteArray} {ny fy ly n : Nat} {ry : Option FieldType} {As rest : List Value} {r : Int32} {M1 : Mm} (hM : Mt X.2.1 G y cy ny ry fy ly As M (some (.int r)) M1) (hF : MS y cy ny ry n) {ix : Nat} (hw : Cond.methodLink own ix y ∈ lw_tbl)
    (hst : st = As.reverse ++ rest) (hn : As.length = n) (hroom : fy + 1 ≤ fr ∧ 8 + (ny + 11) + ly ≤ lo) (h8 : (rest.map fun v => v.category).sum ≤ 8) (hd : decode cc pc = .ok (.invokestatic ix, 3)) (k : V G X nL ov Mf (pc + 3) lv (.int r :: rest) M1) : V G X nL ov Mf pc lv st M := V.callS C hM hF hw hst hn hroom h8 hd k
theorem V.callSl (C : Cx G X cc nL own ret fr lo cw) {y : MethodName} {cy : ByteArray} {ny fy ly n : Nat} {ry : Option FieldType} {As rest : List Value} {r : Int64} {M1 : Mm} (hM : Mt X.2.1 G y cy ny ry fy ly As M (some (.long r)) M1) (hF : MS y cy ny ry n) {ix : Nat} (hw : Cond.methodLink own ix y ∈ lw_tbl)
    (hst : st = As.reverse ++ rest) (hn : As.length = n) (hroom : fy + 1 ≤ fr ∧ 8 + (ny + 11) + ly ≤ lo) (h8 : (rest.map fun v => v.category).sum ≤ 8) (hd : decode cc pc = .ok (.invokestatic ix, 3)) (k : V G X nL ov Mf (pc + 3) lv (.long r :: rest) M1) : V G X nL ov Mf pc lv st M := V.callS C hM hF hw hst hn hroom h8 hd k
theorem V.callSv (C : Cx G X cc nL own ret fr lo cw) {y : MethodName} {cy : ByteArray} {ny fy ly n : Nat} {ry : Option FieldType} {As rest : List Value} {M1 : Mm} (hM : Mt X.2.1 G y cy ny ry fy ly As M none M1) (hF : MS y cy ny ry n) {ix : Nat} (hw : Cond.methodLink own ix y ∈ lw_tbl)
    (hst : st = As.reverse ++ rest) (hn : As.length = n) (hroom : fy + 1 ≤ fr ∧ 8 + (ny + 11) + ly ≤ lo) (h8 : (rest.map fun v => v.category).sum ≤ 8) (hd : decode cc pc = .ok (.invokestatic ix, 3)) (k : V G X nL ov Mf (pc + 3) lv rest M1) : V G X nL ov Mf pc lv st M := V.callS C hM hF hw hst hn hroom h8 hd k
theorem V.callNi (C : Cx G X cc nL RX4 ret fr lo cw) {cy : ByteArray} {ny fy ly n : Nat} {ry : Option FieldType} {As rest : List Value} {r : Int32} {M1 : Mm} (hM : Mt X.2.1 G yX8_isWithin cy ny ry fy ly As M (some (.int r)) M1) (hF : MS yX8_isWithin cy ny ry n)
    (hst : st = As.reverse ++ rest) (hn : As.length = n) (hroom : fy + 1 ≤ fr ∧ 8 + (ny + 11) + ly ≤ lo) (h8 : (rest.map fun v => v.category).sum ≤ 8) (hd : decode cc pc = .ok (.invokestatic 30, 3)) (k : V G X nL ov Mf (pc + 3) lv (.int r :: rest) M1) : V G X nL ov Mf pc lv st M := V.callN C hM hF hst hn hroom h8 hd k
theorem V.nmI (C : Cx G X cc nL own ret fr lo cw) {v x : Int32} (h : v = x) (k : V G X nL ov Mf pc lv (.int v :: st) M) : V G X nL ov Mf pc lv (.int x :: st) M := h ▸ k
end VR4
theorem ne_toInt {x k : Int32} (h : ¬ x = k) : ¬ x.toInt = k.toInt := fun q => h (Int32.toInt_inj.mp q)
theorem sw3 {x : Int32} (h0 : ¬ x = 0) (h1 : ¬ x = 1) (h2 : ¬ x = 2) : x.toInt < 0 ∨ 2 < x.toInt := by
  have a0 : ¬ x.toInt = 0 := ne_toInt h0
  have a1 : ¬ x.toInt = 1 := ne_toInt h1
  have a2 : ¬ x.toInt = 2 := ne_toInt h2
  omega
theorem sw4 {x : Int32} (h0 : ¬ x = 0) (h1 : ¬ x = 1) (h2 : ¬ x = 2) (h3 : ¬ x = 3) : x.toInt < 0 ∨ 3 < x.toInt := by
  have a0 : ¬ x.toInt = 0 := ne_toInt h0
  have a1 : ¬ x.toInt = 1 := ne_toInt h1
  have a2 : ¬ x.toInt = 2 := ne_toInt h2
  have a3 : ¬ x.toInt = 3 := ne_toInt h3
  omega
theorem sw6 {x : Int32} (h0 : ¬ x = 0) (h1 : ¬ x = 1) (h2 : ¬ x = 2) (h3 : ¬ x = 3) (h4 : ¬ x = 4) (h5 : ¬ x = 5) : x.toInt < 0 ∨ 5 < x.toInt := by
  have a0 : ¬ x.toInt = 0 := ne_toInt h0
  have a1 : ¬ x.toInt = 1 := ne_toInt h1
  have a2 : ¬ x.toInt = 2 := ne_toInt h2
  have a3 : ¬ x.toInt = 3 := ne_toInt h3
  have a4 : ¬ x.toInt = 4 := ne_toInt h4
  have a5 : ¬ x.toInt = 5 := ne_toInt h5
  omega
def jmax (x y : Int32) : Int32 := if x < y then y else x
def jmin (x y : Int32) : Int32 := if y < x then y else x
def jabs (x : Int32) : Int32 := if 0 ≤ x then x else 0 - x
def MMx : Prop := Cond.static Lib.Math.max.name ∈ lw_tbl ∧ Cond.initialized "java/lang/Math" ∈ lw_tbl ∧ Cond.code Lib.Math.max.name Lib.Math.max.code 2 (some .int) ∈ lw_tbl
def MMn : Prop := Cond.static Lib.Math.min.name ∈ lw_tbl ∧ Cond.initialized "java/lang/Math" ∈ lw_tbl ∧ Cond.code Lib.Math.min.name Lib.Math.min.code 2 (some .int) ∈ lw_tbl
def MMa : Prop := Cond.static Lib.Math.abs.name ∈ lw_tbl ∧ Cond.initialized "java/lang/Math" ∈ lw_tbl ∧ Cond.code Lib.Math.abs.name Lib.Math.abs.code 1 (some .int) ∈ lw_tbl
section VR5
variable {G : Rg} {X : Ct} {cc : ByteArray} {nL fr lo : Nat} {own : String} {ret : Option FieldType} {cw : Cond} {ov : Option Value} {Mf M : Mm} {pc : Nat} {lv lv' : List (Nat × Value)} {st : List Value}
theorem V.mmax (C : Cx G X cc nL own ret fr lo cw) (hF : MMx) {ix : Nat} (hw : Cond.methodLink own ix Lib.Math.max.name ∈ lw_tbl) {x y : Int32} (hfr : 1 ≤ fr) (hlo : (st.map fun v => v.category).sum + 13 ≤ lo) (hd : decode cc pc = .ok (.invokestatic ix, 3)) (k : V G X nL ov Mf (pc + 3) lv (.int (jmax x y) :: st) M) : V G X nL ov Mf pc lv (.int y :: .int x :: st) M := by
  obtain ⟨p, l, e, R, s, m, args, below, meth, cd⟩ := X
  obtain ⟨hx, hb, hml, hr, hlk, hown, hts, hK, hR⟩ := C
  intro H locs ls hP hS hl
  subst hR
  have w : ∀ {c : Cond}, c ∈ lw_tbl → goodWord c = true → c.before args s = true := fun h1 h2 => hts _ (List.mem_cons_of_mem _ (bg_of h1 h2))
  exact va_mmax hx hb (hml.trans hl.1.symm) hown (w hw rfl) (w hF.1 rfl) (w hF.2.1 rfl) (w hF.2.2 rfl) hfr hlo (Nat.le_refl _) (Nat.le_refl _) hd (k H locs ls hP hS hl)
theorem V.mmin (C : Cx G X cc nL own ret fr lo cw) (hF : MMn) {ix : Nat} (hw : Cond.methodLink own ix Lib.Math.min.name ∈ lw_tbl) {x y : Int32} (hfr : 1 ≤ fr) (hlo : (st.map fun v => v.category).sum + 13 ≤ lo) (hd : decode cc pc = .ok (.invokestatic ix, 3)) (k : V G X nL ov Mf (pc + 3) lv (.int (jmin x y) :: st) M) : V G X nL ov Mf pc lv (.int y :: .int x :: st) M := by
  obtain ⟨p, l, e, R, s, m, args, below, meth, cd⟩ := X
  obtain ⟨hx, hb, hml, hr, hlk, hown, hts, hK, hR⟩ := C
  intro H locs ls hP hS hl
  subst hR
  have w : ∀ {c : Cond}, c ∈ lw_tbl → goodWord c = true → c.before args s = true := fun h1 h2 => hts _ (List.mem_cons_of_mem _ (bg_of h1 h2))
  exact va_mmin hx hb (hml.trans hl.1.symm) hown (w hw rfl) (w hF.1 rfl) (w hF.2.1 rfl) (w hF.2.2 rfl) hfr hlo (Nat.le_refl _) (Nat.le_refl _) hd (k H locs ls hP hS hl)
theorem V.mabs (C : Cx G X cc nL own ret fr lo cw) (hF : MMa) {ix : Nat} (hw : Cond.methodLink own ix Lib.Math.abs.name ∈ lw_tbl) {x : Int32} (hfr : 1 ≤ fr) (hlo : (st.map fun v => v.category).sum + 13 ≤ lo) (hd : decode cc pc = .ok (.invokestatic ix, 3)) (k : V G X nL ov Mf (pc + 3) lv (.int (jabs x) :: st) M) : V G X nL ov Mf pc lv (.int x :: st) M := by
  obtain ⟨p, l, e, R, s, m, args, below, meth, cd⟩ := X
  obtain ⟨hx, hb, hml, hr, hlk, hown, hts, hK, hR⟩ := C
  intro H locs ls hP hS hl
  subst hR
  have w : ∀ {c : Cond}, c ∈ lw_tbl → goodWord c = true → c.before args s = true := fun h1 h2 => hts _ (List.mem_cons_of_mem _ (bg_of h1 h2))
  exact va_mabs hx hb (hml.trans hl.1.symm) hown (w hw rfl) (w hF.1 rfl) (w hF.2.1 rfl) (w hF.2.2 rfl) hfr hlo (Nat.le_refl _) (Nat.le_refl _) hd (k H locs ls hP hS hl)
end VR5
def mI (n : Nat) : Int32 := -nI n
