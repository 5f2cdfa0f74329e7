/-! memory, shapes, the region's picture -/
abbrev Mm : Type := (Nat → Nat → Int32) × (Nat → Nat → Int64)
def sI (M : Mm) (c k : Nat) (v : Int32) : Mm := (fun a b => if a = c ∧ b = k then v else M.1 a b, M.2)
def sL (M : Mm) (c k : Nat) (v : Int64) : Mm := (M.1, fun a b => if a = c ∧ b = k then v else M.2 a b)
def cpI (M : Mm) (c d n : Nat) : Mm := (fun a b => if a = d ∧ b < n then M.1 c b else M.1 a b, M.2)
def cpL (M : Mm) (c d n : Nat) : Mm := (M.1, fun a b => if a = d ∧ b < n then M.2 c b else M.2 a b)
abbrev Fk : Type := Option (Option (Option Nat))
abbrev Sh : Type := (Nat × Nat) ⊕ ((Nat × List Fk) ⊕ List (Option Nat))
abbrev Rg : Type := va_G × (ClassId × ClassId × ClassId × ClassId) × List Sh × (Nat → Nat) × Nat
abbrev gD (G : Rg) : va_G := G.1
abbrev gI (G : Rg) : ClassId := G.2.1.1
abbrev gJ (G : Rg) : ClassId := G.2.1.2.1
abbrev gZ (G : Rg) : ClassId := G.2.1.2.2.1
abbrev gB (G : Rg) : ClassId := G.2.1.2.2.2
abbrev gS (G : Rg) : List Sh := G.2.2.1
abbrev gA (G : Rg) : Nat → Nat := G.2.2.2.1
abbrev gL (G : Rg) : Nat := G.2.2.2.2
def fv (G : Rg) (M : Mm) (c k : Nat) : Fk → Value
  | none => .int (M.1 c k)
  | some none => .long (M.2 c k)
  | some (some none) => .null
  | some (some (some r)) => .ref (gA G r)
def en (G : Rg) (M : Mm) (c : Nat) : Sh → va_E
  | .inl (0, n) => .inl (gI G, n, .inl (M.1 c))
  | .inl (1, n) => .inl (gJ G, n, .inr (.inl (M.2 c)))
  | .inl (_, n) => .inl (gZ G, n, .inl (M.1 c))
  | .inr (.inl (ci, fl)) => .inr (ci, fl.mapIdx (fun k f => fv G M c k f))
  | .inr (.inr rs) => .inl (gB G, rs.length, .inr (.inr (.inr (.inr (fun k => (rs.getD k none).map (gA G))))))
def wl (G : Rg) (M : Mm) : va_W := (gS G).mapIdx (fun c x => (gA G c, en G M c x))
theorem wl_at {G : Rg} {c : Nat} {x : Sh} (M : Mm) (h : (gS G)[c]? = some x) : (wl G M)[c]? = some (gA G c, en G M c x) := by
  simp [wl, List.getElem?_mapIdx, h]
def Ar (G : Rg) : Nat → Prop := fun q => ∃ c, c < (gS G).length ∧ q = gA G c
def Rp (G : Rg) (M : Mm) (H : Heap) : Prop := va_P (gD G) vwCl (wl G M) H
abbrev ty4 (G : Rg) : List (ClassId × FieldType) := [(gI G, .int), (gJ G, .long), (gZ G, .boolean), (gB G, .object RX0)]
theorem wl_len (G : Rg) (M : Mm) : (wl G M).length = (gS G).length := by simp [wl]
theorem wl_inv {G : Rg} {M : Mm} {k : Nat} {q : Nat × va_E} (h : (wl G M)[k]? = some q) : k < (gS G).length ∧ q.1 = gA G k := by
  have h1 : k < (wl G M).length := (List.getElem?_eq_some_iff.mp h).1
  rw [wl_len] at h1
  refine ⟨h1, ?_⟩
  have h2 : (gS G)[k]? = some (gS G)[k] := List.getElem?_eq_getElem h1
  rw [wl_at M h2] at h
  cases h; rfl
def Inj (G : Rg) : Prop := ∀ i j, i < (gS G).length → j < (gS G).length → gA G i = gA G j → i = j
theorem wl_D {G : Rg} (M : Mm) (hI : Inj G) : va_D (Ar G) (wl G M) := by
  refine ⟨fun i j p q hp hq e => ?_, fun k q hq => ?_⟩
  · obtain ⟨a1, a2⟩ := wl_inv hp
    obtain ⟨b1, b2⟩ := wl_inv hq
    exact hI i j a1 b1 (by rw [← a2, ← b2]; exact e)
  · obtain ⟨a1, a2⟩ := wl_inv hq
    exact ⟨k, a1, a2⟩
theorem sI_ne {M : Mm} {c k a : Nat} {v : Int32} (h : a ≠ c) : (sI M c k v).1 a = M.1 a := by
  funext b; simp [sI, h]
theorem sI_at {M : Mm} {c k : Nat} {v : Int32} : (sI M c k v).1 c = upd (M.1 c) k v := by
  funext b; simp [sI, upd]
theorem sL_ne {M : Mm} {c k a : Nat} {v : Int64} (h : a ≠ c) : (sL M c k v).2 a = M.2 a := by
  funext b; simp [sL, h]
theorem sL_at {M : Mm} {c k : Nat} {v : Int64} : (sL M c k v).2 c = vp_updL (M.2 c) k v := by
  funext b; simp [sL, vp_updL]
theorem en_sI_ne {G : Rg} {M : Mm} {c k a : Nat} {v : Int32} (h : a ≠ c) (x : Sh) : en G (sI M c k v) a x = en G M a x := by
  rcases x with ⟨t, n⟩ | ⟨ci, fl⟩ | rs
  · match t with
    | 0 => simp only [en, sI_ne h]
    | 1 => rfl
    | t + 2 => simp only [en, sI_ne h]
  · have e : (fun (j : Nat) (f : Fk) => fv G (sI M c k v) a j f) = fun j f => fv G M a j f := by
      funext j f
      rcases f with _ | _ | _ | r <;> simp only [fv, sI_ne h] <;> rfl
    simp only [en, e]
  · rfl
theorem en_sL_ne {G : Rg} {M : Mm} {c k a : Nat} {v : Int64} (h : a ≠ c) (x : Sh) : en G (sL M c k v) a x = en G M a x := by
  rcases x with ⟨t, n⟩ | ⟨ci, fl⟩ | rs
  · match t with
    | 0 => rfl
    | 1 => simp only [en, sL_ne h]
    | t + 2 => rfl
  · have e : (fun (j : Nat) (f : Fk) => fv G (sL M c k v) a j f) = fun j f => fv G M a j f := by
      funext j f
      rcases f with _ | _ | _ | r <;> simp only [fv, sL_ne h] <;> rfl
    simp only [en, e]
  · rfl
/-- the picture with one cell anew -/
theorem wl_set {G : Rg} {M M' : Mm} {c : Nat} {x : Sh} (hc : (gS G)[c]? = some x) (h : ∀ a y, a ≠ c → en G M' a y = en G M a y) : (wl G M).set c (gA G c, en G M' c x) = wl G M' := by
  apply List.ext_getElem?
  intro i
  rw [List.getElem?_set]
  by_cases e : c = i
  · subst e
    have hl : c < (wl G M).length := by rw [wl_len]; exact (List.getElem?_eq_some_iff.mp hc).1
    rw [if_pos rfl, if_pos hl, wl_at M' hc]
  · rw [if_neg e]
    simp only [wl, List.getElem?_mapIdx]
    cases hy : (gS G)[i]? with
    | none => rfl
    | some y => simp only [Option.map_some]; rw [h i y (fun q => e q.symm)]
theorem en_obI {G : Rg} {M : Mm} {c k ci : Nat} {fl : List Fk} {v : Int32} (hf : fl[k]? = some none) : en G (sI M c k v) c (.inr (.inl (ci, fl))) = .inr (ci, (fl.mapIdx (fun j f => fv G M c j f)).set k (.int v)) := by
  simp only [en]
  congr 2
  apply List.ext_getElem?
  intro i
  rw [List.getElem?_set, List.getElem?_mapIdx, List.getElem?_mapIdx]
  by_cases e : k = i
  · subst e
    have hl : k < fl.length := (List.getElem?_eq_some_iff.mp hf).1
    rw [if_pos rfl, List.length_mapIdx, if_pos hl, hf]
    simp [fv, sI]
  · rw [if_neg e]
    cases hy : fl[i]? with
    | none => rfl
    | some y =>
      simp only [Option.map_some]
      rcases y with _ | _ | _ | r
      · simp [fv, sI, Ne.symm e]
      · rfl
      · rfl
      · rfl
theorem en_obL {G : Rg} {M : Mm} {c k ci : Nat} {fl : List Fk} {v : Int64} (hf : fl[k]? = some (some none)) : en G (sL M c k v) c (.inr (.inl (ci, fl))) = .inr (ci, (fl.mapIdx (fun j f => fv G M c j f)).set k (.long v)) := by
  simp only [en]
  congr 2
  apply List.ext_getElem?
  intro i
  rw [List.getElem?_set, List.getElem?_mapIdx, List.getElem?_mapIdx]
  by_cases e : k = i
  · subst e
    have hl : k < fl.length := (List.getElem?_eq_some_iff.mp hf).1
    rw [if_pos rfl, List.length_mapIdx, if_pos hl, hf]
    simp [fv, sL]
  · rw [if_neg e]
    cases hy : fl[i]? with
    | none => rfl
    | some y =>
      simp only [Option.map_some]
      rcases y with _ | _ | _ | r
      · rfl
      · simp [fv, sL, Ne.symm e]
      · rfl
      · rfl
/-! the words: good ones of the tables -/
def bg : List Cond := lw_tbl.filter goodWord
theorem bg_of {w : Cond} (h : w ∈ lw_tbl) (g : goodWord w = true) : w ∈ bg := List.mem_filter.mpr ⟨h, g⟩
theorem bg_good {w : Cond} (h : w ∈ bg) : (w.onTables && w.keeps) = true ∨ ∃ ty, w = .arrayClass ty := good_of_word (List.mem_filter.mp h).2
theorem bg_GoodIn {y : MethodName} {cc : ByteArray} {n : Nat} {r : Option FieldType} {c0 : Cond} (hc : Cond.code y cc n r ∈ lw_tbl) (xs : List Cond) (hx : ∀ w ∈ xs, w ∈ bg) : GoodIn (c0 :: bg) (xs ++ (Cond.code y cc n r :: bg)) := by
  intro w hw
  rcases List.mem_append.mp hw with h | h
  · exact ⟨List.mem_cons_of_mem _ (hx w h), bg_good (hx w h)⟩
  · rcases List.mem_cons.mp h with h | h
    · subst h
      exact ⟨List.mem_cons_of_mem _ (bg_of hc rfl), Or.inl rfl⟩
    · exact ⟨List.mem_cons_of_mem _ h, bg_good h⟩
/-! the static row of masks, the one nest link -/
def lkF : Nat → Int64 := fun k => match k with
  | 0 => 6148914691236517205
  | 1 => 3689348814741910323
  | 2 => 1085102592571150095
  | 3 => 71777214294589695
  | 4 => 281470681808895
  | _ => 4294967295
def Lk (G : Rg) (U : State) (H : Heap) : Prop := va_Z RX2 "LACKING" "[J" (.ref (gL G)) (Ar G) U H ∧ (∃ cell : Cell, H[gL G]? = some cell ∧ U.isArrayOf cell .long ∧ cell.vm ≠ .unknown ∧ 6 ≤ cell.slots.size ∧ ∀ j : Nat, j < 6 → cell.slots[j]? = some (.long (lkF j))) ∧ ¬ Ar G (gL G)
abbrev nst : Cond := .methodLinkNest RX4 30 yX8_isWithin RX8
def Kn (G : Rg) (U : State) (H : Heap) : Prop := va_K (gD G) vwCl (ty4 G) U ∧ Inj G ∧ va_Nw nst U ∧ Lk G U H
theorem Kn.moved {G : Rg} {s U : State} {H H' : Heap} {locs : List Loc} (h : Kn G s H) (hW : s.WarmedH U.vm) (hS : va_S (Ar G) H H' locs) : Kn G U H' := by
  obtain ⟨h1, h2, h3, h4, ⟨cell, c1, c2, c3⟩, h6⟩ := h
  refine ⟨va_K.moved hW.alike h1, h2, va_Nw.warmM hW h3, (h4.kept (fun a ha hn => hS.2.1 a ha hn)).moved hW.alike, ⟨cell, ?_, State.isArrayOf_alike hW.alike c2, c3⟩, h6⟩
  rw [hS.2.1 _ (Array.getElem?_eq_some_iff.mp c1).1 h6]
  exact c1
/-! the judgement -/
abbrev Ct : Type := Program × Launch × Env × Room × State × MethodId × Array Value × List Frame × Method × Code
def vQ (G : Rg) (ov : Option Value) (M : Mm) : Array Value → State → Outcome → State → Prop := fun _ st oc t => oc = .returned ov ∧ Rp G M t.heap ∧ va_F (Ar G) st t
def V (G : Rg) (X : Ct) (nL : Nat) (ov : Option Value) (Mf : Mm) (pc : Nat) (lv : List (Nat × Value)) (st : List Value) (M : Mm) : Prop :=
  match X with
  | (p, l, e, R, s, m, args, below, meth, c) => ∀ (H : Heap) (locs : List Loc) (ls : Array Slot), Rp G M H → va_S (Ar G) s.heap H locs → lv_has ls nL lv → W p l e R s m args below meth c H locs 0 0 (MQ below (vQ G ov Mf) args s 0 0 (Ar G)) (F0 m pc ls st)
def Cx (G : Rg) (X : Ct) (cc : ByteArray) (nL : Nat) (own : String) (ret : Option FieldType) (fr lo : Nat) (cw : Cond) : Prop :=
  match X with
  | (p, l, e, R, s, m, args, below, meth, c) => p.tables.exec = Jvm.exec ∧ c.code = cc ∧ c.maxLocals = nL ∧ meth.sig.returnType = ret ∧ meth.locks = false ∧ s.vm.findClass own = some m.cls ∧ (∀ w ∈ cw :: bg, w.before args s = true) ∧ Kn G s s.heap ∧ R = ({ frames := fr, cells := 0, slots := 0, locals := lo } : Room)
def vP (G : Rg) (av : List Value) (M : Mm) : Array Value → State → Prop := fun v U => v = av.toArray ∧ Rp G M U.heap ∧ Kn G U U.heap
/-- a method's contract: from memory M to memory M', answering ov -/
def Mt (l : Launch) (G : Rg) (y : MethodName) (cc : ByteArray) (nL : Nat) (ret : Option FieldType) (fr lo : Nat) (av : List Value) (M : Mm) (ov : Option Value) (M' : Mm) : Prop :=
  Met l y (Cond.code y cc nL ret :: bg) ({ frames := fr, cells := 0, slots := 0, locals := lo } : Room) (vP G av M) (vQ G ov M') 0 0 (Ar G)
theorem Mt.of {l : Launch} {G : Rg} {y : MethodName} {cc : ByteArray} {nL : Nat} {ret : Option FieldType} {fr lo : Nat} {av : List Value} {M : Mm} {ov : Option Value} {M' : Mm} (hy : plainName y.cls = true) (hn : (lg_sl av).length ≤ nL)
    (h : ∀ X : Ct, Cx G X cc nL y.cls ret fr lo (Cond.code y cc nL ret) → X.2.1 = l → V G X nL ov M' 0 (lv_args 0 av) [] M) : Mt l G y cc nL ret fr lo av M ov M' := by
  refine Met.ofW (cc := cc) (maxL := nL) (ret := ret) hy rfl ?_
  intro p e s m args below meth c s₁ B hml hv
  obtain ⟨rfl, hP, hK⟩ := hv
  have hown : s.vm.findClass y.cls = some m.cls := findClass_of_methodNamed B.named
  have hts := atoms_spec (ws := Cond.code y cc nL ret :: bg) B.pre
  have hl := lv_entry av (n := nL) hn
  have := h (p, l, e, ({ frames := fr, cells := 0, slots := 0, locals := lo } : Room), s, m, av.toArray, below, meth, c) ⟨B.exec, B.bytes, hml, B.returns, B.notSynchronized, hown, hts, hK, rfl⟩ rfl
  rw [lg_entry_eq]
  exact this s.heap [] _ hP va_S.rf hl
section VR
variable {G : Rg} {X : Ct} {cc : ByteArray} {nL fr lo : Nat} {own : String} {ret : Option FieldType} {cw : Cond} {ov : Option Value} {Mf M : Mm} {pc : Nat} {lv lv' : List (Nat × Value)} {st : List Value}
theorem V.sub (C : Cx G X cc nL own ret fr lo cw) (ks : List Nat) (h : lv_pick lv ks = lv') (k : V G X nL ov Mf pc lv' st M) : V G X nL ov Mf pc lv st M := by
  obtain ⟨p, l, e, R, s, m, args, below, meth, c⟩ := X
  intro H locs ls hP hS hl
  exact k H locs ls hP hS (lv_sub hl ks h)
theorem V.iconst (C : Cx G X cc nL own ret fr lo cw) {n : Int} (v : Int32) (hv : Int32.ofInt n = v) (hd : decode cc pc = .ok (.iconst n, 1)) (k : V G X nL ov Mf (pc + 1) lv (.int v :: st) M) : V G X nL ov Mf pc lv st M := by
  obtain ⟨p, l, e, R, s, m, args, below, meth, c⟩ := X
  intro H locs ls hP hS hl
  exact lv_iconst C.1 C.2.1 hd hv (k H locs ls hP hS hl)
theorem V.bipush (C : Cx G X cc nL own ret fr lo cw) {n : Int} (v : Int32) (hv : (Int8.ofInt n).toInt32 = v) (hd : decode cc pc = .ok (.bipush n, 2)) (k : V G X nL ov Mf (pc + 2) lv (.int v :: st) M) : V G X nL ov Mf pc lv st M := by
  obtain ⟨p, l, e, R, s, m, args, below, meth, c⟩ := X
  intro H locs ls hP hS hl
  exact lv_bipush C.1 C.2.1 hd hv (k H locs ls hP hS hl)
theorem V.sipush (C : Cx G X cc nL own ret fr lo cw) {n : Int} (v : Int32) (hv : (Int16.ofInt n).toInt32 = v) (hd : decode cc pc = .ok (.sipush n, 3)) (k : V G X nL ov Mf (pc + 3) lv (.int v :: st) M) : V G X nL ov Mf pc lv st M := by
  obtain ⟨p, l, e, R, s, m, args, below, meth, c⟩ := X
  intro H locs ls hP hS hl
  exact lv_sipush C.1 C.2.1 hd hv (k H locs ls hP hS hl)
theorem V.lconst (C : Cx G X cc nL own ret fr lo cw) {n : Fin 2} (v : Int64) (hv : Int64.ofNat (n : Nat) = v) (hd : decode cc pc = .ok (.lconst n, 1)) (k : V G X nL ov Mf (pc + 1) lv (.long v :: st) M) : V G X nL ov Mf pc lv st M := by
  obtain ⟨p, l, e, R, s, m, args, below, meth, c⟩ := X
  intro H locs ls hP hS hl
  exact lv_lconst C.1 C.2.1 hd hv (k H locs ls hP hS hl)
theorem V.ldc (C : Cx G X cc nL own ret fr lo cw) {i : Nat} {v : Int32} (hw : Cond.constant own i v ∈ lw_tbl) (hd : decode cc pc = .ok (.ldc i, 2)) (k : V G X nL ov Mf (pc + 2) lv (.int v :: st) M) : V G X nL ov Mf pc lv st M := by
  obtain ⟨p, l, e, R, s, m, args, below, meth, c⟩ := X
  obtain ⟨hx, hb, hml, hr, hlk, hown, hts, hK, hR⟩ := C
  intro H locs ls hP hS hl
  exact lv_ldc hx hb hown (hts _ (List.mem_cons_of_mem _ (bg_of hw rfl))) hd (k H locs ls hP hS hl)
theorem V.ldcw (C : Cx G X cc nL own ret fr lo cw) {i : Nat} {v : Int32} (hw : Cond.constant own i v ∈ lw_tbl) (hd : decode cc pc = .ok (.ldc_w i, 3)) (k : V G X nL ov Mf (pc + 3) lv (.int v :: st) M) : V G X nL ov Mf pc lv st M := by
  obtain ⟨p, l, e, R, s, m, args, below, meth, c⟩ := X
  obtain ⟨hx, hb, hml, hr, hlk, hown, hts, hK, hR⟩ := C
  intro H locs ls hP hS hl
  exact lv_ldcw hx hb hown (hts _ (List.mem_cons_of_mem _ (bg_of hw rfl))) hd (k H locs ls hP hS hl)
theorem V.ldc2 (C : Cx G X cc nL own ret fr lo cw) {i : Nat} {v : Int64} (hw : Cond.constantLong own i v ∈ lw_tbl) (hd : decode cc pc = .ok (.ldc2_w i, 3)) (k : V G X nL ov Mf (pc + 3) lv (.long v :: st) M) : V G X nL ov Mf pc lv st M := by
  obtain ⟨p, l, e, R, s, m, args, below, meth, c⟩ := X
  obtain ⟨hx, hb, hml, hr, hlk, hown, hts, hK, hR⟩ := C
  intro H locs ls hP hS hl
  exact lv_ldc2 hx hb hown (hts _ (List.mem_cons_of_mem _ (bg_of hw rfl))) hd (k H locs ls hP hS hl)
end VR
