/-! constructors: a region that grows, cell by cell, at addresses one behind another -/
abbrev Ev : Type := va_G × (ClassId × ClassId × ClassId × ClassId) × Nat
def gs (E : Ev) (sh : List Sh) : Rg := (E.1, E.2.1, sh, (fun c => E.2.2 + c), 0)
theorem en_gs {E : Ev} {sh1 sh2 : List Sh} {M : Mm} {c : Nat} (x : Sh) : en (gs E sh1) M c x = en (gs E sh2) M c x := by
  rcases x with ⟨t, n⟩ | ⟨ci, fl⟩ | rs
  · match t with
    | 0 => rfl
    | 1 => rfl
    | t + 2 => rfl
  · have e : (fun (j : Nat) (f : Fk) => fv (gs E sh1) M c j f) = fun j f => fv (gs E sh2) M c j f := by
      funext j f
      rcases f with _ | _ | _ | r <;> rfl
    simp only [en, e]
  · rfl
theorem wl_gs_eq (E : Ev) (sh sh0 : List Sh) (M : Mm) : wl (gs E sh) M = sh.mapIdx (fun c x => (E.2.2 + c, en (gs E sh0) M c x)) := by
  have h : (fun (c : Nat) (x : Sh) => (gA (gs E sh) c, en (gs E sh) M c x)) = (fun c x => (E.2.2 + c, en (gs E sh0) M c x)) := by
    funext c x
    rw [en_gs (sh1 := sh) (sh2 := sh0) x]
    rfl
  show List.mapIdx _ sh = _
  rw [h]
theorem wl_app (E : Ev) (sh : List Sh) (x : Sh) (M : Mm) : wl (gs E (sh ++ [x])) M = wl (gs E sh) M ++ [(E.2.2 + sh.length, en (gs E []) M sh.length x)] := by
  rw [wl_gs_eq E (sh ++ [x]) [], wl_gs_eq E sh [], List.mapIdx_append]
  simp
theorem wlA_D (E : Ev) (sh : List Sh) (M : Mm) : va_D (fun q => E.2.2 ≤ q) (wl (gs E sh) M) := by
  refine ⟨fun i j p q hp hq e => ?_, fun k q hq => ?_⟩
  · obtain ⟨a1, a2⟩ := wl_inv hp
    obtain ⟨b1, b2⟩ := wl_inv hq
    have h : E.2.2 + i = E.2.2 + j := by
      have e1 : p.1 = E.2.2 + i := a2
      have e2 : q.1 = E.2.2 + j := b2
      omega
    omega
  · obtain ⟨a1, a2⟩ := wl_inv hq
    have e1 : q.1 = E.2.2 + k := a2
    show E.2.2 ≤ q.1
    omega
theorem wl_atA {E : Ev} {sh : List Sh} {c : Nat} {x : Sh} (M : Mm) (h : sh[c]? = some x) : (wl (gs E sh) M)[c]? = some (E.2.2 + c, en (gs E sh) M c x) := wl_at (G := gs E sh) M h
def bl : Fk → Value
  | none => .int 0
  | some none => .long 0
  | _ => .null
def isP : Fk → Bool
  | some (some (some _)) => false
  | _ => true
theorem fv_bl {G : Rg} {M : Mm} {c : Nat} (h1 : M.1 c = fun _ => 0) (h2 : M.2 c = fun _ => 0) {f : Fk} (hf : isP f = true) (k : Nat) : fv G M c k f = bl f := by
  rcases f with _ | _ | _ | r
  · simp [fv, bl, h1]
  · simp [fv, bl, h2]
  · rfl
  · cases hf
theorem map_bl {G : Rg} {M : Mm} {c : Nat} (h1 : M.1 c = fun _ => 0) (h2 : M.2 c = fun _ => 0) {fl : List Fk} (hf : fl.all isP = true) : fl.mapIdx (fun k f => fv G M c k f) = fl.map bl := by
  apply List.ext_getElem?
  intro i
  rw [List.getElem?_mapIdx, List.getElem?_map]
  cases hy : fl[i]? with
  | none => rfl
  | some y =>
    simp only [Option.map_some]
    rw [fv_bl h1 h2 (List.all_eq_true.mp hf y (List.mem_of_getElem? hy))]
abbrev tyE (E : Ev) : List (ClassId × FieldType) := [(E.2.1.1, .int), (E.2.1.2.1, .long), (E.2.1.2.2.1, .boolean), (E.2.1.2.2.2, .object RX0)]
def KA (E : Ev) (U : State) : Prop := va_K E.1 vwCl (tyE E) U ∧ va_AO RX0 U
def vA (E : Ev) (sh : List Sh) (M : Mm) : Array Value → State → Outcome → State → Prop := fun _ st oc t => oc = .returned none ∧ t.heap.size = E.2.2 + sh.length ∧ Rp (gs E sh) M t.heap ∧ va_F (fun q => E.2.2 ≤ q) st t
def VA (E : Ev) (X : Ct) (nL : Nat) (shf : List Sh) (Mf : Mm) (mc ms : Nat) (pc : Nat) (lv : List (Nat × Value)) (st : List Value) (sh : List Sh) (M : Mm) (k n : Nat) : Prop :=
  match X with
  | (p, l, e, R, s, m, args, below, meth, c) => ∀ (H : Heap) (locs : List Loc) (ls : Array Slot), H.size = E.2.2 + sh.length → Rp (gs E sh) M H → va_S (fun q => E.2.2 ≤ q) s.heap H locs → lv_has ls nL lv → W p l e R s m args below meth c H locs k n (MQ below (vA E shf Mf) args s mc ms (fun q => E.2.2 ≤ q)) (F0 m pc ls st)
def CA (E : Ev) (X : Ct) (cc : ByteArray) (nL : Nat) (own : String) (fr lo mc ms : Nat) (cw : Cond) : Prop :=
  match X with
  | (p, l, e, R, s, m, args, below, meth, c) => p.tables.exec = Jvm.exec ∧ c.code = cc ∧ c.maxLocals = nL ∧ meth.sig.returnType = none ∧ meth.locks = false ∧ s.vm.findClass own = some m.cls ∧ (∀ w ∈ cw :: bg, w.before args s = true) ∧ meth.name = "<init>" ∧ KA E s ∧ R = ({ frames := fr, cells := mc, slots := ms, locals := lo } : Room) ∧ E.2.2 ≤ s.heap.size
def pA (E : Ev) (a : Nat) (sh : List Sh) (M : Mm) : Array Value → State → Prop := fun v U => v = ([.ref (E.2.2 + a)] : List Value).toArray ∧ U.heap.size = E.2.2 + sh.length ∧ Rp (gs E sh) M U.heap ∧ KA E U
def MtA (l : Launch) (E : Ev) (y : MethodName) (cc : ByteArray) (nL fr lo a : Nat) (sh : List Sh) (M : Mm) (shf : List Sh) (Mf : Mm) (mc ms : Nat) : Prop :=
  Met l y (Cond.code y cc nL none :: bg) ({ frames := fr, cells := mc, slots := ms, locals := lo } : Room) (pA E a sh M) (vA E shf Mf) mc ms (fun q => E.2.2 ≤ q)
theorem pA_blind (E : Ev) (a : Nat) (sh : List Sh) (M : Mm) : FrameBlind (pA E a sh M) := by
  intro v U g mk ⟨q0, q1, qP, qK⟩
  exact ⟨q0, q1, qP, va_K.moved (u := U) (U := U.calling g mk v) (Vm.Alike.refl U.vm) qK.1, va_AO.moved (u := U) (U := U.calling g mk v) (Vm.Alike.refl U.vm) qK.2⟩
theorem MtA.of {l : Launch} {E : Ev} {y : MethodName} {cc : ByteArray} {nL fr lo a : Nat} {sh : List Sh} {M : Mm} {shf : List Sh} {Mf : Mm} {mc ms : Nat} (hy : plainName y.cls = true) (hn : y.name = "<init>") (h1 : 1 ≤ nL)
    (h : ∀ X : Ct, CA E X cc nL y.cls fr lo mc ms (Cond.code y cc nL none) → X.2.1 = l → VA E X nL shf Mf mc ms 0 [(0, .ref (E.2.2 + a))] [] sh M 0 0) : MtA l E y cc nL fr lo a sh M shf Mf mc ms := by
  refine Met.ofW (cc := cc) (maxL := nL) (ret := none) hy rfl ?_
  intro p e s m args below meth c s₁ B hml hv
  obtain ⟨rfl, hz, hP, hK⟩ := hv
  have hown : s.vm.findClass y.cls = some m.cls := findClass_of_methodNamed B.named
  have hts := atoms_spec (ws := Cond.code y cc nL none :: bg) B.pre
  have hin : meth.name = y.name := (name_of_methodNamed B.named B.method).1
  have hl := lv_entry [.ref (E.2.2 + a)] (n := nL) h1
  have := h (p, l, e, ({ frames := fr, cells := mc, slots := ms, locals := lo } : Room), s, m, ([.ref (E.2.2 + a)] : List Value).toArray, below, meth, c) ⟨B.exec, B.bytes, hml, B.returns, B.notSynchronized, hown, hts, hin.trans hn, hK, rfl, by rw [hz]; exact Nat.le_add_right _ _⟩ rfl
  rw [lg_entry_eq]
  exact this s.heap [] _ hz hP va_S.rf hl
section VAR1
variable {E : Ev} {X : Ct} {cc : ByteArray} {nL fr lo mc ms : Nat} {own : String} {cw : Cond} {shf sh : List Sh} {Mf M : Mm} {pc k n : Nat} {lv lv' : List (Nat × Value)} {st : List Value}
theorem VA.aload_n (C : CA E X cc nL own fr lo mc ms cw) {i : Fin 4} {x : Nat} (q : Nat) (hq : lv[q]? = some ((i : Nat), .ref x)) (hd : decode cc pc = .ok (.aload_n i, 1)) (kk : VA E X nL shf Mf mc ms (pc + 1) lv (.ref x :: st) sh M k n) : VA E X nL shf Mf mc ms pc lv st sh M k n := by
  obtain ⟨p, l, e, R, s, m, args, below, meth, cd⟩ := X
  intro H locs ls hz hP hS hl
  exact lv_aload_n C.1 C.2.1 hd rfl (lv_at hl q hq) (kk H locs ls hz hP hS hl)
theorem VA.iconst (C : CA E X cc nL own fr lo mc ms cw) {z : Int} (v : Int32) (hv : Int32.ofInt z = v) (hd : decode cc pc = .ok (.iconst z, 1)) (kk : VA E X nL shf Mf mc ms (pc + 1) lv (.int v :: st) sh M k n) : VA E X nL shf Mf mc ms pc lv st sh M k n := by
  obtain ⟨p, l, e, R, s, m, args, below, meth, cd⟩ := X
  intro H locs ls hz hP hS hl
  exact lv_iconst C.1 C.2.1 hd hv (kk H locs ls hz hP hS hl)
theorem VA.bipush (C : CA E X cc nL own fr lo mc ms cw) {z : Int} (v : Int32) (hv : (Int8.ofInt z).toInt32 = v) (hd : decode cc pc = .ok (.bipush z, 2)) (kk : VA E X nL shf Mf mc ms (pc + 2) lv (.int v :: st) sh M k n) : VA E X nL shf Mf mc ms pc lv st sh M k n := by
  obtain ⟨p, l, e, R, s, m, args, below, meth, cd⟩ := X
  intro H locs ls hz hP hS hl
  exact lv_bipush C.1 C.2.1 hd hv (kk H locs ls hz hP hS hl)
theorem VA.sipush (C : CA E X cc nL own fr lo mc ms cw) {z : Int} (v : Int32) (hv : (Int16.ofInt z).toInt32 = v) (hd : decode cc pc = .ok (.sipush z, 3)) (kk : VA E X nL shf Mf mc ms (pc + 3) lv (.int v :: st) sh M k n) : VA E X nL shf Mf mc ms pc lv st sh M k n := by
  obtain ⟨p, l, e, R, s, m, args, below, meth, cd⟩ := X
  intro H locs ls hz hP hS hl
  exact lv_sipush C.1 C.2.1 hd hv (kk H locs ls hz hP hS hl)
theorem VA.dup (C : CA E X cc nL own fr lo mc ms cw) {v : Value} (hv : v.category = 1) (hd : decode cc pc = .ok (.dup, 1)) (kk : VA E X nL shf Mf mc ms (pc + 1) lv (v :: v :: st) sh M k n) : VA E X nL shf Mf mc ms pc lv (v :: st) sh M k n := by
  obtain ⟨p, l, e, R, s, m, args, below, meth, cd⟩ := X
  intro H locs ls hz hP hS hl
  exact lv_dup C.1 C.2.1 hd hv (kk H locs ls hz hP hS hl)
theorem VA.vret (C : CA E X cc nL own fr lo mc ms cw) (h1 : sh = shf) (h2 : M = Mf) (h3 : k = mc) (h4 : n = ms) (hd : decode cc pc = .ok (.return_, 1)) : VA E X nL shf Mf mc ms pc lv [] sh M k n := by
  obtain ⟨p, l, e, R, s, m, args, below, meth, cd⟩ := X
  obtain ⟨hx, hb, hml, hr, hlk, hown, hts, hin, hK, hR, hE⟩ := C
  intro H locs ls hz hP hS hl
  subst h1; subst h2; subst h3; subst h4
  exact W.vret hx hb hr (fun t ht hW => ⟨rfl, by rw [ht]; exact hz, by rw [ht]; exact hP, hS.F ht⟩) hS.2.2 hd hlk
theorem VA.obj (C : CA E X cc nL own fr lo mc ms cw) {ix a : Nat} (hw : Cond.methodLink own ix objectInit ∈ lw_tbl) (h1 : Cond.instanceMethod objectInit ∈ lw_tbl) (h2 : Cond.code objectInit ⟨#[0xb1]⟩ 1 none ∈ lw_tbl) (hfr : 1 ≤ fr) (hlo : 12 ≤ lo) (hd : decode cc pc = .ok (.invokespecial ix, 3)) (kk : VA E X nL shf Mf mc ms (pc + 3) lv [] sh M k n) : VA E X nL shf Mf mc ms pc lv [.ref a] sh M k n := by
  obtain ⟨p, l, e, R, s, m, args, below, meth, cd⟩ := X
  obtain ⟨hx, hb, hml, hr, hlk, hown, hts, hin, hK, hR, hE⟩ := C
  intro H locs ls hz hP hS hl
  subst hR
  have w : ∀ {c : Cond}, c ∈ lw_tbl → goodWord c = true → c.before args s = true := fun h1 h2 => hts _ (List.mem_cons_of_mem _ (bg_of h1 h2))
  exact W.objInit hx hb hown (w hw rfl) (w h1 rfl) (w h2 rfl) rfl (by rw [hml]; exact hl.1) rfl hd hfr hlo (W.eq (g2 := F0 m (pc + 3) ls []) rfl (kk H locs ls hz hP hS hl))
theorem va_P_push {E : Ev} {sh : List Sh} {x : Sh} {M : Mm} {H H1 : Heap} (hP : Rp (gs E sh) M H) (hz : H.size = E.2.2 + sh.length) (o1 : ∀ q, q < E.2.2 + sh.length → H1[q]? = H[q]?) (hx : va_at E.1 vwCl (E.2.2 + sh.length, en (gs E []) M sh.length x) H1) : Rp (gs E (sh ++ [x])) M H1 := by
  show va_P E.1 vwCl (wl (gs E (sh ++ [x])) M) H1
  rw [wl_app]
  refine va_P.app (va_P.kept hP fun k q hq => o1 q.1 (by rw [← hz]; exact (hP k q hq).lt)) (fun k q hq => ?_)
  have hk : k < 1 := (List.getElem?_eq_some_iff.mp hq).1
  rw [show k = 0 by omega] at hq
  cases hq
  exact hx
theorem va_S_push {A : Nat → Prop} {H0 H H1 : Heap} {locs : List Loc} {h : Nat} (hS : va_S A H0 H locs) (hz : H.size = h) (z1 : H1.size = h + 1) (o1 : ∀ q, q < h → H1[q]? = H[q]?) : va_S A H0 H1 locs :=
  ⟨Nat.le_trans hS.1 (by omega), fun x h1 h2 => (o1 x (by have := hS.1; omega)).trans (hS.2.1 x h1 h2), hS.2.2⟩
theorem VA.newO (C : CA E X cc nL own fr lo mc ms cw) {ci : Nat} {Cn : String} {T : u_T} {N : Nat} (hcl : vwCl[ci]? = some (Cn, T, N)) (hin : ∀ w ∈ u_ws Cn T N, w ∈ lw_tbl) (ty : Nat → FieldType) (hty : ∀ k, k < N → parseFieldDescriptor (T k).2.2.1 = some (ty k)) {ix : Nat} (hw1 : Cond.classLink own ix Cn ∈ lw_tbl) (hw2 : Cond.instantiable Cn N ∈ lw_tbl) (hw3 : Cond.initialized Cn ∈ lw_tbl) {fl : List Fk} (hfl : ∀ j, j < N → defaultValue (ty j) = vp_V (fl.map bl) j) (hpr : fl.all isP = true) (hM : M.1 sh.length = (fun _ => 0)) (hM2 : M.2 sh.length = (fun _ => 0)) (hk : k + 1 ≤ mc) (hn : n + N ≤ ms) (hd : decode cc pc = .ok (.new ix, 3))
    (kk : VA E X nL shf Mf mc ms (pc + 3) lv (.ref (E.2.2 + sh.length) :: st) (sh ++ [.inr (.inl (ci, fl))]) M (k + 1) (n + N)) : VA E X nL shf Mf mc ms pc lv st sh M k n := by
  obtain ⟨p, l, e, R, s, m, args, below, meth, cd⟩ := X
  obtain ⟨hx, hb, hml, hr, hlk, hown, hts, hinn, hK, hR, hE⟩ := C
  intro H locs ls hz hP hS hl
  subst hR
  have w : ∀ {c : Cond}, c ∈ lw_tbl → goodWord c = true → c.before args s = true := fun h1 h2 => hts _ (List.mem_cons_of_mem _ (bg_of h1 h2))
  have hKn := hK.1.1 ci _ hcl
  refine W.newcK hx hb hown (w hw1 rfl) (w hw2 rfl) (w hw3 rfl) rfl hd hk hn hKn.2.1 hz fun H1 kC hkC e1 z1 o1 => ?_
  refine kk H1 locs ls (by rw [z1]; simp; omega) (va_P_push hP hz o1 ?_) (va_S_push hS hz z1 o1) hl
  refine ⟨_, hcl, ?_⟩
  have hb1 := u_born ty hts (fun w h => List.mem_cons_of_mem _ (bg_of (hin w h) (u_good h))) hKn hkC e1 hty
  refine hb1.to (fun j hj => ?_)
  rw [hfl j hj, map_bl hM hM2 hpr]
theorem VA.newI (C : CA E X cc nL own fr lo mc ms cw) {z : Int32} (N : Nat) (hw : Cond.arrayClass .int ∈ lw_tbl) (hz1 : ¬ z < 0) (hN : z.toNatClampNeg = N) (hby : N * componentBytes .int ≤ 536870912) (hM : M.1 sh.length = (fun _ => 0)) (hk : k + 1 ≤ mc) (hn : n + N ≤ ms) (hd : decode cc pc = .ok (.newarray .int, 2))
    (kk : VA E X nL shf Mf mc ms (pc + 2) lv (.ref (E.2.2 + sh.length) :: st) (sh ++ [.inl (0, N)]) M (k + 1) (n + N)) : VA E X nL shf Mf mc ms pc lv (.int z :: st) sh M k n := by
  obtain ⟨p, l, e, R, s, m, args, below, meth, cd⟩ := X
  obtain ⟨hx, hb, hml, hr, hlk, hown, hts, hinn, hK, hR, hE⟩ := C
  intro H locs ls hz hP hS hl
  subst hR
  have w : ∀ {c : Cond}, c ∈ lw_tbl → goodWord c = true → c.before args s = true := fun h1 h2 => hts _ (List.mem_cons_of_mem _ (bg_of h1 h2))
  refine va_newaK (atype := .int) hx hb (w hw rfl) rfl hd rfl hz1 hN hby hk hn hz fun H1 cA e1 z1 o1 hAr hNm => ?_
  have hc : s.vm.findClass ("[" ++ FieldType.int.toString) = some E.2.1.1 := (hK.1.2 0 _ rfl).2
  have hcA : cA = E.2.1.1 := Option.some.inj (hNm.symm.trans hc)
  subst hcA
  refine kk H1 locs ls (by rw [z1]; simp; omega) (va_P_push hP hz o1 ?_) (va_S_push hS hz z1 o1) hl
  show H1[E.2.2 + sh.length]? = some (vp_cell E.2.1.1 (N, .inl (M.1 sh.length)))
  rw [e1, hM]
  rfl
theorem VA.newZ (C : CA E X cc nL own fr lo mc ms cw) {z : Int32} (N : Nat) (hw : Cond.arrayClass .boolean ∈ lw_tbl) (hz1 : ¬ z < 0) (hN : z.toNatClampNeg = N) (hby : N * componentBytes .boolean ≤ 536870912) (hM : M.1 sh.length = (fun _ => 0)) (hk : k + 1 ≤ mc) (hn : n + N ≤ ms) (hd : decode cc pc = .ok (.newarray .boolean, 2))
    (kk : VA E X nL shf Mf mc ms (pc + 2) lv (.ref (E.2.2 + sh.length) :: st) (sh ++ [.inl (2, N)]) M (k + 1) (n + N)) : VA E X nL shf Mf mc ms pc lv (.int z :: st) sh M k n := by
  obtain ⟨p, l, e, R, s, m, args, below, meth, cd⟩ := X
  obtain ⟨hx, hb, hml, hr, hlk, hown, hts, hinn, hK, hR, hE⟩ := C
  intro H locs ls hz hP hS hl
  subst hR
  have w : ∀ {c : Cond}, c ∈ lw_tbl → goodWord c = true → c.before args s = true := fun h1 h2 => hts _ (List.mem_cons_of_mem _ (bg_of h1 h2))
  refine va_newaK (atype := .boolean) hx hb (w hw rfl) rfl hd rfl hz1 hN hby hk hn hz fun H1 cA e1 z1 o1 hAr hNm => ?_
  have hc : s.vm.findClass ("[" ++ FieldType.boolean.toString) = some E.2.1.2.2.1 := (hK.1.2 2 _ rfl).2
  have hcA : cA = E.2.1.2.2.1 := Option.some.inj (hNm.symm.trans hc)
  subst hcA
  refine kk H1 locs ls (by rw [z1]; simp; omega) (va_P_push hP hz o1 ?_) (va_S_push hS hz z1 o1) hl
  show H1[E.2.2 + sh.length]? = some (vp_cell E.2.1.2.2.1 (N, .inl (M.1 sh.length)))
  rw [e1, hM]
  rfl
theorem VA.newJ (C : CA E X cc nL own fr lo mc ms cw) {z : Int32} (N : Nat) (hw : Cond.arrayClass .long ∈ lw_tbl) (hz1 : ¬ z < 0) (hN : z.toNatClampNeg = N) (hby : N * componentBytes .long ≤ 536870912) (hM : M.2 sh.length = (fun _ => 0)) (hk : k + 1 ≤ mc) (hn : n + N ≤ ms) (hd : decode cc pc = .ok (.newarray .long, 2))
    (kk : VA E X nL shf Mf mc ms (pc + 2) lv (.ref (E.2.2 + sh.length) :: st) (sh ++ [.inl (1, N)]) M (k + 1) (n + N)) : VA E X nL shf Mf mc ms pc lv (.int z :: st) sh M k n := by
  obtain ⟨p, l, e, R, s, m, args, below, meth, cd⟩ := X
  obtain ⟨hx, hb, hml, hr, hlk, hown, hts, hinn, hK, hR, hE⟩ := C
  intro H locs ls hz hP hS hl
  subst hR
  have w : ∀ {c : Cond}, c ∈ lw_tbl → goodWord c = true → c.before args s = true := fun h1 h2 => hts _ (List.mem_cons_of_mem _ (bg_of h1 h2))
  refine va_newaK (atype := .long) hx hb (w hw rfl) rfl hd rfl hz1 hN hby hk hn hz fun H1 cA e1 z1 o1 hAr hNm => ?_
  have hc : s.vm.findClass ("[" ++ FieldType.long.toString) = some E.2.1.2.1 := (hK.1.2 1 _ rfl).2
  have hcA : cA = E.2.1.2.1 := Option.some.inj (hNm.symm.trans hc)
  subst hcA
  refine kk H1 locs ls (by rw [z1]; simp; omega) (va_P_push hP hz o1 ?_) (va_S_push hS hz z1 o1) hl
  show H1[E.2.2 + sh.length]? = some (vp_cell E.2.1.2.1 (N, .inr (.inl (M.2 sh.length))))
  rw [e1, hM]
  rfl
theorem VA.newR (C : CA E X cc nL own fr lo mc ms cw) {z : Int32} (N : Nat) {ix : Nat} (hw : Cond.classLink own ix RX0 ∈ lw_tbl) (hz1 : ¬ z < 0) (hN : z.toNatClampNeg = N) (hby : N * 4 ≤ 536870912) (hk : k + 1 ≤ mc) (hn : n + N ≤ ms) (hd : decode cc pc = .ok (.anewarray ix, 3))
    (kk : VA E X nL shf Mf mc ms (pc + 3) lv (.ref (E.2.2 + sh.length) :: st) (sh ++ [.inr (.inr (List.replicate N none))]) M (k + 1) (n + N)) : VA E X nL shf Mf mc ms pc lv (.int z :: st) sh M k n := by
  obtain ⟨p, l, e, R, s, m, args, below, meth, cd⟩ := X
  obtain ⟨hx, hb, hml, hr, hlk, hown, hts, hinn, hK, hR, hE⟩ := C
  intro H locs ls hz hP hS hl
  subst hR
  subst hN
  have w : ∀ {c : Cond}, c ∈ lw_tbl → goodWord c = true → c.before args s = true := fun h1 h2 => hts _ (List.mem_cons_of_mem _ (bg_of h1 h2))
  refine W.anew hx hb hown (w hw rfl) (va_AO.use hK.2) rfl hd rfl hz1 hby hk hn fun cA kA comp f1 f2 f3 f4 => ?_
  obtain ⟨kA', comp', g1, g2, g3, g4⟩ := (hK.1.2 3 _ rfl).2
  have hcA : cA = E.2.1.2.2.2 := Option.some.inj (f1.symm.trans g4)
  subst hcA
  generalize hH1 : H.push ({ cls := E.2.1.2.2.2, slots := Array.replicate z.toNatClampNeg .null, vm := .none } : Cell) = H1
  have z1 : H1.size = E.2.2 + sh.length + 1 := by rw [← hH1, Array.size_push, hz]
  have e1 : H1[E.2.2 + sh.length]? = some (arrV E.2.1.2.2.2 z.toNatClampNeg (fun _ => .null)) := by rw [← hH1, ← hz, Array.getElem?_push_size, ← arrV_new]
  have o1 : ∀ q : Nat, q < E.2.2 + sh.length → H1[q]? = H[q]? := fun q hq => by rw [← hH1, Array.getElem?_push, if_neg (by omega)]
  rw [hz]
  refine kk H1 locs ls (by rw [z1]; simp; omega) (va_P_push hP hz o1 ?_) (va_S_push hS hz z1 o1) hl
  show H1[E.2.2 + sh.length]? = some (vp_cell E.2.1.2.2.2 ((List.replicate z.toNatClampNeg none).length, .inr (.inr (.inr (.inr (fun k => ((List.replicate z.toNatClampNeg none).getD k none).map (fun c => E.2.2 + c)))))))
  rw [e1, vp_cell_q, List.length_replicate]
  have hj : (fun j => va_rf (((List.replicate z.toNatClampNeg (none : Option Nat)).getD j none).map (fun c => E.2.2 + c))) = fun _ => Value.null := by
    funext j
    rw [List.getD_eq_getElem?_getD, List.getElem?_replicate]
    split <;> rfl
  rw [hj]
end VAR1
