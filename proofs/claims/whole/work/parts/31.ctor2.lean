theorem wl_putR {E : Ev} {sh : List Sh} {M : Mm} {c ci j r : Nat} {fl : List Fk} (hc : sh[c]? = some (.inr (.inl (ci, fl)))) (hj : j < fl.length) : (wl (gs E sh) M).set c (E.2.2 + c, .inr (ci, (fl.mapIdx (fun k f => fv (gs E sh) M c k f)).set j (.ref (E.2.2 + r)))) = wl (gs E (sh.set c (.inr (.inl (ci, fl.set j (some (some (some r)))))))) M := by
  rw [wl_gs_eq E sh [], wl_gs_eq E (sh.set c _) []]
  apply List.ext_getElem?
  intro i
  rw [List.getElem?_set, List.getElem?_mapIdx, List.getElem?_mapIdx, List.getElem?_set]
  have hl : c < sh.length := (List.getElem?_eq_some_iff.mp hc).1
  by_cases e : c = i
  · subst e
    rw [if_pos rfl, if_pos rfl, List.length_mapIdx, if_pos hl, if_pos hl]
    simp only [Option.map_some, en]
    congr 4
    apply List.ext_getElem?
    intro i
    rw [List.getElem?_set, List.getElem?_mapIdx, List.getElem?_mapIdx, List.getElem?_set, List.length_mapIdx]
    by_cases e : j = i
    · subst e
      rw [if_pos rfl, if_pos rfl, if_pos hj, if_pos hj]
      rfl
    · rw [if_neg e, if_neg e]
      cases hy : fl[i]? with
      | none => rfl
      | some y =>
        simp only [Option.map_some]
        rcases y with _ | _ | _ | r <;> rfl
  · rw [if_neg e, if_neg e]
theorem wl_setA {E : Ev} {sh : List Sh} {M M' : Mm} {c : Nat} {x : Sh} (hc : sh[c]? = some x) (h : ∀ a y, a ≠ c → en (gs E sh) M' a y = en (gs E sh) M a y) : (wl (gs E sh) M).set c (E.2.2 + c, en (gs E sh) M' c x) = wl (gs E sh) M' := wl_set (G := gs E sh) hc h
theorem wl_putA {E : Ev} {sh : List Sh} {M : Mm} {c j r : Nat} {rs : List (Option Nat)} (hc : sh[c]? = some (.inr (.inr rs))) (hj : j < rs.length) : (wl (gs E sh) M).set c (E.2.2 + c, .inl (E.2.1.2.2.2, rs.length, .inr (.inr (.inr (.inr (va_up (fun k => (rs.getD k none).map (fun c => E.2.2 + c)) j (some (E.2.2 + r)))))))) = wl (gs E (sh.set c (.inr (.inr (rs.set j (some r)))))) M := by
  rw [wl_gs_eq E sh [], wl_gs_eq E (sh.set c _) []]
  apply List.ext_getElem?
  intro i
  rw [List.getElem?_set, List.getElem?_mapIdx, List.getElem?_mapIdx, List.getElem?_set]
  have hl : c < sh.length := (List.getElem?_eq_some_iff.mp hc).1
  by_cases e : c = i
  · subst e
    rw [if_pos rfl, if_pos rfl, List.length_mapIdx, if_pos hl, if_pos hl]
    simp only [Option.map_some, en, List.length_set]
    congr 9
    funext q
    by_cases hq : q = j
    · subst hq
      rw [va_up_self, List.getD_eq_getElem?_getD, List.getElem?_set_self hj]
      rfl
    · rw [va_up_ne _ _ hq, List.getD_eq_getElem?_getD, List.getD_eq_getElem?_getD, List.getElem?_set_ne (Ne.symm hq)]
      rfl
  · rw [if_neg e, if_neg e]
section VAR2
variable {E : Ev} {X : Ct} {cc : ByteArray} {nL fr lo mc ms : Nat} {own : String} {cw : Cond} {shf sh : List Sh} {Mf M : Mm} {pc k n : Nat} {lv lv' : List (Nat × Value)} {st : List Value}
theorem VA.getR (C : CA E X cc nL own fr lo mc ms cw) {ci : Nat} {Cn : String} {T : u_T} {N : Nat} (hcl : vwCl[ci]? = some (Cn, T, N)) (hin : ∀ w ∈ u_ws Cn T N, w ∈ lw_tbl) {c : Nat} {fl : List Fk} (hc : sh[c]? = some (.inr (.inl (ci, fl)))) (j : Nat) (hj : j < N) {ix : Nat} (hw : Cond.fieldLink own ix (T j).1 (T j).2.1 (T j).2.2.1 ∈ lw_tbl) {r : Nat} (hf : fl[j]? = some (some (some (some r)))) (hd : decode cc pc = .ok (.getfield ix, 3)) (kk : VA E X nL shf Mf mc ms (pc + 3) lv (.ref (E.2.2 + r) :: st) sh M k n) : VA E X nL shf Mf mc ms pc lv (.ref (E.2.2 + c) :: st) sh M k n := by
  obtain ⟨p, l, e, R, s, m, args, below, meth, cd⟩ := X
  obtain ⟨hx, hb, hml, hr, hlk, hown, hts, hinn, hK, hR, hE⟩ := C
  intro H locs ls hz hP hS hl
  exact va_get hx hb hts (fun w h => List.mem_cons_of_mem _ (bg_of (hin w h) (u_good h))) hown hK.1 hP c (wl_atA M hc) hcl j hj (hts _ (List.mem_cons_of_mem _ (bg_of hw rfl))) (fun _ h => h) (by simp [List.getElem?_mapIdx, hf, fv, gs]) hd (kk H locs ls hz hP hS hl)
theorem VA.putI (C : CA E X cc nL own fr lo mc ms cw) {ci : Nat} {Cn : String} {T : u_T} {N : Nat} (hcl : vwCl[ci]? = some (Cn, T, N)) (hin : ∀ w ∈ u_ws Cn T N, w ∈ lw_tbl) {c : Nat} {fl : List Fk} (hc : sh[c]? = some (.inr (.inl (ci, fl)))) (j : Nat) (hj : j < N) {ix : Nat} (hw : Cond.fieldLink own ix (T j).1 (T j).2.1 (T j).2.2.1 ∈ lw_tbl) (ty : Nat → FieldType) (hty : ∀ k, k < N → parseFieldDescriptor (T k).2.2.1 = some (ty k)) (hnm : ∀ a, a < N → ∀ b, b < N → a ≠ b → (T a).2.1 ≠ (T b).2.1) (hfin : (T j).2.2.2 = false) (hd1 : parseFieldDescriptor (T j).2.2.1 = some .int) {v : Int32} (hf : fl[j]? = some none) (hd : decode cc pc = .ok (.putfield ix, 3)) (kk : VA E X nL shf Mf mc ms (pc + 3) lv st sh (sI M c j v) k n) : VA E X nL shf Mf mc ms pc lv (.int v :: .ref (E.2.2 + c) :: st) sh M k n := by
  obtain ⟨p, l, e, R, s, m, args, below, meth, cd⟩ := X
  obtain ⟨hx, hb, hml, hr, hlk, hown, hts, hinn, hK, hR, hE⟩ := C
  intro H locs ls hz hP hS hl
  have hlen : j < (fl.mapIdx (fun j f => fv (gs E sh) M c j f)).length := by rw [List.length_mapIdx]; exact (List.getElem?_eq_some_iff.mp hf).1
  have hin' : ∀ w ∈ u_ws Cn T N, w ∈ cw :: bg := fun w h => List.mem_cons_of_mem _ (bg_of (hin w h) (u_good h))
  have hap := va_apart (own := own) hts hin' ty hty hnm hK.1 hcl
  have he := wl_atA (E := E) M hc
  have hD := wlA_D E sh M
  have hP0 : va_P E.1 vwCl (wl (gs E sh) M) H := hP
  obtain ⟨r, h1, cell, q1, q2, q3, q4⟩ := hP0 c _ he
  have hr' : r = (Cn, T, N) := Option.some.inj (h1.symm.trans hcl)
  subst hr'
  obtain ⟨hSl, hfc, kC, hkC, hkind⟩ := hK.1.1 ci _ hcl
  obtain ⟨cf, kf, fi, f, hi, hsl⟩ := hSl j hj
  have hlay := hts _ (hin' _ (u_in_lay hj))
  unfold u_lay at hlay
  rw [if_neg (by rw [hfin]; decide)] at hlay
  have hst := (u_facts hfc hkC (u_lays hts hin' hj) hi).1
  have h6 := u_store hfc hkC hkind hlay hi hd1 (v := .int v) rfl rfl
  refine W.putK hx hb (f := f) ⟨hown, hts _ (List.mem_cons_of_mem _ (bg_of hw rfl)), ⟨_, _, _, hi⟩, hst⟩ (by rw [q2]; exact h6) q1 q3 (by rw [hsl]; exact k2_hasslot (q4 j hj)) rfl rfl hd fun H' e1 e2 e3 => ?_
  rw [hsl] at e1 ⊢
  have hP1 : va_P E.1 vwCl ((wl (gs E sh) M).set c (E.2.2 + c, .inr (ci, (fl.mapIdx (fun j f => fv (gs E sh) M c j f)).set j (.int v)))) H' := hP0.set hD he ⟨_, hcl, t_OB.to (V := updV (vp_V (fl.mapIdx (fun j f => fv (gs E sh) M c j f))) j (.int v)) ⟨_, e1, q2, q3, t_set q4 hap hj (.int v)⟩ (fun i _ => vp_updV_set hlen (.int v) i)⟩ e3
  rw [← en_obI hf, wl_setA hc (fun a y h => en_sI_ne h y)] at hP1
  exact kk H' _ ls (by rw [e2]; exact hz) hP1 (hS.put e2 e3 (Nat.le_add_right _ _)) hl
theorem VA.putR (C : CA E X cc nL own fr lo mc ms cw) {ci : Nat} {T : u_T} {N : Nat} (hcl : vwCl[ci]? = some (own, T, N)) (hin : ∀ w ∈ u_ws own T N, w ∈ lw_tbl) {c : Nat} {fl : List Fk} (hc : sh[c]? = some (.inr (.inl (ci, fl)))) (j : Nat) (hj : j < N) {ix : Nat} (hw : Cond.fieldLink own ix (T j).1 (T j).2.1 (T j).2.2.1 ∈ lw_tbl) (ty : Nat → FieldType) (hty : ∀ k, k < N → parseFieldDescriptor (T k).2.2.1 = some (ty k)) (hnm : ∀ a, a < N → ∀ b, b < N → a ≠ b → (T a).2.1 ≠ (T b).2.1) (hfin : (T j).2.2.2 = true) (hdecl : (T j).1 = own) {t : FieldType} (hd1 : parseFieldDescriptor (T j).2.2.1 = some t) (hn1 : ∀ a, narrow t (.ref a) = .ref a) (hn2 : ∀ a, fits t (.ref a) = true) (hjl : j < fl.length) {r : Nat} (hd : decode cc pc = .ok (.putfield ix, 3)) (kk : VA E X nL shf Mf mc ms (pc + 3) lv st (sh.set c (.inr (.inl (ci, fl.set j (some (some (some r))))))) M k n) : VA E X nL shf Mf mc ms pc lv (.ref (E.2.2 + r) :: .ref (E.2.2 + c) :: st) sh M k n := by
  obtain ⟨p, l, e, R, s, m, args, below, meth, cd⟩ := X
  obtain ⟨hx, hb, hml, hr, hlk, hown, hts, hinn, hK, hR, hE⟩ := C
  intro H locs ls hz hP hS hl
  have hlen : j < (fl.mapIdx (fun j f => fv (gs E sh) M c j f)).length := by rw [List.length_mapIdx]; exact hjl
  have hin' : ∀ w ∈ u_ws own T N, w ∈ cw :: bg := fun w h => List.mem_cons_of_mem _ (bg_of (hin w h) (u_good h))
  have hap := va_apart (own := own) hts hin' ty hty hnm hK.1 hcl
  have he := wl_atA (E := E) M hc
  have hD := wlA_D E sh M
  have hP0 : va_P E.1 vwCl (wl (gs E sh) M) H := hP
  obtain ⟨r', h1, cell, q1, q2, q3, q4⟩ := hP0 c _ he
  have hr' : r' = (own, T, N) := Option.some.inj (h1.symm.trans hcl)
  subst hr'
  obtain ⟨hSl, hfc, kC, hkC, hkind⟩ := hK.1.1 ci _ hcl
  obtain ⟨cf, kf, fi, f, hi, hsl⟩ := hSl j hj
  have hlay := hts _ (hin' _ (u_in_lay hj))
  unfold u_lay at hlay
  rw [if_pos hfin] at hlay
  have hst := (u_facts hfc hkC (u_lays hts hin' hj) hi).1
  have hcf : m.cls = cf := by
    obtain ⟨_, _, c', _, _, _, -, -, hf', -, -, -, hown2, -⟩ := Cond.laysFinal_spec hlay
    have e1 : c' = cf := by have := hi.symm.trans hf'; simp at this; exact this.1.symm
    rw [hdecl] at hown2
    rw [← e1]; exact Option.some.inj (hown.symm.trans hown2)
  have h6 := u_fits hfc hkC hkind (Or.inr hlay) hi hd1 (hn1 (E.2.2 + r)) (hn2 (E.2.2 + r))
  refine W.putFinK hx hb hown (hts _ (List.mem_cons_of_mem _ (bg_of hw rfl))) hi hst hcf hinn (by rw [q2]; exact h6) q1 q3 (by rw [hsl]; exact k2_hasslot (q4 j hj)) rfl rfl hd fun H' e1 e2 e3 => ?_
  rw [hsl] at e1 ⊢
  have hP1 : va_P E.1 vwCl ((wl (gs E sh) M).set c (E.2.2 + c, .inr (ci, (fl.mapIdx (fun j f => fv (gs E sh) M c j f)).set j (.ref (E.2.2 + r))))) H' := hP0.set hD he ⟨_, hcl, t_OB.to (V := updV (vp_V (fl.mapIdx (fun j f => fv (gs E sh) M c j f))) j (.ref (E.2.2 + r))) ⟨_, e1, q2, q3, t_set q4 hap hj (.ref (E.2.2 + r))⟩ (fun i _ => vp_updV_set hlen (.ref (E.2.2 + r)) i)⟩ e3
  rw [wl_putR hc hjl] at hP1
  exact kk H' _ ls (by rw [e2, List.length_set]; exact hz) hP1 (hS.put e2 e3 (Nat.le_add_right _ _)) hl
theorem VA.iast (C : CA E X cc nL own fr lo mc ms cw) {c N : Nat} (hc : sh[c]? = some (.inl (0, N))) {i v : Int32} (hi : vp_in i N) (hd : decode cc pc = .ok (.iastore, 1)) (kk : VA E X nL shf Mf mc ms (pc + 1) lv st sh (sI M c i.toNatClampNeg v) k n) : VA E X nL shf Mf mc ms pc lv (.int v :: .int i :: .ref (E.2.2 + c) :: st) sh M k n := by
  obtain ⟨p, l, e, R, s, m, args, below, meth, cd⟩ := X
  obtain ⟨hx, hb, hml, hr, hlk, hown, hts, hinn, hK, hR, hE⟩ := C
  intro H locs ls hz hP hS hl
  have he := wl_atA (E := E) M hc
  have hP0 : va_P E.1 vwCl (wl (gs E sh) M) H := hP
  have hcell : H[E.2.2 + c]? = some (vp_cell E.2.1.1 (N, .inl (M.1 c))) := hP0 c _ he
  refine W.iast hx hb hcell ((hK.1.2 0 _ rfl).1 N (fun j => .int (M.1 c j))) (fun q => by cases q) (by show ¬ (i < 0 ∨ (arrV _ _ _).slots.size ≤ _); rw [arrV_size]; exact hi) rfl rfl hd fun H1 e z oq => ?_
  have hP1 : va_P E.1 vwCl ((wl (gs E sh) M).set c (E.2.2 + c, en (gs E sh) (sI M c i.toNatClampNeg v) c (.inl (0, N)))) H1 := by
    refine hP0.set (wlA_D E sh M) he ?_ oq
    show H1[E.2.2 + c]? = some (vp_cell E.2.1.1 (N, .inl ((sI M c i.toNatClampNeg v).1 c)))
    rw [e, vp_cell_i, vp_cell_i, arrV_store, sI_at]
    congr 2
    funext q
    by_cases hq : q = i.toNatClampNeg
    · subst hq; simp [updV, upd]
    · simp [updV, upd, hq]
  rw [wl_setA hc (fun a y h => en_sI_ne h y)] at hP1
  exact kk H1 _ ls (by rw [z]; exact hz) hP1 (hS.put z oq (Nat.le_add_right _ _)) hl
theorem VA.aast (C : CA E X cc nL own fr lo mc ms cw) {c : Nat} {rs : List (Option Nat)} (hc : sh[c]? = some (.inr (.inr rs))) {r : Nat} {fl : List Fk} (hv : sh[r]? = some (.inr (.inl (0, fl)))) {i : Int32} (hi : vp_in i rs.length) (hd : decode cc pc = .ok (.aastore, 1)) (kk : VA E X nL shf Mf mc ms (pc + 1) lv st (sh.set c (.inr (.inr (rs.set i.toNatClampNeg (some r))))) M k n) : VA E X nL shf Mf mc ms pc lv (.ref (E.2.2 + r) :: .int i :: .ref (E.2.2 + c) :: st) sh M k n := by
  obtain ⟨p, l, e, R, s, m, args, below, meth, cd⟩ := X
  obtain ⟨hx, hb, hml, hr, hlk, hown, hts, hinn, hK, hR, hE⟩ := C
  intro H locs ls hz hP hS hl
  have he := wl_atA (E := E) M hc
  have hev := wl_atA (E := E) M hv
  have hP0 : va_P E.1 vwCl (wl (gs E sh) M) H := hP
  have hcell : H[E.2.2 + c]? = some (vp_cell E.2.1.2.2.2 (rs.length, .inr (.inr (.inr (.inr (fun k => (rs.getD k none).map (fun c => E.2.2 + c))))))) := hP0 c _ he
  have hlt : i.toNatClampNeg < rs.length := Nat.not_le.mp fun q => hi (Or.inr q)
  have h0 : ¬ i < 0 := fun q => hi (Or.inl q)
  obtain ⟨r', hr', cellV, g1, g2, g3, -⟩ := hP0 r _ hev
  have hcls := (hK.1.1 0 _ rfl).2
  obtain ⟨kA, comp, k1, k2, k3, -⟩ := (hK.1.2 3 _ rfl).2
  have hcomp : comp = E.1.1 0 := Option.some.inj (k3.symm.trans hcls.1)
  subst hcomp
  obtain ⟨kC, hkC, -⟩ := hcls.2
  refine W.aast hx hb hcell (fun q h => by cases h) (fun h => by cases h) k1 k2 rfl hkC ⟨h0, by show _ < (arrV _ _ _).slots.size; rw [arrV_size]; exact hlt⟩ g1 (fun q h => by rw [g3] at h; cases h) (by rw [g2]; exact hkC) (by rw [g2]; exact va_assign hcls) rfl rfl hd fun H1 e z oq => ?_
  have hP1 : va_P E.1 vwCl ((wl (gs E sh) M).set c (E.2.2 + c, .inl (E.2.1.2.2.2, rs.length, .inr (.inr (.inr (.inr (va_up (fun k => (rs.getD k none).map (fun c => E.2.2 + c)) i.toNatClampNeg (some (E.2.2 + r))))))))) H1 := by
    refine hP0.set (wlA_D E sh M) he ?_ oq
    show H1[E.2.2 + c]? = some (vp_cell _ _)
    rw [e, vp_cell_q, vp_cell_q, arrV_store]
    congr 2
    funext q
    by_cases hq : q = i.toNatClampNeg
    · subst hq; simp [updV, va_up, va_rf]
    · simp [updV, va_up, hq]
  rw [wl_putA hc hlt] at hP1
  exact kk H1 _ ls (by rw [z, List.length_set]; exact hz) hP1 (hS.put z oq (Nat.le_add_right _ _)) hl
theorem VA.callI (C : CA E X cc nL own fr lo mc ms cw) {y : MethodName} {cy : ByteArray} {ny fy ly a : Nat} {M1 : Mm} {sh1 : List Sh} {mc1 ms1 : Nat} {rest : List Value} (hM : MtA X.2.1 E y cy ny fy ly a sh M sh1 M1 mc1 ms1) (hc1 : Cond.code y cy ny none ∈ lw_tbl) (hc2 : Cond.instanceMethod y ∈ lw_tbl) (hc3 : Cond.initialized y.cls ∈ lw_tbl) {ix : Nat} (hw : Cond.methodLink own ix y ∈ lw_tbl) (hy1 : y.name = "<init>") (hyd : y.cls ≠ "java/lang/invoke/MethodHandle" ∧ y.cls ≠ "java/lang/invoke/VarHandle" ∧ (parseMethodDescriptor y.desc).map (fun d => d.parameters.length) = some 0) (hroom : fy + 1 ≤ fr ∧ 8 + (ny + 11) + ly ≤ lo) (h8 : (rest.map fun v => v.category).sum ≤ 8) (hk : k + mc1 ≤ mc) (hn : n + ms1 ≤ ms) (hd : decode cc pc = .ok (.invokespecial ix, 3))
    (kk : VA E X nL shf Mf mc ms (pc + 3) lv rest sh1 M1 (k + mc1) (n + ms1)) : VA E X nL shf Mf mc ms pc lv (.ref (E.2.2 + a) :: rest) sh M k n := by
  obtain ⟨p, l, e, R, s, m, args, below, meth, cd⟩ := X
  obtain ⟨hx, hb, hml, hr, hlk, hown, hts, hinn, hK, hR, hE⟩ := C
  intro H locs ls hz hP hS hl
  subst hR
  have w : ∀ {c : Cond}, c ∈ lw_tbl → goodWord c = true → c.before args s = true := fun h1 h2 => hts _ (List.mem_cons_of_mem _ (bg_of h1 h2))
  have hG : GoodIn (cw :: bg) (Cond.code y cy ny none :: bg) := bg_GoodIn hc1 [] (by simp)
  have hrun := va_runI (As := []) (rest := rest) (b := E.2.2 + a) (g := F0 m pc ls (.ref (E.2.2 + a) :: rest)) (below := below) (meth := meth) (e := e) (locs := locs) (cells := k) (slots := n) ⟨hx, hb, hml, hown, hts⟩ hM (cwI (R := ({ frames := fr, cells := mc, slots := ms, locals := lo } : Room)) 0 hts hG rfl rfl rfl (w hc3 rfl) (w hw rfl) (w hc2 rfl) hy1 hyd hroom) ⟨pA_blind _ _ _ _, fun U hU hW => ⟨rfl, by rw [hU]; exact hz, by rw [hU]; exact hP, va_K.moved hW.alike hK.1, va_AO.moved hW.alike hK.2⟩⟩ rfl rfl hl.1 rfl (lv_room h8) hd ⟨hk, hn⟩
  intro T hT XX
  obtain ⟨v, st₀, t, T', L, h0, X', hL, e1, e2, ⟨hv, hz1, hP1, hzz, hkk⟩, stp⟩ := hrun T hT XX
  cases hv
  rw [h0] at hzz hkk
  obtain ⟨t2, a1, b1⟩ := kk T'.heap (locs ++ L) ls (by rw [e1]; exact hz1) (by rw [e1]; exact hP1)
    ⟨Nat.le_trans hS.1 (by rw [e1]; exact hzz), fun q h1 h2 => by rw [e1, hkk q (Nat.lt_of_lt_of_le h1 hS.1) h2]; exact hS.2.1 q h1 h2, fun q hq => by
      rcases List.mem_append.mp hq with h | h
      · exact hS.2.2 q h
      · exact hL q h⟩ hl T' rfl X'
  exact ⟨t2, stp t2 a1, b1⟩
end VAR2
