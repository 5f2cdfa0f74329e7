/-! the best exchange, reference side -/
def KF (m : Bool) (A N : Nat) : Prop := A = TP ∨ ∃ o t, 1 ≤ o ∧ o < 64 ∧ 1 ≤ t ∧ t < 64 ∧ o * 64 + t < N ∧ A = ky m o t
def BM (A : Nat) (M : Mm) : Prop := if A = TP then M.1 0 23 = mI 6 else M.1 0 23 = nI (A / 64 % 64) ∧ M.1 0 24 = nI (A % 64)
def FrB (M M' : Mm) : Prop := (∀ a, a ≠ 0 → M'.1 a = M.1 a) ∧ ∀ j, j ≠ 23 → j ≠ 24 → M'.1 0 j = M.1 0 j
theorem FrB.refl (M : Mm) : FrB M M := ⟨fun _ _ => rfl, fun _ _ _ => rfl⟩
theorem FrB.trans {A B C : Mm} (h : FrB A B) (g : FrB B C) : FrB A C := ⟨fun a ha => by rw [g.1 a ha, h.1 a ha], fun j h1 h2 => by rw [g.2 j h1 h2, h.2 j h1 h2]⟩
theorem MK_B {b : Sb} {M M' : Mm} (h : FrB M M') (hM : MK b M) : MK b M' := MK_fr (h.2 0 (by decide) (by decide)) (h.2 1 (by decide) (by decide)) (h.1 1 (by decide)) (h.1 2 (by decide)) (h.1 3 (by decide)) hM
theorem ky_o (m : Bool) {o t : Nat} (ho : o < 64) (ht : t < 64) : ky m o t / 64 % 64 = o := by
  unfold ky
  generalize (if m = true then (6 - pc o) * 8 + pc t else pc t * 8 + pc o) = g
  omega
theorem ky_t (m : Bool) {o t : Nat} (ho : o < 64) (ht : t < 64) : ky m o t % 64 = t := by
  unfold ky
  generalize (if m = true then (6 - pc o) * 8 + pc t else pc t * 8 + pc o) = g
  omega
theorem ky_ne {m : Bool} {o t : Nat} (ho : o < 64) (ht : t < 64) : ¬ ky m o t = TP := by
  have := ky_lt (m := m) ho ht
  have hT : TP = 1048576 := rfl
  omega
theorem isBetter_k {m : Bool} {o t A : Nat} {M : Mm} (ho : o < 64) (ht : t < 64) (hB : BM A M) (hK : KF m A (o * 64 + t)) : fX9_isBetter (nI o) (nI t) (nI m.toNat) M = some (nI (decide (ky m o t < A)).toNat, M) := by
  unfold fX9_isBetter
  have hT : TP = 1048576 := rfl
  have hk := ky_lt (m := m) ho ht
  rcases hK with rfl | ⟨p, q, hp1, hp2, hq1, hq2, hlex, rfl⟩
  · have h23 : M.1 0 23 = mI 6 := by
      unfold BM at hB
      rw [if_pos rfl] at hB
      exact hB
    rw [h23, if_neg (by decide), decide_eq_true (by omega)]; rfl
  · unfold BM at hB
    rw [if_neg (ky_ne hp2 hq2), ky_o m hp2 hq2, ky_t m hp2 hq2] at hB
    rw [hB.1, if_pos (nI_le (Nat.zero_le _) (by omega)), ones_n (by omega), bd_s, hB.1, ones_n (by omega), bd_s, hB.2, ones_n (by omega), bd_s, ones_n (by omega), bd_s, ib0]
    have o6 := pc_6 ho
    have t6 := pc_6 ht
    have p6 := pc_6 hp2
    have q6 := pc_6 hq2
    unfold ky
    generalize pc o = x at *
    generalize pc t = y at *
    generalize pc p = u at *
    generalize pc q = v at *
    have a1 : nI 0 < nI v - nI y ↔ y < v := lt0_sub (by omega) (by omega)
    have a2 : nI 0 < nI x - nI u ↔ u < x := lt0_sub (by omega) (by omega)
    have z : ∀ {i j : Nat}, i ≤ 6 → j ≤ 6 → (nI i - nI j = nI 0 ↔ i = j) := by
      intro i j hi hj
      constructor
      · intro h
        have := congrArg Int32.toInt h
        rw [pk_sub_toInt (by omega) (by omega), nI_toInt (by decide)] at this
        omega
      · intro h; subst h; rw [pk_sub (Nat.le_refl _), Nat.sub_self]
    have a3 : nI v - nI y = nI 0 ↔ v = y := z q6 t6
    have a4 : nI x - nI u = nI 0 ↔ x = u := z o6 p6
    have a5 : nI 0 ≤ nI x - nI u ↔ ¬ x < u := by
      rw [Int32.le_iff_toInt_le, pk_sub_toInt (by omega) (by omega), nI_toInt (by decide)]; omega
    have a6 : nI v - nI y ≤ nI 0 ↔ ¬ y < v := by
      rw [Int32.le_iff_toInt_le, pk_sub_toInt (by omega) (by omega), nI_toInt (by decide)]; omega
    simp only [a1, a2, a3, a4, a5, a6]
    cases m
    · simp only [Bool.false_eq_true, if_false]
      by_cases c1 : y < v
      · rw [if_pos c1, decide_eq_true (by omega)]; rfl
      · rw [if_neg c1]
        by_cases c2 : v = y
        · rw [if_pos c2]
          by_cases c3 : x < u
          · rw [if_neg (fun z => z c3), decide_eq_true (by omega)]; rfl
          · rw [if_pos c3, decide_eq_false (by omega)]; rfl
        · rw [if_neg c2, decide_eq_false (by omega)]; rfl
    · simp only [if_true]
      by_cases c1 : u < x
      · rw [if_pos c1, decide_eq_true (by omega)]; rfl
      · rw [if_neg c1]
        by_cases c2 : x = u
        · rw [if_pos c2]
          by_cases c3 : y < v
          · rw [if_neg (fun z => z c3), decide_eq_true (by omega)]; rfl
          · rw [if_pos c3, decide_eq_false (by omega)]; rfl
        · rw [if_neg c2, decide_eq_false (by omega)]; rfl
theorem cr_lt2 {o t : Nat} (ho : o < 64) (ht : t < 64) : o ||| t * 64 < 4096 := or_lt4 (by omega) (by omega)
theorem ld_sw {b : Sb} {o t : Nat} (ho : o < 64) : ld b (o ||| t * 64).testBit = (sw b 0 o : Int) - sw b 6 t := by
  have e : ∀ k, (o ||| t * 64).testBit k = if k < 6 then o.testBit k else t.testBit (k - 6) := cr_bit ho
  simp only [ld, sw, sm, sN, sgn, e]
  simp [neg_ite]
  have c : ∀ (p : Prop) [Decidable p] (w : Nat), ((if p then w else 0 : Nat) : Int) = if p then (w : Int) else 0 := by
    intro p _ w
    split <;> rfl
  simp only [c]
  omega
theorem canEx_k {b : Sb} {M : Mm} {o t : Nat} (hM : MK b M) (hO : OK b) (ho : o < 64) (ht : t < 64) : fX9_canExchange (nI o) (nI t) M = some (nI (decide (dif o (OO b) = 0) && vT b o t).toNat, M) := by
  unfold fX9_canExchange vT
  have hs := cr_lt2 ho ht
  rw [jshl_nI (by decide) (by omega), show t * 2 ^ 6 = t * 64 from rfl, nI_or, areAllOpen_s hM hO (by omega), bd_s, ib0, worthOf_s hM hO (by omega), bd_s]
  simp only [ld_z hO]
  rw [ld_sw ho]
  have e1 : allOp b (o ||| t * 64).testBit 12 = (decide (dif o (OO b) = 0) && decide (dif t (TT b) = 0)) := by
    have h := dif_op (b := b) hs
    rw [cr_dif ho, bs_mod, bs_div] at h
    cases ha : allOp b (o ||| t * 64).testBit 12
    · rw [ha] at h
      have : ¬ (dif o (OO b) = 0 ∧ dif t (TT b) = 0) := fun z => by have := h.mp z; cases this
      rw [← Bool.decide_and, decide_eq_false this]
    · have := h.mpr ha
      rw [decide_eq_true this.1, decide_eq_true this.2]; rfl
  rw [e1]
  cases decide (dif o (OO b) = 0)
  · rfl
  · cases decide (dif t (TT b) = 0)
    · rfl
    · simp only [Bool.and_self, if_true, Bool.true_and]
      by_cases q : sw b 6 t = sw b 0 o
      · rw [if_pos (by omega), decide_eq_true q]; rfl
      · rw [if_neg (by omega), decide_eq_false q]; rfl
theorem KF_mono {m : Bool} {A N N' : Nat} (h : KF m A N) (hN : N ≤ N') : KF m A N' := by
  rcases h with h | ⟨o, t, h1, h2, h3, h4, h5, h6⟩
  · exact Or.inl h
  · exact Or.inr ⟨o, t, h1, h2, h3, h4, by omega, h6⟩
theorem fe_23 {m : Bool} {b : Sb} {w o : Nat} (hO : OK b) (hw : w < 64) (ho1 : 1 ≤ o) (ho : o < 64) (nx : Int32 → Int32 → Int32 → Mm → Option (Unit × Mm)) : ∀ f r t A M, t + r = 64 → r < f → 1 ≤ t → KF m A (o * 64 + t) → BM A M → MK b M → ∃ M', fX9_findExchange_b23 nx f (nI w) (nI m.toNat) (nI o) (nI t) M = nx (nI w) (nI m.toNat) (nI (o + 1)) M' ∧ BM (if vO b w o then fT m b o r t A else A) M' ∧ KF m (if vO b w o then fT m b o r t A else A) ((o + 1) * 64) ∧ FrB M M' := by
  intro f
  induction f with
  | zero => intro r t A M _ h; omega
  | succ f ih =>
    intro r t A M ht hr ht1 hK hB hM
    rw [fX9_findExchange_b23]
    cases r with
    | zero =>
      rw [if_pos (nI_le (by omega) (by omega)), nI_1']
      have e : (if vO b w o = true then fT m b o 0 t A else A) = A := by split <;> rfl
      rw [e]
      exact ⟨M, rfl, hB, KF_mono hK (by omega), FrB.refl M⟩
    | succ r =>
      have h64 : t < 64 := by omega
      have hd : dif w o < 2 ^ 6 := dif_lt (by simpa using hw)
      have e1 : nI (dif w o) = nI 0 ↔ dif w o = 0 := nI_z (by omega)
      have hk := ky_lt (m := m) ho h64
      rw [if_neg (nI_ge h64 (by decide)), nI_dif, isBetter_k ho h64 hB hK, bd_s, ib0]
      unfold fX9_findExchange_b53 fX9_findExchange_b54
      rw [if_pos (show nI 0 = nI 0 from rfl), if_neg (show ¬ nI 1 = nI 0 by decide), canEx_k hM hO ho h64, bd_s, ib0, nI_1']
      simp only [e1]
      have same : (vO b w o && vT b o t) = false ∨ A ≤ ky m o t → ∃ M', fX9_findExchange_b23 nx f (nI w) (nI m.toNat) (nI o) (nI (t + 1)) M = nx (nI w) (nI m.toNat) (nI (o + 1)) M' ∧ BM (if vO b w o then fT m b o (r + 1) t A else A) M' ∧ KF m (if vO b w o then fT m b o (r + 1) t A else A) ((o + 1) * 64) ∧ FrB M M' := by
        intro h
        have e : (if vO b w o = true then fT m b o (r + 1) t A else A) = (if vO b w o = true then fT m b o r (t + 1) A else A) := by
          rw [fT]
          rcases h with h | h
          · cases hv : vO b w o
            · rfl
            · rw [hv, Bool.true_and] at h
              rw [h]; rfl
          · rw [Nat.min_eq_left h]
            congr 2
            split <;> rfl
        rw [e]
        exact ih r (t + 1) A M (by omega) (by omega) (by omega) (KF_mono hK (by omega)) hB hM
      by_cases q1 : dif w o = 0
      · rw [if_pos q1]
        have hv : vO b w o = decide (dif o (OO b) = 0) := by unfold vO; rw [decide_eq_true q1, Bool.and_true]
        by_cases q2 : ky m o t < A
        · rw [decide_eq_true q2, if_pos rfl, ← hv]
          cases hvv : (vO b w o && vT b o t)
          · exact same (Or.inl hvv)
          · rw [if_pos rfl]
            rw [Bool.and_eq_true] at hvv
            have e : (if vO b w o = true then fT m b o (r + 1) t A else A) = (if vO b w o = true then fT m b o r (t + 1) (ky m o t) else ky m o t) := by
              rw [if_pos hvv.1, if_pos hvv.1, fT, if_pos hvv.2, Nat.min_eq_right (by omega)]
            rw [e]
            have fb : FrB M (sI (sI M 0 23 (nI o)) 0 24 (nI t)) := ⟨fun a ha => by rw [sI_n ha, sI_n ha], fun j h1 h2 => by rw [sI_j _ h2, sI_j _ h1]⟩
            obtain ⟨M1, m1, m2, m3, m4⟩ := ih r (t + 1) (ky m o t) (sI (sI M 0 23 (nI o)) 0 24 (nI t)) (by omega) (by omega) (by omega) (Or.inr ⟨o, t, ho1, ho, ht1, h64, by omega, rfl⟩) (by
              unfold BM
              rw [if_neg (ky_ne ho h64), ky_o m ho h64, ky_t m ho h64]
              exact ⟨by rw [sI_j _ (by decide), sI_s], sI_s _ _ _ _⟩) (MK_B fb hM)
            exact ⟨M1, m1, m2, m3, fb.trans m4⟩
        · rw [decide_eq_false q2, if_neg (by decide)]
          exact same (Or.inr (by omega))
      · rw [if_neg q1]
        exact same (Or.inl (by unfold vO; rw [decide_eq_false q1, Bool.and_false, Bool.false_and]))
theorem fe_14 {m : Bool} {b : Sb} {w : Nat} (hO : OK b) (hw : w < 64) : ∀ f r o A M, o + r = 64 → r < f → 1 ≤ o → KF m A (o * 64) → BM A M → MK b M → ∃ M', fX9_findExchange_b14 f (nI w) (nI m.toNat) (nI o) M = some ((), M') ∧ BM (fO m b w r o A) M' ∧ KF m (fO m b w r o A) 4096 ∧ FrB M M' := by
  intro f
  induction f with
  | zero => intro r o A M _ h; omega
  | succ f ih =>
    intro r o A M ho hr ho1 hK hB hM
    rw [fX9_findExchange_b14]
    cases r with
    | zero =>
      rw [if_pos (nI_le (by omega) (by omega))]
      exact ⟨M, rfl, hB, KF_mono hK (by omega), FrB.refl M⟩
    | succ r =>
      have h64 : o < 64 := by omega
      obtain ⟨M1, e1, b1, k1, f1⟩ := fe_23 (m := m) hO hw ho1 h64 (fX9_findExchange_b14 f) fu 63 1 A M (by omega) (by decide) (by decide) (KF_mono hK (by omega)) hB hM
      obtain ⟨M2, e2, b2, k2, f2⟩ := ih r (o + 1) _ M1 (by omega) (by omega) (by omega) k1 b1 (MK_B f1 hM)
      rw [if_neg (nI_ge h64 (by decide)), e1, e2, fO]
      exact ⟨M2, rfl, b2, k2, f1.trans f2⟩
theorem fe_m {m : Bool} {b : Sb} {w : Nat} {M : Mm} (hO : OK b) (hw : w < 64) (hM : MK b M) : ∃ M', fX9_findExchange (nI w) (nI m.toNat) M = some ((), M') ∧ BM (bA m b w) M' ∧ KF m (bA m b w) 4096 ∧ FrB M M' := by
  unfold fX9_findExchange
  have fb : FrB M (sI (sI M 0 23 (mI 6)) 0 24 (mI 6)) := ⟨fun a ha => by rw [sI_n ha, sI_n ha], fun j h1 h2 => by rw [sI_j _ h2, sI_j _ h1]⟩
  obtain ⟨M1, e1, b1, k1, f1⟩ := fe_14 (m := m) hO hw fu 63 1 TP (sI (sI M 0 23 (mI 6)) 0 24 (mI 6)) (by omega) (by decide) (by decide) (Or.inl rfl) (by
    unfold BM
    rw [if_pos rfl, sI_j _ (by decide), sI_s]) (MK_B fb hM)
  exact ⟨M1, e1, b1, k1, fb.trans f1⟩
theorem RM_B {S : Sa} {M M' : Mm} (h : FrB M M') (hM : RM S M) : RM S M' := RM_hk hM (MK_B h hM.1) (fun j hj => h.2 j (by omega) (by omega)) (fun a ha => h.1 a (by omega))
/-- both answers, of one best exchange -/
theorem ans_k {m : Bool} {A v : Nat} {c : Bool} {M1 M2 : Mm} (hv : v ≤ 2) (hK : KF m A 4096) (hB : BM A M2) (h0 : M1.1 14 0 = nI (bestO A)) (h1 : M1.1 14 1 = nI (bestT A)) : ∃ r, fX2_answer (nI v) (if c then M1.1 14 0 else M1.1 14 1) M1 = some (r, M1) ∧ (if nI 0 ≤ M2.1 0 23 then (if nI v = nI 0 then (bd (fX9_ones (if c then M2.1 0 23 else M2.1 0 24) M2) fun r7 M7 => some (r7, M7)) else if nI v = nI 1 then some (M2.1 0 23, M2) else some (M2.1 0 24, M2)) else some (mI 6, M2)) = some (r, M2) := by
  unfold fX2_answer
  rw [h0, h1]
  rcases hK with rfl | ⟨o, t, o1, o2, t1, t2, _, rfl⟩
  · unfold BM at hB
    rw [if_pos rfl] at hB
    rw [hB, if_neg (show ¬ nI 0 ≤ mI 6 by decide), show bestO TP = 0 from if_pos rfl, if_pos rfl]
    exact ⟨_, rfl, rfl⟩
  · unfold BM at hB
    rw [if_neg (ky_ne o2 t2), ky_o m o2 t2, ky_t m o2 t2] at hB
    have e0 : bestO (ky m o t) = o := by unfold bestO; rw [if_neg (ky_ne o2 t2), ky_o m o2 t2]
    have e1 : bestT (ky m o t) = t := by unfold bestT; rw [if_neg (ky_ne o2 t2), ky_t m o2 t2]
    rw [e0, e1, hB.1, hB.2, if_neg (fun z => by have := (nI_z (k := o) (by omega)).mp z; omega), if_pos (nI_le (Nat.zero_le _) (by omega))]
    have bc : ∀ M, fJ6_bitCount_0f7a4 (if c = true then nI o else nI t) M = some (nI (pc (if c = true then o else t)), M) := by
      intro M
      cases c
      · exact bitCount_n (by omega) M
      · exact bitCount_n (by omega) M
    have on : ∀ M, fX9_ones (if c = true then nI o else nI t) M = some (nI (pc (if c = true then o else t)), M) := by
      intro M
      cases c
      · exact ones_n (by omega) M
      · exact ones_n (by omega) M
    rw [bc, bd_s, on, bd_s]
    match v, hv with
    | 0, _ => exact ⟨_, rfl, rfl⟩
    | 1, _ => exact ⟨_, rfl, rfl⟩
    | 2, _ => exact ⟨_, rfl, rfl⟩
theorem op_home : Op_home Rl2 := by
  intro x Mx M_ ⟨⟨S, hS, hX, hM⟩, hZ⟩
  have hO := hS.1
  unfold fX8_home fX9_home fX2_findForMost
  rw [isWithin_nI x (a := 0) (b := 2) (by decide) (by decide), bd_s, in_nI x (a := 0) (b := 2) (by decide) (by decide), bd_s, ib0, ib0]
  cases hw : wi x 0 2
  · exact ⟨_, _, _, rfl, rfl, ⟨S, hS, hX, hM⟩, hZ⟩
  obtain ⟨v, _, hv, rfl⟩ := wi_of (by decide) hw
  obtain ⟨M1, e1, g1, g2, f1, z1⟩ := find_c (m := true) (w := 0) hX.1 hO hZ (by decide)
  obtain ⟨M2, e2, b2, k2, f2⟩ := fe_m (m := true) (w := 0) hO (by decide) hM.1
  obtain ⟨r, a1, a2⟩ := ans_k (c := true) hv k2 b2 g1 g2
  simp only [if_true] at a1 a2 ⊢
  have e1 : fX2_find 1 (nI 0) (nI 1) Mx = _ := e1
  have e2 : fX9_findExchange (nI 0) (nI 1) M_ = _ := e2
  rw [e1, bd_s, bd_s, a1, bd_s, e2, bd_s, a2]
  exact ⟨_, _, _, rfl, rfl, ⟨S, hS, RX_fr (fun a ha => f1 a (by omega)) hX, RM_B f2 hM⟩, z1⟩
theorem op_bring : Op_bring Rl2 := by
  intro x1 x2 Mx M_ ⟨⟨S, hS, hX, hM⟩, hZ⟩
  have hO := hS.1
  unfold fX8_bring fX9_bring fX2_findForOne
  rw [isThere_x hX.1 hO, bd_s, isWithin_nI x2 (a := 0) (b := 2) (by decide) (by decide), bd_s, crowd7 hX.1 hO, bd_s, in_nI x1 (a := 0) (b := 5) (by decide) (by decide), bd_s, isOfficer_x hM.1 hO, bd_s, in_nI x2 (a := 0) (b := 2) (by decide) (by decide), bd_s]
  simp only [ib0]
  have hrl : Rl2 Mx M_ := ⟨⟨S, hS, hX, hM⟩, hZ⟩
  cases h5 : wi x1 0 5
  · by_cases q : nI 6 ≤ x1
    · rw [if_pos q]
      exact ⟨_, _, _, rfl, rfl, hrl⟩
    · rw [if_neg q]
      have : wi x1 0 11 = false := by
        cases hc : wi x1 0 11
        · rfl
        · obtain ⟨j, j1, j2, rfl⟩ := wi_of (by decide) hc
          rw [wi_nI (by omega)] at h5
          rw [nI_leI (by decide) (by omega)] at q
          rw [decide_eq_true (by omega : 0 ≤ j), decide_eq_true (by omega : j ≤ 5)] at h5
          cases h5
      rw [this]
      exact ⟨_, _, _, rfl, rfl, hrl⟩
  obtain ⟨k, _, hk, rfl⟩ := wi_of (by decide) h5
  rw [if_neg (nI_ge (by omega) (by decide)), wi_nI (by omega), nI_clamp (by omega), decide_eq_true (by omega : 0 ≤ k), decide_eq_true (by omega : k ≤ 11)]
  simp only [Bool.true_and, if_true]
  cases ht : th S.1 k
  · exact ⟨_, _, _, rfl, rfl, hrl⟩
  cases hw : wi x2 0 2
  · exact ⟨_, _, _, rfl, rfl, hrl⟩
  obtain ⟨v, _, hv, rfl⟩ := wi_of (by decide) hw
  simp only [if_true]
  have hl := bs_lt (op S.1) 12
  rw [jbit (by omega) (by omega), isOpen_k hM.1 hO (by omega), bd_s, ib0, ib0, bs_bit, decide_eq_true (by omega : k < 12), Bool.true_and]
  cases ho : op S.1 k
  · exact ⟨_, _, _, rfl, rfl, hrl⟩
  have hp : 2 ^ k < 64 := by
    have : 2 ^ k < 2 ^ 6 := Nat.pow_lt_pow_right (by decide) (by omega)
    simpa using this
  obtain ⟨M1, e1, g1, g2, f1, z1⟩ := find_c (m := false) (w := 2 ^ k) hX.1 hO hZ hp
  obtain ⟨M2, e2, b2, k2, f2⟩ := fe_m (m := false) (w := 2 ^ k) hO hp hM.1
  obtain ⟨r, a1, a2⟩ := ans_k (c := false) hv k2 b2 g1 g2
  simp only [if_true, Bool.false_eq_true, if_false] at a1 a2 ⊢
  have e1 : fX2_find 1 (nI (2 ^ k)) (nI 0) Mx = _ := e1
  have e2 : fX9_findExchange (nI (2 ^ k)) (nI 0) M_ = _ := e2
  rw [j2k (by omega), e1, bd_s, bd_s, a1, bd_s, e2, bd_s, a2]
  exact ⟨_, _, _, rfl, rfl, ⟨S, hS, RX_fr (fun a ha => f1 a (by omega)) hX, RM_B f2 hM⟩, z1⟩
