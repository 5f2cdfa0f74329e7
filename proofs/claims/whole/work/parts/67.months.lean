/-! months -/
abbrev Gt : Type := Yt × Nat × Nat
def aW (y : Yt) (a : Nat × Nat × Bool) : Nat := if a.1 = 4 then whyE y.1 a.2.1 a.2.2 else whyD y.1 a.1 a.2.1
def aY (y : Yt) (a : Nat × Nat × Bool) : Yt := if a.1 = 4 then (doE y.1 a.2.1, y.2.1 + 1, y.2.2) else (doD y.1 a.1 a.2.1, y.2.1, y.2.2 + if a.1 = 2 then 1 else 0)
def aS (g : Gt) (a : Nat × Nat × Bool) : Gt := if g.2.2 = 0 then (if aW g.1 a = 0 then (aY g.1 a, g.2.1 + 1, 0) else (g.1, g.2.1, aW g.1 a)) else g
def aR (Q : Qt) (b : Sb) : Nat → Gt
  | 0 => ((b, 0, 0), 0, 0)
  | n + 1 => aS (aR Q b n) (Q n)
theorem aW_lt (y : Yt) (a : Nat × Nat × Bool) : aW y a < 7 := by
  unfold aW
  split
  · exact whyE_lt _ _ _
  · exact whyD_lt _ _ _
theorem aR_u {Q : Qt} {b : Sb} {m : Nat} {a : Nat × Nat × Bool} : ∀ n, n ≤ m → aR (uQ Q m a) b n = aR Q b n := by
  intro n
  induction n with
  | zero => intro _; rfl
  | succ n ih =>
    intro h
    rw [aR, aR, ih (by omega), show uQ Q m a n = Q n from if_neg (by omega)]
theorem aR_su {Q : Qt} {b : Sb} {n : Nat} {a : Nat × Nat × Bool} : aR (uQ Q n a) b (n + 1) = aS (aR Q b n) a := by
  rw [aR, aR_u n (Nat.le_refl _), show uQ Q n a n = a from if_pos rfl]
theorem aS_stop {g : Gt} (h : ¬ g.2.2 = 0) (a : Nat × Nat × Bool) : aS g a = g := if_neg h
theorem aR_stop {Q : Qt} {b : Sb} {k : Nat} (h : ¬ (aR Q b k).2.2 = 0) : ∀ d, aR Q b (k + d) = aR Q b k := by
  intro d
  induction d with
  | zero => rfl
  | succ d ih => rw [← Nat.add_assoc, aR, ih, aS_stop h]
theorem aR_why (Q : Qt) (b : Sb) (n : Nat) : (aR Q b n).2.2 < 7 := by
  induction n with
  | zero => show 0 < 7; decide
  | succ n ih =>
    rw [aR]; unfold aS
    split
    · split
      · show 0 < 7; decide
      · exact aW_lt _ _
    · exact ih
theorem aR_le (Q : Qt) (b : Sb) (n : Nat) : (aR Q b n).2.1 ≤ n := by
  induction n with
  | zero => exact Nat.le_refl 0
  | succ n ih =>
    rw [aR]; unfold aS
    split
    · split
      · show (aR Q b n).2.1 + 1 ≤ n + 1; omega
      · show (aR Q b n).2.1 ≤ n + 1; omega
    · omega
theorem aR_acts (Q : Qt) (b : Sb) (n : Nat) : (aR Q b n).2.2 = 0 → (aR Q b n).2.1 = n := by
  induction n with
  | zero => intro _; rfl
  | succ n ih =>
    rw [aR]; unfold aS
    split
    · rename_i h
      split
      · intro _
        show (aR Q b n).2.1 + 1 = n + 1
        rw [ih h]
      · rename_i h2
        intro h3
        exact absurd h3 h2
    · rename_i h
      intro h3
      exact absurd h3 h
theorem aY_2 (y : Yt) (a : Nat × Nat × Bool) : (aY y a).1.2 = y.1.2 := by
  unfold aY
  split
  · rfl
  · show (doD y.1 a.1 a.2.1).2 = _
    unfold doD
    repeat' split
    all_goals rfl
theorem aR_2 (Q : Qt) (b : Sb) (n : Nat) : (aR Q b n).1.1.2 = b.2 := by
  induction n with
  | zero => rfl
  | succ n ih =>
    rw [aR]; unfold aS
    split
    · split
      · show (aY _ _).1.2 = _
        rw [aY_2, ih]
      · exact ih
    · exact ih
theorem aR_OK {Q : Qt} {b : Sb} {n : Nat} (hO : OK b) (hQ : QW n Q) : ∀ k, k ≤ n → OK (aR Q b k).1.1 := by
  intro k
  induction k with
  | zero => intro _; exact hO
  | succ k ih =>
    intro hk
    have h1 := ih (by omega)
    rw [aR]; unfold aS
    split
    · split
      · rename_i h2
        show OK (aY _ _).1
        unfold aY
        unfold aW at h2
        split
        · exact doE_OK h1 _
        · rename_i h4
          rw [if_neg h4] at h2
          rcases hQ k (by omega) with h5 | h5
          · exact absurd h5.1 h4
          · exact doD_OK h1 h5.1 h2 h5.2.1
      · exact h1
    · exact h1
/-! class side -/
def MB (g : Gt) (b : Sb) (M : Mm) : Prop := XK 9 g.1.1 M ∧ XS 9 b M ∧ M.1 8 1 = nI g.2.1 ∧ M.1 8 2 = nI g.1.2.1 ∧ M.1 8 3 = nI g.2.2
def MCs (p : Ps) (M : Mm) : Prop := (p.1 = 0 ∧ M.1 8 4 = mI 1 ∧ M.1 8 5 = nI 0) ∨ (p.1 = 1 ∧ M.1 8 4 = nI p.2.2.1 ∧ M.1 8 5 = nI 0) ∨ (2 ≤ p.1 ∧ M.1 8 4 = mI 1 ∧ M.1 8 5 = nI 1 ∧ M.1 8 6 = nI p.2.2.1 ∧ M.1 8 7 = nI p.2.2.2.1.toNat)
def Fr8 (M M' : Mm) : Prop := ∀ a, ¬ (8 ≤ a ∧ a ≤ 13) → M'.1 a = M.1 a
theorem Fr8.trans {A B C : Mm} (h : Fr8 A B) (g : Fr8 B C) : Fr8 A C := fun a ha => by rw [g a ha, h a ha]
theorem Fr8_8 (M : Mm) (j : Nat) (v : Int32) : Fr8 M (sI M 8 j v) := fun a ha => sI_n (by omega)
theorem XK_8 {b : Sb} {M : Mm} (h : XK 9 b M) (j : Nat) (v : Int32) : XK 9 b (sI M 8 j v) := XK_fr (fun a h1 h2 => sI_n (by omega)) h
theorem XS_8 {b : Sb} {M : Mm} (h : XS 9 b M) (j : Nat) (v : Int32) : XS 9 b (sI M 8 j v) := XS_fr (sI_n (by decide)) (sI_n (by decide)) h
theorem MB_8 {g : Gt} {b : Sb} {M : Mm} (h : MB g b M) {j : Nat} (hj : 3 < j) (v : Int32) : MB g b (sI M 8 j v) :=
  ⟨XK_8 h.1 _ _, XS_8 h.2.1 _ _, by rw [sI_j _ (by omega)]; exact h.2.2.1, by rw [sI_j _ (by omega)]; exact h.2.2.2.1, by rw [sI_j _ (by omega)]; exact h.2.2.2.2⟩
theorem XS_C {b : Sb} {M M' : Mm} (h : XS 9 b M) (hf : FrC 9 M M') : XS 9 b M' := by
  obtain ⟨h1, h2, e, h3, h4⟩ := h
  exact ⟨by rw [hf.2 2 (by decide)]; exact h1, fun i hi => by rw [hf.1 (9 + 4) (by decide)]; exact h2 i hi, e, by rw [hf.2 3 (by decide)]; exact h3, h4⟩
theorem endEx {g : Gt} {b : Sb} {M : Mm} {lot : Nat} {tw : Bool} (h : MB g b M) (hO : OK g.1.1) (h0 : g.2.2 = 0) (hl : lot < 4096) (h6 : M.1 8 6 = nI lot) (h7 : M.1 8 7 = nI tw.toNat) : ∃ M', fX3_endExchange M = some ((), M') ∧ MB (aS g (4, lot, tw)) b M' ∧ Fr8 M M' ∧ M'.1 8 4 = M.1 8 4 ∧ M'.1 8 5 = M.1 8 5 := by
  unfold fX3_endExchange
  rw [h6, h7, whyEx_c h.1 hO hl tw, bd_s, sI_s, sI_j _ (by decide), h6]
  have ea : aW g.1 (4, lot, tw) = whyE g.1.1 lot tw := if_pos rfl
  have ew : nI (whyE g.1.1 lot tw) = nI 0 ↔ whyE g.1.1 lot tw = 0 := nI_z (by have := whyE_lt g.1.1 lot tw; omega)
  by_cases hw : whyE g.1.1 lot tw = 0
  · have e : aS g (4, lot, tw) = ((doE g.1.1 lot, g.1.2.1 + 1, g.1.2.2), g.2.1 + 1, 0) := by
      unfold aS
      rw [if_pos h0, ea, if_pos hw]
      rfl
    obtain ⟨M1, e1, hX1, hf⟩ := setFree_c (XK_8 h.1 3 (nI (whyE g.1.1 lot tw))) hO hl
    have q : ∀ j, j ≠ 3 → M1.1 8 j = M.1 8 j := fun j hj => by rw [hf.1 8 (by decide), sI_j _ hj]
    rw [if_pos (ew.mpr hw), e1, bd_s, sI_j _ (by decide), q 1 (by decide), q 2 (by decide), h.2.2.1, h.2.2.2.1, nI_1', nI_1', e]
    refine ⟨_, rfl, ⟨XK_8 (XK_8 hX1 _ _) _ _, XS_8 (XS_8 (XS_C (XS_8 h.2.1 _ _) hf) _ _) _ _, sI_s _ _ _ _, ?_, ?_⟩, fun a ha => ?_, ?_, ?_⟩
    · rw [sI_j _ (by decide), sI_s]
    · rw [sI_j _ (by decide), sI_j _ (by decide), hf.1 8 (by decide), sI_s, hw]
    · rw [sI_n (by omega), sI_n (by omega), hf.1 a (by omega), sI_n (by omega)]
    · rw [sI_j _ (by decide), sI_j _ (by decide), q 4 (by decide)]
    · rw [sI_j _ (by decide), sI_j _ (by decide), q 5 (by decide)]
  · have e : aS g (4, lot, tw) = (g.1, g.2.1, whyE g.1.1 lot tw) := by
      unfold aS
      rw [if_pos h0, ea, if_neg hw]
    rw [if_neg (fun z => hw (ew.mp z)), e]
    exact ⟨_, rfl, ⟨XK_8 h.1 _ _, XS_8 h.2.1 _ _, by rw [sI_j _ (by decide)]; exact h.2.2.1, by rw [sI_j _ (by decide)]; exact h.2.2.2.1, sI_s _ _ _ _⟩, Fr8_8 _ _ _, by rw [sI_j _ (by decide)], by rw [sI_j _ (by decide)]⟩
theorem endDe {g : Gt} {b : Sb} {M : Mm} {k d : Nat} (h : MB g b M) (hO : OK g.1.1) (h0 : g.2.2 = 0) (hk : k < 12) (hd : d < 4) (h4 : M.1 8 4 = nI k) : ∃ M', fX3_endDeed (nI d) M = some ((), M') ∧ MB (aS g (d, k, false)) b M' ∧ Fr8 M M' ∧ M'.1 8 5 = M.1 8 5 := by
  unfold fX3_endDeed
  rw [h4, whyNot_c h.1 hO hk hd, bd_s, sI_s, sI_j _ (by decide), h4]
  have hd4 : ¬ d = 4 := by omega
  have ea : aW g.1 (d, k, false) = whyD g.1.1 d k := if_neg hd4
  have ew : nI (whyD g.1.1 d k) = nI 0 ↔ whyD g.1.1 d k = 0 := nI_z (by have := whyD_lt g.1.1 d k; omega)
  by_cases hw : whyD g.1.1 d k = 0
  · have e : aS g (d, k, false) = ((doD g.1.1 d k, g.1.2.1, g.1.2.2 + if d = 2 then 1 else 0), g.2.1 + 1, 0) := by
      unfold aS
      rw [if_pos h0, ea, if_pos hw]
      unfold aY
      rw [if_neg hd4]
    obtain ⟨M1, e1, hX1, hf⟩ := carry_c (XK_8 h.1 3 (nI (whyD g.1.1 d k))) hO hk hd hw
    have q : ∀ j, j ≠ 3 → M1.1 8 j = M.1 8 j := fun j hj => by rw [hf.1 8 (by decide), sI_j _ hj]
    rw [if_pos (ew.mpr hw), e1, bd_s, q 1 (by decide), h.2.2.1, nI_1', e]
    refine ⟨_, rfl, ⟨XK_8 hX1 _ _, XS_8 (XS_C (XS_8 h.2.1 _ _) hf) _ _, sI_s _ _ _ _, ?_, ?_⟩, fun a ha => ?_, ?_⟩
    · rw [sI_j _ (by decide), q 2 (by decide)]; exact h.2.2.2.1
    · rw [sI_j _ (by decide), hf.1 8 (by decide), sI_s, hw]
    · rw [sI_n (by omega), hf.1 a (by omega), sI_n (by omega)]
    · rw [sI_j _ (by decide), q 5 (by decide)]
  · have e : aS g (d, k, false) = (g.1, g.2.1, whyD g.1.1 d k) := by
      unfold aS
      rw [if_pos h0, ea, if_neg hw]
    rw [if_neg (fun z => hw (ew.mp z)), e]
    exact ⟨_, rfl, ⟨XK_8 h.1 _ _, XS_8 h.2.1 _ _, by rw [sI_j _ (by decide)]; exact h.2.2.1, by rw [sI_j _ (by decide)]; exact h.2.2.2.1, sI_s _ _ _ _⟩, Fr8_8 _ _ _, by rw [sI_j _ (by decide)]⟩
theorem gather_k {M : Mm} {k cu : Nat} {ct : Bool} (hk : k < 12) (h6 : M.1 8 6 = nI cu) (h7 : M.1 8 7 = nI ct.toNat) : fX3_gather (nI k) M = some ((), sI (sI M 8 7 (nI (ct || cu.testBit k).toNat)) 8 6 (nI (cu ||| 2 ^ k))) := by
  have key : ∀ t : Bool, fX3_gather_b25 (nI k) (nI ct.toNat) (nI t.toNat) M = some ((), sI (sI M 8 7 (nI (ct || t).toNat)) 8 6 (nI (cu ||| 2 ^ k))) := by
    intro t
    unfold fX3_gather_b25
    have eo : nI ct.toNat ||| nI t.toNat = nI (ct || t).toNat := by cases ct <;> cases t <;> rfl
    rw [eo, gd_of bool_gd, sI_j _ (by decide), h6, j2k (by omega), nI_or]
  unfold fX3_gather
  rw [if_neg (nI_nlt (Nat.zero_le _) (by omega)), h6, h7, j2k (by omega), nI_and]
  have e1 : nI (cu &&& 2 ^ k) = nI 0 ↔ cu.testBit k = false := and2k (by omega)
  simp only [e1]
  cases hb : cu.testBit k
  · rw [if_pos rfl]; exact key false
  · rw [if_neg (by decide)]; exact key true
theorem take_p {p : Ps} {b : Sb} {M : Mm} {x : Nat} (hp : p.1 < 6) (hw : PW p) (hx : x < 200) (h6 : ¬ (pT p x).1 = 6) (hO : OK b) (h0 : (aR p.2.2.2.2 b p.2.1).2.2 = 0) (hB : MB (aR p.2.2.2.2 b p.2.1) b M) (hC : MCs p M) : ∃ M', fX3_take (nI x) M = some ((), M') ∧ MB (aR (pT p x).2.2.2.2 b (pT p x).2.1) b M' ∧ MCs (pT p x) M' ∧ Fr8 M M' := by
  have hOg := aR_OK hO hw.1 p.2.1 (Nat.le_refl _)
  obtain ⟨s, n, cu, ct, Q⟩ := p
  have hw2 : s = 0 ∨ (s = 1 ∧ cu < 12 ∧ ct = false) ∨ (2 ≤ s ∧ cu < 4096) := hw.2
  have hC2 : (s = 0 ∧ M.1 8 4 = mI 1 ∧ M.1 8 5 = nI 0) ∨ (s = 1 ∧ M.1 8 4 = nI cu ∧ M.1 8 5 = nI 0) ∨ (2 ≤ s ∧ M.1 8 4 = mI 1 ∧ M.1 8 5 = nI 1 ∧ M.1 8 6 = nI cu ∧ M.1 8 7 = nI ct.toNat) := hC
  have hs : s < 6 := hp
  have hB : MB (aR Q b n) b M := hB
  have h0 : (aR Q b n).2.2 = 0 := h0
  have hOg : OK (aR Q b n).1.1 := hOg
  clear hw hC hp
  simp only [pT, pS] at h6 ⊢
  have e40 : nI x = nI 40 ↔ x = 40 := nI_eq (by omega) (by decide)
  have e41 : nI x = nI 41 ↔ x = 41 := nI_eq (by omega) (by decide)
  have o40 : ofc x < 12 → ¬ x = 40 := by intro h e; subst e; revert h; decide
  have o41 : ofc x < 12 → ¬ x = 41 := by intro h e; subst e; revert h; decide
  unfold fX3_take
  by_cases s0 : s = 0
  · have hc : M.1 8 4 = mI 1 ∧ M.1 8 5 = nI 0 := by
      rcases hC2 with h | h | h
      · exact h.2
      · omega
      · omega
    simp only [s0, if_true] at h6 ⊢
    by_cases q : ofc x < 12
    · simp only [q, if_true]
      rw [if_neg (fun z => o40 q (e40.mp z)), if_neg (fun z => o41 q (e41.mp z)), if_pos hc.2, hc.1, if_neg (by decide), officerOf_c hx, bd_s, if_pos q]
      exact ⟨_, rfl, MB_8 hB (by decide) _, Or.inr (Or.inl ⟨rfl, sI_s _ _ _ _, by rw [sI_j _ (by decide)]; exact hc.2⟩), Fr8_8 _ _ _⟩
    · by_cases q2 : x = 40
      · rw [if_pos (e40.mpr q2), if_neg q, if_pos q2]
        refine ⟨_, rfl, MB_8 (MB_8 (MB_8 hB (by decide) _) (by decide) _) (by decide) _, Or.inr (Or.inr ⟨by show 2 ≤ 2; decide, ?_, ?_, ?_, ?_⟩), ((Fr8_8 _ _ _).trans (Fr8_8 _ _ _)).trans (Fr8_8 _ _ _)⟩
        · rw [sI_j _ (by decide), sI_j _ (by decide), sI_j _ (by decide)]; exact hc.1
        · rw [sI_j _ (by decide), sI_j _ (by decide), sI_s]
        · rw [sI_j _ (by decide), sI_s]
        · rw [sI_s]; rfl
      · simp only [q, q2, if_false] at h6; exact absurd trivial h6
  · by_cases s1 : s = 1
    · have hc : M.1 8 4 = nI cu ∧ M.1 8 5 = nI 0 := by
        rcases hC2 with h | h | h
        · omega
        · exact h.2
        · omega
      have hcu : cu < 12 := by
        rcases hw2 with h | h | h
        · omega
        · exact h.2.1
        · omega
      simp only [s1, if_true, show ¬ (1 = 0) by decide, if_false] at h6 ⊢
      by_cases q : dc x < 4
      · have x40 : ¬ x = 40 := by intro e; subst e; revert q; decide
        have x41 : ¬ x = 41 := by intro e; subst e; revert q; decide
        simp only [q, if_true]
        obtain ⟨M1, e1, hB1, hf, h5⟩ := endDe hB hOg h0 hcu q hc.1
        rw [if_neg (fun z => x40 (e40.mp z)), if_neg (fun z => x41 (e41.mp z)), if_pos hc.2, hc.1, if_pos (nI_le (Nat.zero_le _) (by omega)), deedOf_c hx, bd_s, if_pos q, e1, bd_s, aR_su]
        exact ⟨_, rfl, MB_8 hB1 (by decide) _, Or.inl ⟨rfl, sI_s _ _ _ _, by rw [sI_j _ (by decide), h5]; exact hc.2⟩, hf.trans (Fr8_8 _ _ _)⟩
      · simp only [q, if_false] at h6; exact absurd trivial h6
    · have hc : M.1 8 4 = mI 1 ∧ M.1 8 5 = nI 1 ∧ M.1 8 6 = nI cu ∧ M.1 8 7 = nI ct.toNat := by
        rcases hC2 with h | h | h
        · omega
        · omega
        · exact h.2
      have hcu : cu < 4096 := by
        rcases hw2 with h | h | h
        · omega
        · omega
        · exact h.2
      have g1 : ∀ k t, k < 12 → 2 ≤ t → MB (aR Q b n) b (sI (sI M 8 7 (nI (ct || cu.testBit k).toNat)) 8 6 (nI (cu ||| 2 ^ k))) ∧ MCs (t, n, cu ||| 2 ^ k, ct || cu.testBit k, Q) (sI (sI M 8 7 (nI (ct || cu.testBit k).toNat)) 8 6 (nI (cu ||| 2 ^ k))) ∧ Fr8 M (sI (sI M 8 7 (nI (ct || cu.testBit k).toNat)) 8 6 (nI (cu ||| 2 ^ k))) := by
        intro k t hk ht
        refine ⟨MB_8 (MB_8 hB (by decide) _) (by decide) _, Or.inr (Or.inr ⟨ht, ?_, ?_, ?_, ?_⟩), (Fr8_8 _ _ _).trans (Fr8_8 _ _ _)⟩
        · rw [sI_j _ (by decide), sI_j _ (by decide)]; exact hc.1
        · rw [sI_j _ (by decide), sI_j _ (by decide)]; exact hc.2.1
        · rw [sI_s]
        · rw [sI_j _ (by decide), sI_s]
      have tl : ∀ t, ofc x < 12 → 2 ≤ t → ∃ M', (if nI x = nI 40 then some ((), sI (sI (sI M 8 5 (nI 1)) 8 6 (nI 0)) 8 7 (nI 0)) else if nI x = nI 41 then bd (fX3_endExchange (sI M 8 5 (nI 0))) fun _ M10 => some ((), M10) else if M.1 8 5 = nI 0 then (if nI 0 ≤ M.1 8 4 then bd (fX4_deedOf (nI x) M) fun r5 M5 => bd (fX3_endDeed r5 M5) fun _ M6 => some ((), sI M6 8 4 (mI 1)) else bd (fX4_officerOf (nI x) M) fun r7 M7 => some ((), sI M7 8 4 r7)) else bd (fX4_officerOf (nI x) M) fun r8 M8 => bd (fX3_gather r8 M8) fun _ M9 => some ((), M9) : Option (Unit × Mm)) = some ((), M') ∧ MB (aR Q b n) b M' ∧ MCs (t, n, cu ||| 2 ^ ofc x, ct || cu.testBit (ofc x), Q) M' ∧ Fr8 M M' := by
        intro t q ht
        rw [if_neg (fun z => o40 q (e40.mp z)), if_neg (fun z => o41 q (e41.mp z)), if_neg (by rw [hc.2.1]; decide), officerOf_c hx, bd_s, if_pos q, gather_k q hc.2.2.1 hc.2.2.2, bd_s]
        exact ⟨_, rfl, g1 _ t q ht⟩
      simp only [s0, s1, if_false] at h6 ⊢
      by_cases s4 : s < 4
      · simp only [s4, if_true] at h6 ⊢
        by_cases q : ofc x < 6
        · simp only [q, if_true]
          exact tl 3 (by omega) (by decide)
        · by_cases q2 : s = 3 ∧ x = 58
          · simp only [q, if_false]
            rw [if_pos q2]
            have o58 : fX4_officerOf (nI x) M = some (mI 1, M) := by rw [q2.2]; exact officerOf_c (by decide) M
            rw [if_neg (fun z => by have := e40.mp z; omega), if_neg (fun z => by have := e41.mp z; omega), if_neg (by rw [hc.2.1]; decide), o58, bd_s, show fX3_gather (mI 1) M = some ((), M) from if_pos m1_neg, bd_s]
            exact ⟨M, rfl, hB, Or.inr (Or.inr ⟨by show 2 ≤ 4; decide, hc⟩), fun _ _ => rfl⟩
          · simp only [q, if_false] at h6; rw [if_neg q2] at h6; exact absurd rfl h6
      · simp only [s4, if_false] at h6 ⊢
        by_cases q : 6 ≤ ofc x ∧ ofc x < 12
        · rw [if_pos q]
          exact tl 5 q.2 (by decide)
        · rw [if_neg q] at h6 ⊢
          by_cases q2 : s = 5 ∧ x = 41
          · rw [if_pos q2, if_neg (fun z => by have := e40.mp z; omega), if_pos (e41.mpr q2.2)]
            obtain ⟨M1, e1, hB1, hf, h4, h5⟩ := endEx (lot := cu) (tw := ct) (MB_8 hB (by decide : 3 < 5) (nI 0)) hOg h0 hcu (by rw [sI_j _ (by decide)]; exact hc.2.2.1) (by rw [sI_j _ (by decide)]; exact hc.2.2.2)
            rw [e1, bd_s, aR_su]
            exact ⟨_, rfl, hB1, Or.inl ⟨rfl, by rw [h4, sI_j _ (by decide)]; exact hc.1, by rw [h5, sI_s]⟩, (Fr8_8 _ _ _).trans hf⟩
          · rw [if_neg q2] at h6; exact absurd rfl h6
theorem pT_stop {p : Ps} {b : Sb} (x : Nat) (h : ¬ (aR p.2.2.2.2 b p.2.1).2.2 = 0) : aR (pT p x).2.2.2.2 b (pT p x).2.1 = aR p.2.2.2.2 b p.2.1 := by
  unfold pT pS
  repeat' split
  all_goals first | rfl | (show aR (uQ _ _ _) b (_ + 1) = _; rw [aR_su, aS_stop h])
theorem pG_stop {c : Nat → Nat} {b : Sb} : ∀ r i p, ¬ (aR p.2.2.2.2 b p.2.1).2.2 = 0 → aR (pG c r i p).2.2.2.2.2 b (pG c r i p).2.2.1 = aR p.2.2.2.2 b p.2.1 := by
  intro r
  induction r with
  | zero => intro i p h; rfl
  | succ r ih =>
    intro i p h
    rw [pG]
    split
    · rfl
    · have e := pT_stop (p := p) (b := b) (c i) h
      rw [ih (i + 1) (pT p (c i)) (by rw [e]; exact h), e]
theorem read_b {N : Nat} {c : Nat → Nat} (hN : N ≤ 60) (hc : ∀ i, i < N → c i < 200) {c1 : Nat} {b : Sb} (hO : OK b) : ∀ n r i p M, i + r = N → r < n → p.1 < 6 → PW p → (pG c r i p).1 = mI 6 → MB (aR p.2.2.2.2 b p.2.1) b M → ((aR p.2.2.2.2 b p.2.1).2.2 = 0 → MCs p M) → M.1 6 1 = nI N → (∀ i, i < N → M.1 7 i = nI (c i)) → ∃ M', fX3_read_b35 c1 n (nI i) M = some ((), M') ∧ MB (aR (pG c r i p).2.2.2.2.2 b (pG c r i p).2.2.1) b M' ∧ Fr8 M M' := by
  intro n
  induction n with
  | zero => intro r i p M _ h; omega
  | succ n ih =>
    intro r i p M hi hr hp hw hg hB hC h1 h2
    rw [fX3_read_b35, h1, hB.2.2.2.2]
    have ew : nI (aR p.2.2.2.2 b p.2.1).2.2 = nI 0 ↔ (aR p.2.2.2.2 b p.2.1).2.2 = 0 := nI_z (by have := aR_why p.2.2.2.2 b p.2.1; omega)
    by_cases h0 : (aR p.2.2.2.2 b p.2.1).2.2 = 0
    · cases r with
      | zero =>
        rw [if_pos (nI_le (by omega) (by omega))]
        exact ⟨M, rfl, hB, fun _ _ => rfl⟩
      | succ r =>
        have hx := hc i (by omega)
        rw [if_neg (nI_ge (by omega) (by omega)), if_pos (ew.mpr h0), gd_of (inb_nI (by omega) (by decide)), nI_clamp (by omega), h2 i (by omega)]
        rw [pG] at hg ⊢
        by_cases h6 : (pT p (c i)).1 = 6
        · rw [if_pos h6] at hg
          exact absurd hg (fun z => by
            have := congrArg Int32.toInt z
            rw [nI_toInt (by omega), show (mI 6).toInt = -6 by decide] at this
            omega)
        · rw [if_neg h6] at hg ⊢
          have hl : (pT p (c i)).1 < 7 := pS_lt p.1 p.2.1 p.2.2.1 p.2.2.2.1 p.2.2.2.2 (c i)
          obtain ⟨M1, e1, b1, c1', f1⟩ := take_p hp hw hx h6 hO h0 hB (hC h0)
          obtain ⟨M2, e2, b2, f2⟩ := ih r (i + 1) (pT p (c i)) M1 (by omega) (by omega) (by omega) (PW_s hw hp _ h6) hg b1 (fun _ => c1') (by rw [f1 6 (by decide)]; exact h1) (fun j hj => by rw [f1 7 (by decide)]; exact h2 j hj)
          rw [e1, bd_s, nI_1', e2]
          exact ⟨M2, rfl, b2, f1.trans f2⟩
    · refine ⟨M, ?_, by rw [pG_stop r i p h0]; exact hB, fun _ _ => rfl⟩
      split
      · rfl
      · rw [if_neg (fun z => h0 (ew.mp z))]
abbrev gF (S : Sa) : Gt := aR (pF S).2.2.2.2.2 S.1 (pF S).2.2.1
theorem pG_PW {c : Nat → Nat} : ∀ r i p, p.1 < 6 → PW p → PW (pG c r i p).2 := by
  intro r
  induction r with
  | zero => intro i p _ h; exact h
  | succ r ih =>
    intro i p hp h
    rw [pG]
    split
    · exact h
    · rename_i h6
      have hl : (pT p (c i)).1 < 7 := pS_lt p.1 p.2.1 p.2.2.1 p.2.2.2.1 p.2.2.2.2 (c i)
      exact ih (i + 1) _ (by omega) (PW_s h hp _ h6)
theorem p0_PW : PW p0 := ⟨fun j hj => absurd hj (by show ¬ j < 0; omega), Or.inl rfl⟩
theorem pF_PW (S : Sa) : PW (pF S).2 := pG_PW _ _ _ (by decide) p0_PW
theorem gF_OK {S : Sa} (hO : OK S.1) : OK (gF S).1.1 := aR_OK hO (pF_PW S).1 _ (Nat.le_refl _)
theorem read_x {S : Sa} {M : Mm} (hS : XO S) (hX : RX S M) (hF : (pF S).1 = mI 6) : ∃ M', fX3_read 1 M = some ((), M') ∧ RX S M' ∧ MB (gF S) S.1 M' := by
  unfold fX3_read
  obtain ⟨M1, e1, k1, s1, f1⟩ := copy_k (c := 9) (d := 1) (by decide) hX.1 hX.2.1 hS.2.1.1
  rw [e1, bd_s]
  have hb : MB (aR p0.2.2.2.2 S.1 p0.2.1) S.1 (sI (sI (sI (sI (sI M1 8 1 (nI 0)) 8 2 (nI 0)) 8 3 (nI 0)) 8 4 (mI 1)) 8 5 (nI 0)) := by
    refine MB_8 (MB_8 ⟨XK_8 (XK_8 (XK_8 k1 _ _) _ _) _ _, XS_8 (XS_8 (XS_8 s1 _ _) _ _) _ _, ?_, ?_, ?_⟩ (by decide) _) (by decide) _
    · rw [sI_j _ (by decide), sI_j _ (by decide), sI_s]; rfl
    · rw [sI_j _ (by decide), sI_s]; rfl
    · rw [sI_s]; rfl
  have ff : Fr8 M (sI (sI (sI (sI (sI M1 8 1 (nI 0)) 8 2 (nI 0)) 8 3 (nI 0)) 8 4 (mI 1)) 8 5 (nI 0)) := fun a ha => by
    rw [sI_n (by omega), sI_n (by omega), sI_n (by omega), sI_n (by omega), sI_n (by omega), f1 a (by omega)]
  obtain ⟨M2, e2, b2, f2⟩ := read_b (N := S.2.1.1) (c := S.2.1.2) hS.2.2.1 (fun i hi => by have := hS.2.2.2.1 i hi; omega) (c1 := 1) hS.1 fu S.2.1.1 0 p0 _ (by omega) (by have := hS.2.2.1; have : fu = 5000 := rfl; omega) (by decide) p0_PW hF hb (fun _ => Or.inl ⟨rfl, by rw [sI_j _ (by decide), sI_s], sI_s _ _ _ _⟩) (by rw [ff 6 (by decide)]; exact hX.2.2.1) (fun i hi => by rw [ff 7 (by decide)]; exact hX.2.2.2.1 i hi)
  rw [e2]
  exact ⟨M2, rfl, RX_fr (fun a ha => by rw [f2 a (by omega), ff a (by omega)]) hX, b2⟩
theorem readM_x {S : Sa} {M : Mm} (hS : XO S) (hX : RX S M) : ∃ M', fX8_readMonths M = some (if (pF S).1 = mI 6 then (if (gF S).2.2 = 0 then nI 0 else mI 3) else mI 5, M') ∧ RX S M' ∧ ((pF S).1 = mI 6 → MB (gF S) S.1 M') := by
  unfold fX8_readMonths
  rw [ff_c hS hX, bd_s]
  by_cases hF : (pF S).1 = mI 6
  · obtain ⟨M1, e1, r1, b1⟩ := read_x hS hX hF
    have ew : nI (gF S).2.2 = nI 0 ↔ (gF S).2.2 = 0 := nI_z (by have : (gF S).2.2 < 7 := aR_why _ _ _; omega)
    rw [if_pos hF, if_pos hF, e1, bd_s, b1.2.2.2.2]
    refine ⟨M1, ?_, r1, fun _ => b1⟩
    by_cases h0 : (gF S).2.2 = 0
    · rw [if_pos (ew.mpr h0), if_pos h0]
    · rw [if_neg (fun z => h0 (ew.mp z)), if_neg h0]
  · rw [if_neg hF, if_neg hF]
    exact ⟨M, rfl, hX, fun h => absurd h hF⟩
