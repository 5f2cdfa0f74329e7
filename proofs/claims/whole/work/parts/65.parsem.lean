/-! the pad is read, reference side -/
def QA (n : Nat) (Q : Qt) (M : Mm) : Prop := ∀ j, j < n → M.1 8 j = nI (Q j).1 ∧ M.1 9 j = nI (if (Q j).1 = 4 then (Q j).2.1 else 2 ^ (Q j).2.1) ∧ M.1 10 j = nI (Q j).2.2.toNat
def PQ (p : Ps) (M : Mm) : Prop := M.1 0 14 = nI p.2.1 ∧ QA p.2.1 p.2.2.2.2 M ∧ (p.1 = 0 ∨ (M.1 8 p.2.1 = nI 4 ∧ M.1 9 p.2.1 = nI (if p.1 = 1 then 2 ^ p.2.2.1 else p.2.2.1) ∧ M.1 10 p.2.1 = nI p.2.2.2.1.toNat))
def QW (n : Nat) (Q : Qt) : Prop := ∀ j, j < n → ((Q j).1 = 4 ∧ (Q j).2.1 < 4096) ∨ ((Q j).1 < 4 ∧ (Q j).2.1 < 12 ∧ (Q j).2.2 = false)
def PW (p : Ps) : Prop := QW p.2.1 p.2.2.2.2 ∧ (p.1 = 0 ∨ (p.1 = 1 ∧ p.2.2.1 < 12 ∧ p.2.2.2.1 = false) ∨ (2 ≤ p.1 ∧ p.2.2.1 < 4096))
def FrP (M M' : Mm) : Prop := (∀ a, a ≠ 0 → ¬ (8 ≤ a ∧ a ≤ 10) → M'.1 a = M.1 a) ∧ ∀ j, j ≠ 14 → M'.1 0 j = M.1 0 j
theorem FrP.trans {A B C : Mm} (h : FrP A B) (g : FrP B C) : FrP A C := ⟨fun a h1 h2 => by rw [g.1 a h1 h2, h.1 a h1 h2], fun j hj => by rw [g.2 j hj, h.2 j hj]⟩
theorem FrP_a (M : Mm) {a : Nat} (ha : 8 ≤ a ∧ a ≤ 10) (j : Nat) (v : Int32) : FrP M (sI M a j v) := ⟨fun b h1 h2 => sI_n (by omega), fun j hj => by rw [sI_n (by omega)]⟩
theorem FrP_0 (M : Mm) (v : Int32) : FrP M (sI M 0 14 v) := ⟨fun b h1 h2 => sI_n h1, fun j hj => sI_j _ hj⟩
theorem FrP.refl (M : Mm) : FrP M M := ⟨fun _ _ _ => rfl, fun _ _ => rfl⟩
theorem QA_n {n : Nat} {Q : Qt} {M : Mm} (h : QA n Q M) {a k : Nat} (hk : n ≤ k) (v : Int32) : QA n Q (sI M a k v) := fun j hj => by
  have := h j hj
  exact ⟨by rw [sI_j _ (by omega)]; exact this.1, by rw [sI_j _ (by omega)]; exact this.2.1, by rw [sI_j _ (by omega)]; exact this.2.2⟩
theorem QA_0 {n : Nat} {Q : Qt} {M : Mm} (h : QA n Q M) (k : Nat) (v : Int32) : QA n Q (sI M 0 k v) := fun j hj => by
  have := h j hj
  exact ⟨by rw [sI_n (by omega)]; exact this.1, by rw [sI_n (by omega)]; exact this.2.1, by rw [sI_n (by omega)]; exact this.2.2⟩
theorem QA_s {n : Nat} {Q : Qt} {M : Mm} (h : QA n Q M) {a : Nat × Nat × Bool} (h1 : M.1 8 n = nI a.1) (h2 : M.1 9 n = nI (if a.1 = 4 then a.2.1 else 2 ^ a.2.1)) (h3 : M.1 10 n = nI a.2.2.toNat) : QA (n + 1) (uQ Q n a) M := fun j hj => by
  unfold uQ
  by_cases e : j = n
  · subst e; rw [if_pos rfl]; exact ⟨h1, h2, h3⟩
  · rw [if_neg e]; exact h j (by omega)
theorem QW_s {n : Nat} {Q : Qt} (h : QW n Q) {a : Nat × Nat × Bool} (ha : (a.1 = 4 ∧ a.2.1 < 4096) ∨ (a.1 < 4 ∧ a.2.1 < 12 ∧ a.2.2 = false)) : QW (n + 1) (uQ Q n a) := fun j hj => by
  unfold uQ
  by_cases e : j = n
  · rw [if_pos e]; exact ha
  · rw [if_neg e]; exact h j (by omega)
theorem PW_s {p : Ps} (h : PW p) (hs : p.1 < 6) (x : Nat) (h6 : ¬ (pT p x).1 = 6) : PW (pT p x) := by
  obtain ⟨s, n, cu, ct, Q⟩ := p
  obtain ⟨h1, h2⟩ := h
  have ho : ofc x < 12 → 2 ^ ofc x < 4096 := fun h => pow_lt4 h
  simp only [pT, pS] at h6 ⊢
  by_cases e0 : s = 0
  · simp only [e0, if_true] at h6 ⊢
    by_cases q : ofc x < 12
    · simp only [q, if_true]; exact ⟨h1, Or.inr (Or.inl ⟨rfl, q, rfl⟩)⟩
    · by_cases q2 : x = 40
      · rw [if_neg q, if_pos q2]; exact ⟨h1, Or.inr (Or.inr ⟨by show 2 ≤ 2; decide, by show 0 < 4096; decide⟩)⟩
      · simp only [q, q2, if_false] at h6; exact absurd trivial h6
  · by_cases e1 : s = 1
    · simp only [e0, e1, if_true, if_false, show ¬ (1 = 0) by decide] at h6 ⊢
      by_cases q : dc x < 4
      · simp only [q, if_true]
        refine ⟨QW_s h1 (Or.inr ⟨q, ?_, rfl⟩), Or.inl rfl⟩
        rcases h2 with h2 | h2 | h2
        · exact absurd h2 e0
        · exact h2.2.1
        · have := h2.1; simp only [e1] at this; omega
      · simp only [q, if_false] at h6; exact absurd trivial h6
    · have hcu : cu < 4096 := by
        rcases h2 with h2 | h2 | h2
        · exact absurd h2 e0
        · exact absurd h2.1 e1
        · exact h2.2
      simp only [e0, e1, if_false] at h6 ⊢
      by_cases e4 : s < 4
      · simp only [e4, if_true] at h6 ⊢
        by_cases q : ofc x < 6
        · simp only [q, if_true]; exact ⟨h1, Or.inr (Or.inr ⟨by show 2 ≤ 3; decide, or_lt4 hcu (ho (by omega))⟩)⟩
        · by_cases q2 : s = 3 ∧ x = 58
          · simp only [q, if_false]; rw [if_pos q2]; exact ⟨h1, Or.inr (Or.inr ⟨by show 2 ≤ 4; decide, hcu⟩)⟩
          · simp only [q, if_false] at h6; rw [if_neg q2] at h6; exact absurd rfl h6
      · simp only [e4, if_false] at h6 ⊢
        by_cases q : 6 ≤ ofc x ∧ ofc x < 12
        · rw [if_pos q]; exact ⟨h1, Or.inr (Or.inr ⟨by show 2 ≤ 5; decide, or_lt4 hcu (ho q.2)⟩)⟩
        · rw [if_neg q] at h6 ⊢
          by_cases q2 : s = 5 ∧ x = 41
          · rw [if_pos q2]; exact ⟨QW_s h1 (Or.inl ⟨rfl, hcu⟩), Or.inl rfl⟩
          · rw [if_neg q2] at h6; exact absurd rfl h6
theorem add_m {n cu k : Nat} {ct : Bool} {M : Mm} (hn : n < 60) (hk : k < 12) (hcu : cu < 4096) (h0 : M.1 0 14 = nI n) (h9 : M.1 9 n = nI cu) (h10 : M.1 10 n = nI ct.toNat) : fX9_add (nI k) M = some ((), sI (sI M 10 n (nI (ct || cu.testBit k).toNat)) 9 n (nI (cu ||| 2 ^ k))) := by
  unfold fX9_add
  rw [h0, gd_of (inb_nI hn (by decide)), gd_of (inb_nI hn (by decide)), gd_of (inb_nI hn (by decide)), nI_clamp (by omega), sI_n (by decide), sI_n (by decide), h0, gd_of (inb_nI hn (by decide)), gd_of (inb_nI hn (by decide)), nI_clamp (by omega), h9, h10, jbit (by omega) (by omega), j2k (by omega)]
  have : nI ct.toNat ||| nI (cu.testBit k).toNat = nI (ct || cu.testBit k).toNat := by cases ct <;> cases cu.testBit k <;> rfl
  rw [this, nI_or]
theorem begin_m {n cu x : Nat} {ct : Bool} {Q : Qt} {M : Mm} (hn : n < 60) (hx : x < 200) (h0 : M.1 0 14 = nI n) (hq : QA n Q M) : ∃ M', fX9_begin (nI x) M = some (if (pS 0 n cu ct Q x).1 = 6 then mI 6 else nI (pS 0 n cu ct Q x).1, M') ∧ (¬ (pS 0 n cu ct Q x).1 = 6 → PQ (pS 0 n cu ct Q x) M') ∧ FrP M M' := by
  unfold fX9_begin
  rw [h0, gd_of (inb_nI hn (by decide)), nI_clamp (by omega), sI_n (by decide), h0, gd_of (inb_nI hn (by decide)), nI_clamp (by omega), sI_n (by decide), sI_n (by decide), h0, gd_of (inb_nI hn (by decide)), nI_clamp (by omega), ours_m hx, bd_s, ours_m hx, bd_s, theirs_m hx, bd_s]
  generalize hN : sI (sI (sI M 9 n (nI 0)) 10 n (nI 0)) 8 n (nI 4) = N
  have g0 : N.1 0 14 = nI n := by rw [← hN, sI_n (by decide), sI_n (by decide), sI_n (by decide)]; exact h0
  have g8 : N.1 8 n = nI 4 := by rw [← hN, sI_s]
  have g9 : N.1 9 n = nI 0 := by rw [← hN, sI_n (by decide), sI_n (by decide), sI_s]
  have g10 : N.1 10 n = nI false.toNat := by rw [← hN, sI_n (by decide), sI_s]; rfl
  have gq : QA n Q N := by rw [← hN]; exact QA_n (QA_n (QA_n hq (Nat.le_refl _) _) (Nat.le_refl _) _) (Nat.le_refl _) _
  have gf : FrP M N := by rw [← hN]; exact ((FrP_a _ (by decide) _ _).trans (FrP_a _ (by decide) _ _)).trans (FrP_a _ (by decide) _ _)
  have e40 : nI x = nI 40 ↔ x = 40 := nI_eq (by omega) (by decide)
  have m6 : mI 6 < nI 0 := by decide
  have m6' : ¬ nI 0 ≤ mI 6 := by decide
  have key : (if (if ofc x < 6 then nI (ofc x) else mI 6) < nI 0 then fX9_begin_b48 (nI x) (if 6 ≤ ofc x ∧ ofc x < 12 then nI (ofc x) else mI 6) N else fX9_begin_b48 (nI x) (if ofc x < 6 then nI (ofc x) else mI 6) N) = fX9_begin_b48 (nI x) (if ofc x < 12 then nI (ofc x) else mI 6) N := by
    by_cases h6 : ofc x < 6
    · rw [if_pos h6, if_neg (nI_nlt (Nat.zero_le _) (by omega)), if_pos (show ofc x < 12 by omega)]
    · rw [if_neg h6, if_pos m6]
      by_cases h12 : ofc x < 12
      · rw [if_pos ⟨by omega, h12⟩, if_pos h12]
      · rw [if_neg (by omega), if_neg h12]
  rw [key]
  unfold fX9_begin_b48 fX9_begin_b58 pS
  simp only [if_true, e40]
  by_cases h12 : ofc x < 12
  · have hlt : ¬ nI (ofc x) < nI 0 := nI_nlt (Nat.zero_le _) (by omega)
    have hle : nI 0 ≤ nI (ofc x) := nI_le (Nat.zero_le _) (by omega)
    have hx40 : ¬ x = 40 := by
      intro e; subst e; revert h12; decide
    simp only [h12, if_true, hlt, if_false]
    rw [add_m (ct := false) hn h12 (by decide) g0 g9 g10, bd_s, if_neg hx40, if_pos hle, if_neg (by decide)]
    refine ⟨_, rfl, fun _ => ⟨?_, ?_, Or.inr ⟨?_, ?_, ?_⟩⟩, gf.trans ((FrP_a _ (by decide) _ _).trans (FrP_a _ (by decide) _ _))⟩
    · rw [sI_n (by decide), sI_n (by decide)]; exact g0
    · exact QA_n (QA_n gq (Nat.le_refl _) _) (Nat.le_refl _) _
    · rw [sI_n (by decide), sI_n (by decide)]; exact g8
    · show (sI _ 9 n (nI (0 ||| 2 ^ ofc x))).1 9 n = _
      rw [sI_s, Nat.zero_or]; rfl
    · show (sI _ 9 n _).1 10 n = _
      rw [sI_n (by decide), sI_s, Nat.zero_testBit]; rfl
  · simp only [h12, if_false, m6, if_true]
    by_cases h40 : x = 40
    · simp only [h40, if_true]
      exact ⟨N, rfl, fun _ => ⟨g0, gq, Or.inr ⟨g8, g9, g10⟩⟩, gf⟩
    · simp only [h40, if_false, m6', if_true]
      exact ⟨N, rfl, fun h => absurd trivial h, gf⟩
theorem deed_m {n cu x : Nat} {ct : Bool} {Q : Qt} {M : Mm} (hn : n < 60) (hx : x < 200) (hP : PQ (1, n, cu, ct, Q) M) (hct : ct = false) : ∃ M', fX9_deed (nI x) M = some (if (pS 1 n cu ct Q x).1 = 6 then mI 6 else nI (pS 1 n cu ct Q x).1, M') ∧ (¬ (pS 1 n cu ct Q x).1 = 6 → PQ (pS 1 n cu ct Q x) M') ∧ FrP M M' := by
  obtain ⟨h0, hq, h3⟩ := hP
  have h0 : M.1 0 14 = nI n := h0
  have h3 : M.1 8 n = nI 4 ∧ M.1 9 n = nI (2 ^ cu) ∧ M.1 10 n = nI ct.toNat := by
    rcases h3 with h3 | h3
    · cases h3
    · exact h3
  unfold fX9_deed fX9_deed_b39
  have e1 : nI x = nI 43 ↔ x = 43 := nI_eq (by omega) (by decide)
  have e2 : nI x = nI 98 ↔ x = 98 := nI_eq (by omega) (by decide)
  have e3 : nI x = nI 104 ↔ x = 104 := nI_eq (by omega) (by decide)
  have e4 : nI x = nI 115 ↔ x = 115 := nI_eq (by omega) (by decide)
  simp only [e1, e2, e3, e4]
  have t : ∀ v, (sI M 8 n v).1 0 14 + nI 1 = nI (n + 1) := fun v => by rw [sI_n (by decide), h0, nI_1']
  rw [h0, gd_of (inb_nI hn (by decide)), gd_of (inb_nI hn (by decide)), gd_of (inb_nI hn (by decide)), gd_of (inb_nI hn (by decide)), nI_clamp (by omega)]
  simp only [t]
  have fin : ∀ d, d < 4 → dc x = d → PQ (0, n + 1, 0, false, uQ Q n (d, cu, false)) (sI (sI M 8 n (nI d)) 0 14 (nI (n + 1))) := by
    intro d hd e
    refine ⟨sI_s _ _ _ _, QA_0 (QA_s (QA_n hq (Nat.le_refl _) _) ?_ ?_ ?_) _ _, Or.inl rfl⟩
    · exact sI_s _ _ _ _
    · rw [sI_n (by decide), h3.2.1, if_neg (show ¬ d = 4 by omega)]
    · rw [sI_n (by decide), h3.2.2, hct]
  have ff : ∀ v, FrP M (sI (sI M 8 n v) 0 14 (nI (n + 1))) := fun v => (FrP_a _ (by decide) _ _).trans (FrP_0 _ _)
  unfold pS
  rw [if_neg (show ¬ (1 = 0) by decide), if_pos rfl]
  by_cases h4 : x = 115
  · subst h4
    exact ⟨_, rfl, fun _ => fin 0 (by decide) rfl, ff _⟩
  · by_cases h3 : x = 104
    · subst h3
      exact ⟨_, rfl, fun _ => fin 1 (by decide) rfl, ff _⟩
    · by_cases h2 : x = 98
      · subst h2
        exact ⟨_, rfl, fun _ => fin 2 (by decide) rfl, ff _⟩
      · by_cases h1 : x = 43
        · subst h1
          exact ⟨_, rfl, fun _ => fin 3 (by decide) rfl, ff _⟩
        · have hd : ¬ dc x < 4 := by unfold dc; simp only [h1, h2, h3, h4, if_false]; decide
          simp only [h1, h2, h3, h4, if_false, hd]
          exact ⟨_, rfl, fun h => absurd trivial h, ff _⟩
theorem inLots_m {s n cu x : Nat} {ct : Bool} {Q : Qt} {M : Mm} (hs : 2 ≤ s) (hs6 : s < 6) (hn : n < 60) (hx : x < 200) (hcu : cu < 4096) (hP : PQ (s, n, cu, ct, Q) M) : ∃ M', fX9_inLots (nI s) (nI x) M = some (if (pS s n cu ct Q x).1 = 6 then mI 6 else nI (pS s n cu ct Q x).1, M') ∧ (¬ (pS s n cu ct Q x).1 = 6 → PQ (pS s n cu ct Q x) M') ∧ FrP M M' := by
  obtain ⟨h0, hq, h3⟩ := hP
  have h0 : M.1 0 14 = nI n := h0
  have h3 : M.1 8 n = nI 4 ∧ M.1 9 n = nI cu ∧ M.1 10 n = nI ct.toNat := by
    rcases h3 with h3 | h3
    · have : s = 0 := h3; omega
    · have := h3.2.1
      rw [if_neg (show ¬ s = 1 by omega)] at this
      exact ⟨h3.1, this, h3.2.2⟩
  unfold fX9_inLots
  rw [ours_m hx, bd_s, theirs_m hx, bd_s]
  unfold fX9_inLots_b16 fX9_inLots_b50 fX9_inLots_b70 fX9_inLots_b71
  have e1 : nI x = nI 58 ↔ x = 58 := nI_eq (by omega) (by decide)
  have e2 : nI x = nI 41 ↔ x = 41 := nI_eq (by omega) (by decide)
  have e3 : nI s = nI 3 ↔ s = 3 := nI_eq (by omega) (by decide)
  have e4 : nI 4 ≤ nI s ↔ ¬ s < 4 := by rw [nI_leI (by decide) (by omega)]; omega
  have e5 : nI s = nI 5 ↔ s = 5 := nI_eq (by omega) (by decide)
  have m6 : mI 6 < nI 0 := by decide
  have s0 : ¬ s = 0 := by omega
  have s1 : ¬ s = 1 := by omega
  simp only [e1, e2, e3, e4, e5, h0, nI_add, Nat.add_zero]
  have addq : ∀ q, ofc x < 12 → PQ (q, n, cu ||| 2 ^ ofc x, ct || cu.testBit (ofc x), Q) (sI (sI M 10 n (nI (ct || cu.testBit (ofc x)).toNat)) 9 n (nI (cu ||| 2 ^ ofc x))) ∨ q = 1 := by
    intro q hq'
    by_cases e : q = 1
    · exact Or.inr e
    · refine Or.inl ⟨?_, QA_n (QA_n hq (Nat.le_refl _) _) (Nat.le_refl _) _, Or.inr ⟨?_, ?_, ?_⟩⟩
      · rw [sI_n (by decide), sI_n (by decide)]; exact h0
      · show (sI _ 9 n _).1 8 n = _
        rw [sI_n (by decide), sI_n (by decide)]; exact h3.1
      · show (sI _ 9 n _).1 9 n = nI (if q = 1 then _ else _)
        rw [sI_s, if_neg e]
      · show (sI _ 9 n _).1 10 n = _
        rw [sI_n (by decide), sI_s]
  have addf : FrP M (sI (sI M 10 n (nI (ct || cu.testBit (ofc x)).toNat)) 9 n (nI (cu ||| 2 ^ ofc x))) := (FrP_a _ (by decide) _ _).trans (FrP_a _ (by decide) _ _)
  unfold pS
  rw [if_neg s0, if_neg s1]
  by_cases h4 : s < 4
  · have n5 : ¬ s = 5 := by omega
    simp only [h4, not_true, if_false, if_true, n5]
    by_cases h6 : ofc x < 6
    · have hlt : ¬ nI (ofc x) < nI 0 := nI_nlt (Nat.zero_le _) (by omega)
      simp only [h6, if_true, hlt, if_false]
      rw [add_m (ct := ct) hn (by omega) hcu h0 h3.2.1 h3.2.2, bd_s, if_neg (by decide)]
      exact ⟨_, rfl, fun _ => (addq 3 (by omega)).resolve_right (by decide), addf⟩
    · simp only [h6, if_false, m6, if_true]
      by_cases q : s = 3 ∧ x = 58
      · simp only [q.1, q.2, if_true, and_self]
        refine ⟨M, rfl, fun _ => ⟨h0, hq, Or.inr ⟨h3.1, ?_, h3.2.2⟩⟩, FrP.refl M⟩
        exact h3.2.1
      · have key : (if s = 3 then if x = 58 then some (nI 4, M) else some (mI 6, sI M 0 14 (nI n)) else some (mI 6, sI M 0 14 (nI n)) : Option (Int32 × Mm)) = some (mI 6, sI M 0 14 (nI n)) := by
          by_cases q1 : s = 3
          · rw [if_pos q1, if_neg (fun z => q ⟨q1, z⟩)]
          · rw [if_neg q1]
        rw [key]
        simp only [q, if_false, if_true]
        exact ⟨_, rfl, fun h => absurd trivial h, FrP_0 _ _⟩
  · have n3 : ¬ s = 3 := by omega
    simp only [h4, not_false_eq_true, if_false, if_true, n3]
    by_cases h6 : 6 ≤ ofc x ∧ ofc x < 12
    · have hlt : ¬ nI (ofc x) < nI 0 := nI_nlt (Nat.zero_le _) (by omega)
      rw [if_pos h6, if_pos h6, if_neg hlt, add_m (ct := ct) hn h6.2 hcu h0 h3.2.1 h3.2.2, bd_s, if_neg (show ¬ (5 = 6) by decide)]
      exact ⟨_, rfl, fun _ => (addq 5 h6.2).resolve_right (by decide), addf⟩
    · rw [if_neg h6, if_neg h6, if_pos m6]
      by_cases q : s = 5 ∧ x = 41
      · simp only [q.1, q.2, if_true, and_self]
        refine ⟨_, rfl, fun _ => ⟨sI_s _ _ _ _, QA_0 (QA_s (a := (4, cu, ct)) hq h3.1 h3.2.1 h3.2.2) _ _, Or.inl rfl⟩, FrP_0 _ _⟩
      · have key : (if s = 5 then if x = 41 then (if s = 5 then if x = 41 then some (nI 0, sI M 0 14 (nI (n + 1))) else some (mI 6, sI M 0 14 (nI (n + 1))) else some (mI 6, sI M 0 14 (nI (n + 1)))) else (if s = 5 then if x = 41 then some (nI 0, sI M 0 14 (nI n)) else some (mI 6, sI M 0 14 (nI n)) else some (mI 6, sI M 0 14 (nI n))) else (if s = 5 then if x = 41 then some (nI 0, sI M 0 14 (nI n)) else some (mI 6, sI M 0 14 (nI n)) else some (mI 6, sI M 0 14 (nI n))) : Option (Int32 × Mm)) = some (mI 6, sI M 0 14 (nI n)) := by
          by_cases q1 : s = 5
          · have q2 : ¬ x = 41 := fun z => q ⟨q1, z⟩
            simp only [q1, q2, if_true, if_false]
          · simp only [q1, if_false]
        rw [if_neg q]
        refine ⟨sI M 0 14 (nI n), ?_, fun h => absurd rfl h, FrP_0 _ _⟩
        exact key
