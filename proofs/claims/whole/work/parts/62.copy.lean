/-! copies of the books; the lists had and leaves -/
theorem cpI_n {M : Mm} {c d n a : Nat} (h : a ≠ d) : (cpI M c d n).1 a = M.1 a := by
  funext j; simp [cpI, h]
theorem cpI_s {M : Mm} {c d n j : Nat} (h : j < n) : (cpI M c d n).1 d j = M.1 c j := by simp [cpI, h]
theorem copy_k {c d : Nat} {b : Sb} {M : Mm} (hcd : c + 5 ≤ d ∨ d + 5 ≤ c) (hX : XK d b M) (hS : XS d b M) (hn : bn b ≤ 8) : ∃ M', fX0_copyFrom c d M = some ((), M') ∧ XK c b M' ∧ XS c b M' ∧ ∀ a, ¬ (c ≤ a ∧ a ≤ c + 4) → M'.1 a = M.1 a := by
  unfold fX0_copyFrom
  rw [show (nI 12).toNatClampNeg = 12 by decide, show (nI 6).toNatClampNeg = 6 by decide, show (nI 8).toNatClampNeg = 8 by decide]
  obtain ⟨x1, x2, x3, x4, x5⟩ := hX
  obtain ⟨s1, s2, e, s3, s4, s5⟩ := hS
  refine ⟨_, rfl, ⟨?_, ?_, fun k hk => ?_, fun k hk => ?_, fun k hk => ?_⟩, ⟨?_, fun i hi => ?_, e, ?_, s4, s5⟩, fun a ha => ?_⟩
  · rw [cpI_n (by omega), cpI_n (by omega), cpI_n (by omega), cpI_n (by omega), sI_j _ (by decide), sI_j _ (by decide), sI_j _ (by decide), sI_s, x1]
  · rw [cpI_n (by omega), cpI_n (by omega), cpI_n (by omega), cpI_n (by omega), sI_j _ (by decide), sI_j _ (by decide), sI_s, sI_n (by omega), x2]
  · rw [cpI_n (by omega), cpI_n (by omega), cpI_n (by omega), cpI_s hk, sI_n (by omega), sI_n (by omega), sI_n (by omega), sI_n (by omega), x3 k hk]
  · rw [cpI_n (by omega), cpI_n (by omega), cpI_s hk, cpI_n (by omega), sI_n (by omega), sI_n (by omega), sI_n (by omega), sI_n (by omega), x4 k hk]
  · rw [cpI_n (by omega), cpI_s hk, cpI_n (by omega), cpI_n (by omega), sI_n (by omega), sI_n (by omega), sI_n (by omega), sI_n (by omega), x5 k hk]
  · rw [cpI_n (by omega), cpI_n (by omega), cpI_n (by omega), cpI_n (by omega), sI_j _ (by decide), sI_s, sI_n (by omega), sI_n (by omega), s1]
  · rw [cpI_s (by omega), cpI_n (by omega), cpI_n (by omega), cpI_n (by omega), sI_n (by omega), sI_n (by omega), sI_n (by omega), sI_n (by omega), s2 i hi]
  · rw [cpI_n (by omega), cpI_n (by omega), cpI_n (by omega), cpI_n (by omega), sI_s, sI_n (by omega), sI_n (by omega), sI_n (by omega), s3]
  · rw [cpI_n (by omega), cpI_n (by omega), cpI_n (by omega), cpI_n (by omega), sI_n (by omega), sI_n (by omega), sI_n (by omega), sI_n (by omega)]
def HK (c : Nat) (b : Sb) (M : Mm) : Prop := (∀ j, j < 12 → M.1 c j = nI (bz b j) ∧ M.1 c (12 + j) = nI (br b j)) ∧ M.1 c 24 = nI (bt b)
theorem store_b {c : Nat} (hc : 3 < c) {b : Sb} : ∀ n k M, k ≤ 12 → 12 < k + n → MK b M → (∀ j, j < k → M.1 c j = nI (bz b j) ∧ M.1 c (12 + j) = nI (br b j)) → ∃ M', fX9_store_b2 c n (nI k) M = some ((), M') ∧ HK c b M' ∧ ∀ a, a ≠ c → M'.1 a = M.1 a := by
  intro n
  induction n with
  | zero => intro k M h1 h2; omega
  | succ n ih =>
    intro k M h1 h2 hX hh
    rw [fX9_store_b2]
    by_cases hk : k = 12
    · subst hk
      rw [if_pos (by decide), show (nI 24).toNatClampNeg = 24 by decide, hX.2.1]
      refine ⟨_, rfl, ⟨fun j hj => ⟨?_, ?_⟩, sI_s _ _ _ _⟩, fun a ha => sI_n ha⟩
      · rw [sI_j _ (by omega)]; exact (hh j hj).1
      · rw [sI_j _ (by omega)]; exact (hh j hj).2
    · have hk' : k < 12 := by omega
      rw [if_neg (nI_ge hk' (by decide)), nI_add, gd_of (inb_nI hk' (by decide)), gd_of (inb_nI (by omega) (by decide)), gd_of (inb_nI hk' (by decide)), gd_of (inb_nI (by omega) (by decide)), nI_1', nI_clamp (by omega), nI_clamp (by omega), sI_n (by omega), hX.2.2.2.1 k hk', hX.2.2.1 k hk']
      obtain ⟨M', e2, hX', hf⟩ := ih (k + 1) (sI (sI M c k (nI (bz b k))) c (12 + k) (nI (br b k))) (by omega) (by omega) (MK_fr (by rw [sI_n (by omega), sI_n (by omega)]) (by rw [sI_n (by omega), sI_n (by omega)]) (by rw [sI_n (by omega), sI_n (by omega)]) (by rw [sI_n (by omega), sI_n (by omega)]) (by rw [sI_n (by omega), sI_n (by omega)]) hX) (fun j hj => by
          by_cases e : j = k
          · subst e
            exact ⟨by rw [sI_j _ (by omega), sI_s], sI_s _ _ _ _⟩
          · have := hh j (by omega)
            exact ⟨by rw [sI_j _ (by omega), sI_j _ e]; exact this.1, by rw [sI_j _ (by omega), sI_j _ (by omega)]; exact this.2⟩)
      exact ⟨M', e2, hX', fun a ha => by rw [hf a ha, sI_n ha, sI_n ha]⟩
theorem lay_b {c : Nat} (hc : 3 < c) {b : Sb} : ∀ n k M, k ≤ 12 → 12 < k + n → HK c b M → M.1 0 0 = nI (bp b) → (∀ j, j < 6 → M.1 3 j = nI (bw b j)) → (∀ j, j < k → M.1 2 j = nI (bz b j) ∧ M.1 1 j = nI (br b j)) → ∃ M', fX9_lay_b2 c n (nI k) M = some ((), M') ∧ MK b M' ∧ (∀ a, ¬ a ≤ 2 → M'.1 a = M.1 a) ∧ ∀ j, j ≠ 1 → M'.1 0 j = M.1 0 j := by
  intro n
  induction n with
  | zero => intro k M h1 h2; omega
  | succ n ih =>
    intro k M h1 h2 hH h0 h3 hh
    rw [fX9_lay_b2]
    by_cases hk : k = 12
    · subst hk
      rw [if_pos (by decide), show (nI 24).toNatClampNeg = 24 by decide, hH.2]
      refine ⟨_, rfl, ⟨by rw [sI_j _ (by decide)]; exact h0, sI_s _ _ _ _, fun j hj => by rw [sI_n (by decide)]; exact (hh j hj).2, fun j hj => by rw [sI_n (by decide)]; exact (hh j hj).1, fun j hj => by rw [sI_n (by decide)]; exact h3 j hj⟩, fun a ha => sI_n (by omega), fun j hj => sI_j _ hj⟩
    · have hk' : k < 12 := by omega
      rw [if_neg (nI_ge hk' (by decide)), nI_add, gd_of (inb_nI hk' (by decide)), gd_of (inb_nI (by omega) (by decide)), gd_of (inb_nI hk' (by decide)), gd_of (inb_nI (by omega) (by decide)), nI_1', nI_clamp (by omega), nI_clamp (by omega), sI_n (by omega), (hH.1 k hk').1, (hH.1 k hk').2]
      obtain ⟨M', e2, hX', hf, hg⟩ := ih (k + 1) (sI (sI M 2 k (nI (bz b k))) 1 k (nI (br b k))) (by omega) (by omega) ⟨fun j hj => by rw [sI_n (by omega), sI_n (by omega)]; exact hH.1 j hj, by rw [sI_n (by omega), sI_n (by omega)]; exact hH.2⟩ (by rw [sI_n (by omega), sI_n (by omega)]; exact h0) (fun j hj => by rw [sI_n (by omega), sI_n (by omega)]; exact h3 j hj) (fun j hj => by
          by_cases e : j = k
          · subst e
            exact ⟨by rw [sI_n (by omega), sI_s], sI_s _ _ _ _⟩
          · have := hh j (by omega)
            exact ⟨by rw [sI_n (by omega), sI_j _ e]; exact this.1, by rw [sI_j _ e, sI_n (by omega)]; exact this.2⟩)
      exact ⟨M', e2, hX', fun a ha => by rw [hf a ha, sI_n (by omega), sI_n (by omega)], fun j hj => by rw [hg j hj, sI_n (by omega), sI_n (by omega)]⟩
theorem store_m {c : Nat} (hc : 3 < c) {b : Sb} {M : Mm} (hX : MK b M) : ∃ M', fX9_store c M = some ((), M') ∧ HK c b M' ∧ ∀ a, a ≠ c → M'.1 a = M.1 a := store_b hc fu 0 M (by omega) (by decide) hX (fun j hj => by omega)
theorem lay_m {c : Nat} (hc : 3 < c) {b : Sb} {M : Mm} (hH : HK c b M) (h0 : M.1 0 0 = nI (bp b)) (h3 : ∀ j, j < 6 → M.1 3 j = nI (bw b j)) : ∃ M', fX9_lay c M = some ((), M') ∧ MK b M' ∧ (∀ a, ¬ a ≤ 2 → M'.1 a = M.1 a) ∧ ∀ j, j ≠ 1 → M'.1 0 j = M.1 0 j := lay_b hc fu 0 M (by omega) (by decide) hH h0 h3 (fun j hj => by omega)
