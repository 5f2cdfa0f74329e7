/-! fault -/
theorem pT_n (p : Ps) (x : Nat) : (pT p x).2.1 ≤ p.2.1 + 1 := by
  unfold pT pS
  repeat' split
  all_goals (simp only []; omega)
theorem fault_b {N : Nat} {c : Nat → Nat} (hN : N ≤ 60) (hc : ∀ i, i < N → c i < 200) : ∀ n r i p M, i + r = N → r < n → p.1 < 6 → p.2.1 ≤ i → PW p → PQ p M → M.1 0 10 = nI N → (∀ i, i < N → M.1 7 i = nI (c i)) → ∃ M', fX9_fault_b9 n (nI p.1) (nI i) M = some ((pG c r i p).1, M') ∧ ((pG c r i p).1 = mI 6 → PQ (pG c r i p).2 M' ∧ PW (pG c r i p).2 ∧ (pG c r i p).2.2.1 ≤ N) ∧ FrP M M' := by
  intro n
  induction n with
  | zero => intro r i p M _ h; omega
  | succ n ih =>
    intro r i p M hi hr hp hpn hw hq h1 h2
    rw [fX9_fault_b9, h1]
    cases r with
    | zero =>
      rw [if_pos (nI_le (by omega) (by omega)), fX9_fault_b76, h1, pG]
      have e0 : nI p.1 = nI 0 ↔ p.1 = 0 := nI_z (by omega)
      simp only [e0]
      have : i = N := by omega
      subst this
      refine ⟨M, ?_, fun _ => ⟨hq, hw, hpn⟩, FrP.refl M⟩
      split <;> rfl
    | succ r =>
      have hx := hc i (by omega)
      have h60 : p.2.1 < 60 := by omega
      have ci := h2 i (by omega)
      rw [if_neg (nI_ge (by omega) (by omega)), gd_of (inb_nI (by omega) (by decide)), gd_of (inb_nI (by omega) (by decide)), gd_of (inb_nI (by omega) (by decide)), nI_clamp (by omega), ci, pG]
      have hl : (pT p (c i)).1 < 7 := pS_lt p.1 p.2.1 p.2.2.1 p.2.2.2.1 p.2.2.2.2 (c i)
      have e0 : nI p.1 = nI 0 ↔ p.1 = 0 := nI_z (by omega)
      have e1 : nI p.1 = nI 1 ↔ p.1 = 1 := nI_eq (by omega) (by decide)
      have main : ∃ M1, (if nI p.1 = nI 0 then bd (fX9_begin (nI (c i)) M) (fun r9 M9 => fX9_fault_b63 (fX9_fault_b9 n) (nI i) r9 M9) else if nI p.1 = nI 1 then bd (fX9_deed (nI (c i)) M) (fun r9 M9 => fX9_fault_b63 (fX9_fault_b9 n) (nI i) r9 M9) else bd (fX9_inLots (nI p.1) (nI (c i)) M) (fun r9 M9 => fX9_fault_b63 (fX9_fault_b9 n) (nI i) r9 M9)) = fX9_fault_b63 (fX9_fault_b9 n) (nI i) (if (pT p (c i)).1 = 6 then mI 6 else nI (pT p (c i)).1) M1 ∧ (¬ (pT p (c i)).1 = 6 → PQ (pT p (c i)) M1) ∧ FrP M M1 := by
        obtain ⟨s, m, cu, ct, Q⟩ := p
        simp only [] at e0 e1
        simp only [e0, e1]
        by_cases s0 : s = 0
        · obtain ⟨M1, b1, b2, b3⟩ := begin_m (cu := cu) (ct := ct) h60 hx hq.1 hq.2.1
          simp only [s0, if_true]
          exact ⟨M1, by rw [b1, bd_s], b2, b3⟩
        · by_cases s1 : s = 1
          · have hct : ct = false := by
              rcases hw.2 with h | h | h
              · exact absurd h s0
              · exact h.2.2
              · have : 2 ≤ s := h.1; omega
            simp only [s1] at hq
            obtain ⟨M1, b1, b2, b3⟩ := deed_m (cu := cu) (ct := ct) h60 hx hq hct
            simp only [s1, if_true, show ¬ (1 = 0) by decide, if_false]
            exact ⟨M1, by rw [b1, bd_s], b2, b3⟩
          · have hcu : 2 ≤ s ∧ cu < 4096 := by
              rcases hw.2 with h | h | h
              · exact absurd h s0
              · exact absurd h.1 s1
              · exact h
            obtain ⟨M1, b1, b2, b3⟩ := inLots_m hcu.1 hp h60 hx hcu.2 hq
            simp only [s0, s1, if_false]
            exact ⟨M1, by rw [b1, bd_s], b2, b3⟩
      obtain ⟨M1, b1, b2, b3⟩ := main
      rw [b1]
      unfold fX9_fault_b63
      by_cases h6 : (pT p (c i)).1 = 6
      · simp only [h6, if_true]
        rw [if_neg (by decide)]
        exact ⟨M1, rfl, fun h => absurd h (fun z => by
          have := congrArg Int32.toInt z
          rw [nI_toInt (by omega), show (mI 6).toInt = -6 by decide] at this
          omega), b3⟩
      · simp only [h6, if_false]
        rw [if_pos (nI_le (Nat.zero_le _) (by omega)), nI_1']
        obtain ⟨M2, c1, c2, c3⟩ := ih r (i + 1) (pT p (c i)) M1 (by omega) (by omega) (by omega) (by have := pT_n p (c i); omega) (PW_s hw hp _ h6) (b2 h6) (by rw [b3.2 10 (by decide)]; exact h1) (fun j hj => by rw [b3.1 7 (by decide) (by decide)]; exact h2 j hj)
        exact ⟨M2, c1, c2, b3.trans c3⟩
def p0 : Ps := (0, 0, 0, false, fun _ => (0, 0, false))
abbrev pF (S : Sa) : Int32 × Ps := pG S.2.1.2 S.2.1.1 0 p0
theorem fault_m {S : Sa} {M : Mm} (hS : XO S) (hM : RM S M) : ∃ M', fX9_fault M = some ((pF S).1, M') ∧ RM S M' ∧ ((pF S).1 = mI 6 → PQ (pF S).2 M' ∧ PW (pF S).2 ∧ (pF S).2.2.1 ≤ 60) := by
  unfold fX9_fault
  obtain ⟨M1, e1, e2, e3⟩ := fault_b (N := S.2.1.1) (c := S.2.1.2) hS.2.2.1 (fun i hi => by have := hS.2.2.2.1 i hi; omega) fu S.2.1.1 0 p0 (sI M 0 14 (nI 0)) (by omega) (by have := hS.2.2.1; have : fu = 5000 := rfl; omega) (by decide) (by decide) ⟨fun j hj => absurd hj (by show ¬ j < 0; omega), Or.inl rfl⟩ ⟨sI_s _ _ _ _, fun j hj => absurd hj (by show ¬ j < 0; omega), Or.inl rfl⟩ (by rw [sI_j _ (by decide)]; exact hM.2.2.1) (fun j hj => by rw [sI_n (by decide)]; exact hM.2.2.2.1 j hj)
  have ff := (FrP_0 M (nI 0)).trans e3
  refine ⟨M1, e1, RM_hk hM (MK_fr (ff.2 0 (by decide)) (ff.2 1 (by decide)) (ff.1 1 (by decide) (by decide)) (ff.1 2 (by decide) (by decide)) (ff.1 3 (by decide) (by decide)) hM.1) (fun j hj => ff.2 j (by omega)) (fun a ha => ff.1 a (by omega) (by omega)), fun h => ?_⟩
  have := e2 h
  exact ⟨this.1, this.2.1, Nat.le_trans this.2.2 hS.2.2.1⟩
theorem ff_c {S : Sa} {M : Mm} (hS : XO S) (hX : RX S M) : fX4_firstFault M = some ((pF S).1, M) := by
  unfold fX4_firstFault
  exact ff_b (N := S.2.1.1) (c := S.2.1.2) hS.2.2.1 (fun i hi => by have := hS.2.2.2.1 i hi; omega) hX.2.2.1 hX.2.2.2.1 fu S.2.1.1 0 p0 (by omega) (by have := hS.2.2.1; have : fu = 5000 := rfl; omega) (by decide)
theorem op_fault : Op_fault Rl := by
  intro Mx M_ hR
  obtain ⟨S, hS, hX, hM⟩ := hR
  obtain ⟨M1, e1, e2, _⟩ := fault_m hS hM
  unfold fX8_fault
  rw [ff_c hS hX, bd_s, e1]
  exact ⟨_, _, _, rfl, rfl, S, hS, hX, e2⟩
