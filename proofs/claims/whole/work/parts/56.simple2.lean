theorem sm_bd {g : Nat → Int} {n : Nat} (h : ∀ k, k < n → -99 ≤ g k ∧ g k ≤ 99) : -99 * (n : Int) ≤ sm g n ∧ sm g n ≤ 99 * (n : Int) := by
  induction n with
  | zero => simp [sm]
  | succ n ih =>
    rw [sm]
    have h1 := ih (fun k hk => h k (by omega))
    have h2 := h n (by omega)
    omega
theorem wk_bd {b : Sb} (hO : OK b) {k : Nat} (hk : k < 12) : 1 ≤ wk b k ∧ wk b k ≤ 99 := hO.2.2.2.2 _ (hO.2.2.1 k hk)
theorem ld_bd {b : Sb} (hO : OK b) (S : Nat → Bool) : -1188 ≤ ld b S ∧ ld b S ≤ 1188 := by
  have h := sm_bd (g := fun k => if S k then sgn k (wk b k) else 0) (n := 12) (fun k hk => by
    have := wk_bd hO hk
    show -99 ≤ (if S k = true then sgn k (wk b k) else 0) ∧ _
    unfold sgn
    by_cases hs : S k = true
    · rw [if_pos hs]
      by_cases h6 : k < 6
      · rw [if_pos h6]; omega
      · rw [if_neg h6]; omega
    · rw [if_neg hs]; omega)
  unfold ld
  omega
theorem ld_z {b : Sb} (hO : OK b) (S : Nat → Bool) : iI (ld b S) = nI 0 ↔ ld b S = 0 := by
  have := ld_bd hO S
  exact iI_zn (by omega) (by omega)
theorem ld_congr {b : Sb} {S T : Nat → Bool} (h : ∀ k, k < 12 → S k = T k) : ld b S = ld b T := sm_congr (fun k hk => by rw [h k hk])
theorem op_th {b : Sb} {k : Nat} : (op b k && th b k) = op b k := by
  unfold op
  cases th b k <;> simp
theorem ld_crowd {b : Sb} : ld b (fun k => (bs (op b) 12).testBit k && th b k) = ld b (op b) := ld_congr (fun k hk => by
  rw [bs_bit, decide_eq_true hk, Bool.true_and, op_th])
theorem neg_ite {p : Prop} [Decidable p] (x : Int) : (if p then -x else 0) = -(if p then x else 0) := by split <;> simp
theorem ld_op (b : Sb) : ld b (op b) = sOp b 0 6 - sOp b 6 6 := by
  simp only [ld, sOp, sm, sgn]
  simp [neg_ite]
  omega
theorem op_owed : Op_owed Rl := by
  intro Mx M_ ⟨S, hS, hX, hM⟩
  have hO := hS.1
  unfold fX8_owed fX9_owed
  simp only [crowd7 hX.1 hO, lead_s hX.1 hO, sumOpen_0 hM.1 hO, sumOpen_6 hM.1 hO, bd_s, ld_crowd, ld_op]
  refine ⟨_, _, _, rfl, ?_, S, hS, hX, hM⟩
  congr 3
  show iI (sOp S.1 0 6) - iI (sOp S.1 6 6) = _
  rw [Int32.sub_eq_add_neg, iI_neg, iI_add]
  rfl
theorem op_say : Op_say Rl := by
  intro a1 Mx M_ ⟨S, hS, hX, hM⟩
  obtain ⟨hO, hOS, hp, hq, hi⟩ := hS
  unfold fX8_say fX9_say fX4_write
  simp only [isWithin_nI a1 (a := 33) (b := 126) (by decide) (by decide), in_nI a1 (a := 33) (b := 126) (by decide) (by decide), bd_s, ib0]
  cases hw : wi a1 33 126
  · exact ⟨_, _, _, rfl, rfl, S, ⟨hO, hOS, hp, hq, hi⟩, hX, hM⟩
  obtain ⟨v, hv1, hv2, rfl⟩ := wi_of (by decide) hw
  simp only [if_true]
  obtain ⟨xk, xs, p1, p2, p3⟩ := hX
  obtain ⟨mk, mg, q1, q2, q3⟩ := hM
  rw [p1, q1]
  by_cases h60 : S.2.1.1 = 60
  · rw [if_neg (by rw [h60]; decide), if_pos (by rw [h60])]
    exact ⟨_, _, _, rfl, rfl, S, ⟨hO, hOS, hp, hq, hi⟩, ⟨xk, xs, p1, p2, p3⟩, mk, mg, q1, q2, q3⟩
  · have h6 : S.2.1.1 < 60 := by omega
    rw [if_pos (nI_lt h6 (by decide)), if_neg (nI_ge h6 (by decide)), if_neg (fun z => h60 ((nI_eq (by omega) (by decide)).mp z)), gd_of (inb_nI h6 (by decide)), gd_of (inb_nI h6 (by decide)), bd_s, nI_clamp (by omega), sI_s, sI_s, sI_n (by decide), sI_n (by decide), p1, q1, nI_1']
    refine ⟨_, _, _, rfl, rfl, (S.1, (S.2.1.1 + 1, un S.2.1.2 S.2.1.1 v), S.2.2), ⟨hO, hOS, by show S.2.1.1 + 1 ≤ 60; omega, fun i hi2 => ?_, hi⟩, ?_, ?_⟩
    · show 33 ≤ un S.2.1.2 S.2.1.1 v i ∧ un S.2.1.2 S.2.1.1 v i ≤ 126
      have hi3 : i < S.2.1.1 + 1 := hi2
      unfold un
      split
      · exact ⟨hv1, hv2⟩
      · exact hq i (by omega)
    · have hf : ∀ a, a ≠ 6 → a ≠ 7 → (sI (sI Mx 7 S.2.1.1 (nI v)) 6 1 (nI (S.2.1.1 + 1))).1 a = Mx.1 a := fun a h1 h2 => by rw [sI_n h1, sI_n h2]
      refine ⟨XK_fr (fun a h1 h2 => hf a (by omega) (by omega)) xk, XS_fr (hf _ (by decide) (by decide)) (hf _ (by decide) (by decide)) xs, sI_s _ _ _ _, fun i hi2 => ?_, fun k hk => ⟨by rw [hf _ (by decide) (by decide)]; exact (p3 k hk).1, fun b hb => ?_⟩⟩
      · have hi3 : i < S.2.1.1 + 1 := hi2
        rw [sI_n (by decide), sI_g]
        show _ = nI (un S.2.1.2 S.2.1.1 v i)
        unfold un
        by_cases e : i = S.2.1.1
        · rw [if_pos ⟨rfl, e⟩, if_pos e]
        · rw [if_neg (fun z => e z.2), if_neg e]; exact p2 i (by omega)
      · exact ⟨XK_fr (fun a h1 h2 => hf a (by omega) (by omega)) ((p3 k hk).2 b hb).1, XS_fr (hf _ (by omega) (by omega)) (hf _ (by omega) (by omega)) ((p3 k hk).2 b hb).2⟩
    · have hf : ∀ a, a ≠ 0 → a ≠ 7 → (sI (sI M_ 7 S.2.1.1 (nI v)) 0 10 (nI (S.2.1.1 + 1))).1 a = M_.1 a := fun a h1 h2 => by rw [sI_n h1, sI_n h2]
      have h0 : ∀ j, j ≠ 10 → (sI (sI M_ 7 S.2.1.1 (nI v)) 0 10 (nI (S.2.1.1 + 1))).1 0 j = M_.1 0 j := fun j h1 => by rw [sI_j _ h1, sI_n (by decide)]
      refine ⟨MK_fr (h0 0 (by decide)) (h0 1 (by decide)) (hf _ (by decide) (by decide)) (hf _ (by decide) (by decide)) (hf _ (by decide) (by decide)) mk, MG_fr (h0 8 (by decide)) (hf _ (by decide) (by decide)) (hf _ (by decide) (by decide)) (hf _ (by decide) (by decide)) mg, sI_s _ _ _ _, fun i hi2 => ?_, fun k hk => ⟨by rw [hf _ (by decide) (by decide)]; exact (q3 k hk).1, fun b hb => KI_fr (hf _ (by decide) (by decide)) ((q3 k hk).2 b hb)⟩⟩
      have hi3 : i < S.2.1.1 + 1 := hi2
      rw [sI_n (by decide), sI_g]
      show _ = nI (un S.2.1.2 S.2.1.1 v i)
      unfold un
      by_cases e : i = S.2.1.1
      · rw [if_pos ⟨rfl, e⟩, if_pos e]
      · rw [if_neg (fun z => e z.2), if_neg e]; exact q2 i (by omega)
