/-! the pad is read -/
def ofc (x : Nat) : Nat := if 65 ≤ x ∧ x ≤ 70 then x - 65 else if 97 ≤ x ∧ x ≤ 102 then x - 97 + 6 else 12
def dc (x : Nat) : Nat := if x = 115 then 0 else if x = 104 then 1 else if x = 98 then 2 else if x = 43 then 3 else 4
abbrev Qt : Type := Nat → Nat × Nat × Bool
abbrev Ps : Type := Nat × Nat × Nat × Bool × Qt
def uQ (Q : Qt) (n : Nat) (a : Nat × Nat × Bool) : Qt := fun j => if j = n then a else Q j
def pS (s n cu : Nat) (ct : Bool) (Q : Qt) (x : Nat) : Ps :=
  if s = 0 then (if ofc x < 12 then (1, n, ofc x, false, Q) else if x = 40 then (2, n, 0, false, Q) else (6, n, cu, ct, Q))
  else if s = 1 then (if dc x < 4 then (0, n + 1, 0, false, uQ Q n (dc x, cu, false)) else (6, n, cu, ct, Q))
  else if s < 4 then (if ofc x < 6 then (3, n, cu ||| 2 ^ ofc x, ct || cu.testBit (ofc x), Q) else if s = 3 ∧ x = 58 then (4, n, cu, ct, Q) else (6, n, cu, ct, Q))
  else (if 6 ≤ ofc x ∧ ofc x < 12 then (5, n, cu ||| 2 ^ ofc x, ct || cu.testBit (ofc x), Q) else if s = 5 ∧ x = 41 then (0, n + 1, 0, false, uQ Q n (4, cu, ct)) else (6, n, cu, ct, Q))
abbrev pT (p : Ps) (x : Nat) : Ps := pS p.1 p.2.1 p.2.2.1 p.2.2.2.1 p.2.2.2.2 x
def pG (c : Nat → Nat) : Nat → Nat → Ps → Int32 × Ps
  | 0, i, p => (if p.1 = 0 then mI 6 else nI i, p)
  | r + 1, i, p => if (pT p (c i)).1 = 6 then (nI i, p) else pG c r (i + 1) (pT p (c i))
theorem pS_lt (s n cu : Nat) (ct : Bool) (Q : Qt) (x : Nat) : (pS s n cu ct Q x).1 < 7 := by
  unfold pS
  repeat' split
  all_goals (simp only []; omega)
theorem ofc_le (x : Nat) : ofc x ≤ 12 := by
  unfold ofc
  split
  · omega
  · split <;> omega
theorem dc_le (x : Nat) : dc x ≤ 4 := by
  unfold dc
  repeat' split
  all_goals decide
theorem dec_and {p q : Prop} [Decidable p] [Decidable q] : (decide p && decide q) = decide (p ∧ q) := by
  by_cases h : p <;> by_cases g : q <;> simp [h, g]
theorem ifd {α : Type} {p : Prop} [Decidable p] (x y : α) : (if nI (decide p).toNat = nI 0 then x else y) = if p then y else x := by
  by_cases h : p
  · rw [decide_eq_true h, if_pos h]; rfl
  · rw [decide_eq_false h, if_neg h]; rfl
theorem officerOf_c {x : Nat} (hx : x < 200) (M : Mm) : fX4_officerOf (nI x) M = some (if ofc x < 12 then nI (ofc x) else mI 1, M) := by
  unfold fX4_officerOf
  rw [isWithin_nI _ (by decide) (by decide), bd_s, isWithin_nI _ (by decide) (by decide), bd_s, wi_nI (by omega), wi_nI (by omega), dec_and, dec_and, ifd, ifd]
  unfold ofc
  by_cases h1 : 65 ≤ x ∧ x ≤ 70
  · rw [if_pos h1, if_pos h1, if_pos (by omega), pk_sub (by omega)]
  · rw [if_neg h1, if_neg h1]
    by_cases h2 : 97 ≤ x ∧ x ≤ 102
    · rw [if_pos h2, if_pos h2, if_pos (by omega), pk_sub (by omega), nI_add]
    · rw [if_neg h2, if_neg h2, if_neg (by decide)]
theorem ours_m {x : Nat} (hx : x < 200) (M : Mm) : fX9_ours (nI x) M = some (if ofc x < 6 then nI (ofc x) else mI 6, M) := by
  unfold fX9_ours
  rw [in_nI _ (by decide) (by decide), bd_s, wi_nI (by omega), dec_and, ifd]
  unfold ofc
  by_cases h1 : 65 ≤ x ∧ x ≤ 70
  · rw [if_pos h1, if_pos h1, if_pos (by omega), pk_sub (by omega)]
  · rw [if_neg h1, if_neg h1]
    by_cases h2 : 97 ≤ x ∧ x ≤ 102
    · rw [if_pos h2, if_neg (by omega)]
    · rw [if_neg h2, if_neg (by decide)]
theorem theirs_m {x : Nat} (hx : x < 200) (M : Mm) : fX9_theirs (nI x) M = some (if 6 ≤ ofc x ∧ ofc x < 12 then nI (ofc x) else mI 6, M) := by
  unfold fX9_theirs
  rw [in_nI _ (by decide) (by decide), bd_s, wi_nI (by omega), dec_and, ifd]
  unfold ofc
  by_cases h1 : 65 ≤ x ∧ x ≤ 70
  · rw [if_pos h1, if_neg (by omega), if_neg (by omega)]
  · rw [if_neg h1]
    by_cases h2 : 97 ≤ x ∧ x ≤ 102
    · rw [if_pos h2, if_pos h2, if_pos (by omega), pk_sub (by omega), nI_add]
    · rw [if_neg h2, if_neg h2, if_neg (by decide)]
theorem deedOf_c {x : Nat} (hx : x < 200) (M : Mm) : fX4_deedOf (nI x) M = some (if dc x < 4 then nI (dc x) else mI 1, M) := by
  unfold fX4_deedOf
  have e1 : nI x = nI 43 ↔ x = 43 := nI_eq (by omega) (by decide)
  have e2 : nI x = nI 98 ↔ x = 98 := nI_eq (by omega) (by decide)
  have e3 : nI x = nI 104 ↔ x = 104 := nI_eq (by omega) (by decide)
  have e4 : nI x = nI 115 ↔ x = 115 := nI_eq (by omega) (by decide)
  simp only [e1, e2, e3, e4]
  unfold dc
  by_cases h1 : x = 43
  · subst h1; rfl
  · by_cases h2 : x = 98
    · subst h2; rfl
    · by_cases h3 : x = 104
      · subst h3; rfl
      · by_cases h4 : x = 115
        · subst h4; rfl
        · simp only [h1, h2, h3, h4, if_false]; rfl
theorem m1_neg : mI 1 < nI 0 := by decide
theorem next_c {s x : Nat} (hs : s < 6) (hx : x < 200) (M : Mm) (n cu : Nat) (ct : Bool) (Q : Qt) : fX4_next (nI s) (nI x) M = some (nI (pS s n cu ct Q x).1, M) := by
  unfold fX4_next fX4_next_b19 fX4_next_b20 fX4_next_b32
  rw [officerOf_c hx, bd_s, deedOf_c hx, bd_s]
  have e1 : nI x = nI 40 ↔ x = 40 := nI_eq (by omega) (by decide)
  have e2 : nI x = nI 58 ↔ x = 58 := nI_eq (by omega) (by decide)
  have e3 : nI x = nI 41 ↔ x = 41 := nI_eq (by omega) (by decide)
  simp only [e1, e2, e3]
  unfold pS
  have hd : ∀ {α : Type} (a b : α), (if (if dc x < 4 then nI (dc x) else mI 1) < nI 0 then a else b) = if dc x < 4 then b else a := by
    intro α a b
    by_cases h : dc x < 4
    · rw [if_pos h, if_pos h, if_neg (nI_nlt (Nat.zero_le _) (by omega))]
    · rw [if_neg h, if_neg h, if_pos m1_neg]
  rw [hd]
  have n01 : ¬ nI 1 = nI 0 := by decide
  by_cases h6 : ofc x < 6
  · have h12 : ofc x < 12 := by omega
    have hn : ¬ nI (ofc x) < nI 0 := nI_nlt (Nat.zero_le _) (by omega)
    have h6' : ¬ nI 6 ≤ nI (ofc x) := nI_ge h6 (by decide)
    have h6l : nI (ofc x) < nI 6 := nI_lt h6 (by decide)
    have hb : ¬ (6 ≤ ofc x ∧ ofc x < 12) := by omega
    simp only [if_pos h12, if_neg hn, if_neg h6', if_pos h6l, if_pos h6, if_neg hb, if_neg n01]
    match s, hs with
    | 0, _ => rfl
    | 1, _ =>
      by_cases h : dc x < 4 <;> simp only [h, if_true, if_false] <;> rfl
    | 2, _ => rfl
    | 3, _ => rfl
    | 4, _ => rfl
    | 5, _ =>
      by_cases h : x = 41 <;> simp only [h, if_true, if_false, and_true, and_false] <;> rfl
  · by_cases h12 : ofc x < 12
    · have hn : ¬ nI (ofc x) < nI 0 := nI_nlt (Nat.zero_le _) (by omega)
      have h6' : nI 6 ≤ nI (ofc x) := nI_le (by omega) (by omega)
      have h6l : ¬ nI (ofc x) < nI 6 := nI_nlt (by omega) (by omega)
      have hb : (6 ≤ ofc x ∧ ofc x < 12) := by omega
      simp only [if_pos h12, if_neg hn, if_pos h6', if_neg h6l, if_neg h6, if_pos hb, if_neg n01]
      match s, hs with
      | 0, _ => rfl
      | 1, _ =>
        by_cases h : dc x < 4 <;> simp only [h, if_true, if_false] <;> rfl
      | 2, _ => rfl
      | 3, _ =>
        by_cases h : x = 58 <;> simp only [h, if_true, if_false, and_true, and_false] <;> rfl
      | 4, _ => rfl
      | 5, _ => rfl
    · have h6l : mI 1 < nI 6 := by decide
      have hb : ¬ (6 ≤ ofc x ∧ ofc x < 12) := by omega
      simp only [if_neg h12, if_pos m1_neg, if_pos h6l, if_neg h6, if_neg hb]
      match s, hs with
      | 0, _ =>
        by_cases h : x = 40 <;> simp only [h, if_true, if_false, and_true, and_false] <;> rfl
      | 1, _ =>
        by_cases h : dc x < 4 <;> simp only [h, if_true, if_false] <;> rfl
      | 2, _ => rfl
      | 3, _ =>
        by_cases h : x = 58 <;> simp only [h, if_true, if_false, and_true, and_false] <;> rfl
      | 4, _ => rfl
      | 5, _ =>
        by_cases h : x = 41 <;> simp only [h, if_true, if_false, and_true, and_false] <;> rfl
theorem ff_b {N : Nat} {c : Nat → Nat} (hN : N ≤ 60) (hc : ∀ i, i < N → c i < 200) {M : Mm} (h1 : M.1 6 1 = nI N) (h2 : ∀ i, i < N → M.1 7 i = nI (c i)) : ∀ n r i p, i + r = N → r < n → p.1 < 6 → fX4_firstFault_b4 n (nI p.1) (nI i) M = some ((pG c r i p).1, M) := by
  intro n
  induction n with
  | zero => intro r i p _ h; omega
  | succ n ih =>
    intro r i p hi hr hp
    rw [fX4_firstFault_b4, h1]
    cases r with
    | zero =>
      rw [if_pos (nI_le (by omega) (by omega)), fX4_firstFault_b37, h1, pG]
      have e0 : nI p.1 = nI 0 ↔ p.1 = 0 := nI_z (by omega)
      simp only [e0]
      have : i = N := by omega
      subst this
      split <;> rfl
    | succ r =>
      rw [if_neg (nI_ge (by omega) (by omega)), gd_of (inb_nI (by omega) (by decide)), nI_clamp (by omega), h2 i (by omega), next_c hp (hc i (by omega)) M p.2.1 p.2.2.1 p.2.2.2.1 p.2.2.2.2, bd_s, pG, nI_1']
      have hl : (pT p (c i)).1 < 7 := pS_lt p.1 p.2.1 p.2.2.1 p.2.2.2.1 p.2.2.2.2 (c i)
      have e6 : nI (pT p (c i)).1 = nI 6 ↔ (pT p (c i)).1 = 6 := nI_eq (by omega) (by decide)
      by_cases h6 : (pT p (c i)).1 = 6
      · rw [if_pos (e6.mpr h6), if_pos h6]
      · rw [if_neg (fun z => h6 (e6.mp z)), if_neg h6]
        exact ih r (i + 1) (pT p (c i)) (by omega) (by omega) (by omega)
