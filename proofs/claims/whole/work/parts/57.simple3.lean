theorem wi_ne {x : Int32} {a b j : Nat} (h : wi x a b = false) (h1 : a ≤ j) (h2 : j ≤ b) (hj : j < 2 ^ 31) : ¬ x = nI j := by
  intro e
  subst e
  rw [wi_nI hj, decide_eq_true h1, decide_eq_true h2] at h
  cases h
theorem wi_f {j a b : Nat} (hj : j < 2 ^ 31) (h : j < a ∨ b < j) : wi (nI j) a b = false := by
  rw [wi_nI hj]
  rcases h with h | h
  · rw [decide_eq_false (by omega : ¬ a ≤ j)]; rfl
  · rw [decide_eq_false (by omega : ¬ j ≤ b), Bool.and_false]
theorem op_told : Op_told Rl := by
  intro x Mx M_ ⟨S, hS, hX, hM⟩
  have hO := hS.1
  unfold fX8_told fX9_told fX8_told_b77 fX8_toldCount
  simp only [isWithin_nI x (a := 0) (b := 3) (by decide) (by decide), isWithin_nI x (a := 10) (b := 15) (by decide) (by decide), isWithin_nI x (a := 20) (b := 31) (by decide) (by decide), isWithin_nI x (a := 40) (b := 51) (by decide) (by decide), in_nI x (a := 10) (b := 15) (by decide) (by decide), in_nI x (a := 20) (b := 31) (by decide) (by decide), in_nI x (a := 40) (b := 51) (by decide) (by decide), bd_s, ib0]
  cases h1 : wi x 0 3
  · cases h2 : wi x 10 15
    · cases h3 : wi x 20 31
      · cases h4 : wi x 40 51
        · simp only [Bool.false_eq_true, if_false]
          rw [if_neg (wi_ne h1 (by decide) (by decide) (by decide)), if_neg (wi_ne h1 (by decide) (by decide) (by decide)), if_neg (wi_ne h1 (by decide) (by decide) (by decide)), if_neg (wi_ne h1 (by decide) (by decide) (by decide))]
          exact ⟨_, _, _, rfl, rfl, S, hS, hX, hM⟩
        · obtain ⟨j, j1, j2, rfl⟩ := wi_of (by decide) h4
          have hk : j - 40 < 12 := by omega
          simp only [Bool.false_eq_true, if_false, if_true]
          rw [pk_sub j1, isThere_k hX.1 hO hk, isOfficer_k hM.1 hO hk, bd_s, bd_s, ib0, ib0, gd_of (inb_nI hk (by decide)), gd_of (inb_nI hk (by decide)), nI_clamp (by omega)]
          have e1 : Mx.1 3 (j - 40) = nI (bz S.1 (j - 40)) := hX.1.2.2.2.1 _ hk
          rw [e1, hM.1.2.2.2.1 _ hk]
          cases th S.1 (j - 40)
          · exact ⟨_, _, _, rfl, rfl, S, hS, hX, hM⟩
          · exact ⟨_, _, _, rfl, rfl, S, hS, hX, hM⟩
      · obtain ⟨j, j1, j2, rfl⟩ := wi_of (by decide) h3
        have hk : j - 20 < 12 := by omega
        simp only [Bool.false_eq_true, if_false, if_true, wi_f (j := j) (a := 40) (b := 51) (by omega) (by omega)]
        rw [pk_sub j1, isThere_k hX.1 hO hk, isOfficer_k hM.1 hO hk, bd_s, bd_s, ib0, ib0, gd_of (inb_nI hk (by decide)), gd_of (inb_nI hk (by decide)), nI_clamp (by omega)]
        have e1 : Mx.1 2 (j - 20) = nI (br S.1 (j - 20)) := hX.1.2.2.1 _ hk
        rw [e1, hM.1.2.2.1 _ hk]
        cases th S.1 (j - 20)
        · exact ⟨_, _, _, rfl, rfl, S, hS, hX, hM⟩
        · exact ⟨_, _, _, rfl, rfl, S, hS, hX, hM⟩
    · obtain ⟨j, j1, j2, rfl⟩ := wi_of (by decide) h2
      have hk : j - 10 < 6 := by omega
      simp only [Bool.false_eq_true, if_false, if_true, wi_f (j := j) (a := 40) (b := 51) (by omega) (by omega), wi_f (j := j) (a := 20) (b := 31) (by omega) (by omega)]
      rw [pk_sub j1, gd_of (inb_nI hk (by decide)), gd_of (inb_nI hk (by decide)), nI_clamp (by omega)]
      have e1 : Mx.1 4 (j - 10) = nI (bw S.1 (j - 10)) := hX.1.2.2.2.2 _ hk
      rw [e1, hM.1.2.2.2.2 _ hk]
      exact ⟨_, _, _, rfl, rfl, S, hS, hX, hM⟩
  · obtain ⟨j, j1, j2, rfl⟩ := wi_of (by decide) h1
    simp only [Bool.false_eq_true, if_false, if_true, wi_f (j := j) (a := 40) (b := 51) (by omega) (by omega), wi_f (j := j) (a := 20) (b := 31) (by omega) (by omega), wi_f (j := j) (a := 10) (b := 15) (by omega) (by omega)]
    rw [hX.1.1, hX.1.2.1, hX.2.1.1, hX.2.2.1, hM.1.1, hM.1.2.1, hM.2.1.1, hM.2.2.1]
    match j, j2 with
    | 0, _ => exact ⟨_, _, _, rfl, rfl, S, hS, hX, hM⟩
    | 1, _ => exact ⟨_, _, _, rfl, rfl, S, hS, hX, hM⟩
    | 2, _ => exact ⟨_, _, _, rfl, rfl, S, hS, hX, hM⟩
    | 3, _ => exact ⟨_, _, _, rfl, rfl, S, hS, hX, hM⟩
theorem bs_mod (f : Nat → Bool) : bs f 12 % 64 = bs f 6 := by
  apply Nat.eq_of_testBit_eq
  intro i
  rw [show (64 : Nat) = 2 ^ 6 from rfl, Nat.testBit_mod_two_pow, bs_bit, bs_bit]
  by_cases h : i < 6
  · rw [decide_eq_true h, decide_eq_true (by omega : i < 12)]; simp
  · rw [decide_eq_false h]; simp
theorem bs_div (f : Nat → Bool) : bs f 12 / 64 = bs (fun k => f (6 + k)) 6 := by
  apply Nat.eq_of_testBit_eq
  intro i
  rw [show (64 : Nat) = 2 ^ 6 from rfl, Nat.testBit_div_two_pow, bs_bit, bs_bit, Nat.add_comm i 6]
  congr 1
  apply decide_eq_decide.mpr
  omega
theorem bs_zero (f : Nat → Bool) (n : Nat) : bs f n = 0 ↔ ∀ k, k < n → f k = false := by
  constructor
  · intro h k hk
    have := bs_bit f n k
    rw [h, Nat.zero_testBit, decide_eq_true hk, Bool.true_and] at this
    exact this.symm
  · intro h
    apply Nat.eq_of_testBit_eq
    intro i
    rw [bs_bit, Nat.zero_testBit]
    by_cases hi : i < n
    · rw [h i hi, Bool.and_false]
    · rw [decide_eq_false hi]; rfl
theorem nI_63 (n : Nat) : nI n &&& nI 63 = nI (n % 64) := by
  rw [nI_and]
  have := Nat.and_two_pow_sub_one_eq_mod n 6
  simp at this
  rw [this]
theorem lotIn_0 {c : Nat} {b : Sb} {M : Mm} (hX : XK c b M) (hO : OK b) : fX0_lotIn c (nI 7) (nI 0) M = some (nI (bs (op b) 6), M) := by
  unfold fX0_lotIn
  have hl := bs_lt (op b) 12
  rw [crowd7 hX hO, bd_s, pk_mul, jshr_nI (by omega) (by decide), nI_63]
  simp [bs_mod]
theorem lotIn_1 {c : Nat} {b : Sb} {M : Mm} (hX : XK c b M) (hO : OK b) : fX0_lotIn c (nI 7) (nI 1) M = some (nI (bs (fun k => op b (6 + k)) 6), M) := by
  unfold fX0_lotIn
  have hl := bs_lt (op b) 12
  have hl2 := bs_lt (fun k => op b (6 + k)) 6
  rw [crowd7 hX hO, bd_s, pk_mul, jshr_nI (by omega) (by decide), nI_63]
  rw [show 2 ^ (1 * 6) = 64 from rfl, bs_div, Nat.mod_eq_of_lt (by omega)]
/-- whether nobody of a side is open -/
def nb (b : Sb) (a : Nat) : Nat → Bool
  | 0 => true
  | n + 1 => nb b a n && !op b (a + n)
theorem nb_iff (b : Sb) (a n : Nat) : nb b a n = true ↔ ∀ k, k < n → op b (a + k) = false := by
  induction n with
  | zero => simp [nb]
  | succ n ih =>
    rw [nb, Bool.and_eq_true, ih]
    constructor
    · rintro ⟨h1, h2⟩ k hk
      rcases Nat.lt_succ_iff_lt_or_eq.mp hk with h | h
      · exact h1 k h
      · subst h; simpa using h2
    · intro h
      exact ⟨fun k hk => h k (by omega), by rw [h n (by omega)]; rfl⟩
theorem nobody_b {b : Sb} {M : Mm} (hX : MK b M) (hO : OK b) {a : Nat} (ha : a ≤ 6) : ∀ n k, k ≤ 6 → 6 < k + n → fX9_isNobodyOpen_b4 n (nI a) (nI (nb b a k).toNat) (nI (a + k)) M = some (nI (nb b a 6).toNat, M) := by
  intro n
  induction n with
  | zero => intro k h1 h2; omega
  | succ n ih =>
    intro k h1 h2
    rw [fX9_isNobodyOpen_b4, nI_add]
    by_cases hk : k = 6
    · subst hk
      rw [if_pos (nI_le (by omega) (by omega))]
      cases nb b a 6 <;> rfl
    · have e1 := ih (k + 1) (by omega) (by omega)
      rw [nb] at e1
      rw [if_neg (nI_ge (by omega) (by omega)), ib0, isOpen_k hX hO (by omega), bd_s, ib0, nI_1', Nat.add_assoc]
      cases ha : nb b a k
      · rw [ha] at e1; simpa using e1
      · rw [ha] at e1
        cases ho : op b (a + k)
        · rw [ho] at e1; simpa using e1
        · rw [ho] at e1; simpa using e1
theorem nobody_0 {b : Sb} {M : Mm} (hX : MK b M) (hO : OK b) : fX9_isNobodyOpen (nI 0) M = some (nI (nb b 0 6).toNat, M) := nobody_b hX hO (a := 0) (by omega) fu 0 (by omega) (by decide)
theorem nobody_6 {b : Sb} {M : Mm} (hX : MK b M) (hO : OK b) : fX9_isNobodyOpen (nI 6) M = some (nI (nb b 6 6).toNat, M) := nobody_b hX hO (a := 6) (by omega) fu 0 (by omega) (by decide)
theorem sOp_bd {b : Sb} (hO : OK b) (a : Nat) (ha : a ≤ 6) : -594 ≤ sOp b a 6 ∧ sOp b a 6 ≤ 594 := by
  have h := sm_bd (g := fun k => if op b (a + k) then (wk b (a + k) : Int) else 0) (n := 6) (fun k hk => by
    have := wk_bd hO (k := a + k) (by omega)
    show -99 ≤ (if op b (a + k) = true then (wk b (a + k) : Int) else 0) ∧ _
    split <;> omega)
  unfold sOp
  omega
theorem iI_eq {a b : Int} (h1 : -2147483648 ≤ a) (h2 : a ≤ 2147483647) (h3 : -2147483648 ≤ b) (h4 : b ≤ 2147483647) : iI a = iI b ↔ a = b := by
  constructor
  · intro h
    rw [← iI_toInt h1 h2, h, iI_toInt h3 h4]
  · intro h; rw [h]
/-- whether all are even -/
def allE (b : Sb) : Bool := !nb b 0 6 && (!nb b 6 6 && decide (ld b (op b) = 0))
theorem allEven_m {b : Sb} {M : Mm} (hX : MK b M) (hO : OK b) : fX9_isAllEven M = some (nI (allE b).toNat, M) := by
  unfold fX9_isAllEven allE
  have s1 := sOp_bd hO 0 (by omega)
  have s2 := sOp_bd hO 6 (by omega)
  simp only [nobody_0 hX hO, nobody_6 hX hO, sumOpen_0 hX hO, sumOpen_6 hX hO, bd_s, ib0, ld_op]
  cases nb b 0 6
  · cases nb b 6 6
    · simp only [Bool.false_eq_true, if_false]
      by_cases h : sOp b 0 6 = sOp b 6 6
      · rw [if_pos (by rw [h]), decide_eq_true (by omega)]; rfl
      · rw [if_neg (fun z => h ((iI_eq (by omega) (by omega) (by omega) (by omega)).mp z)), decide_eq_false (by omega)]; rfl
    · rfl
  · rfl
theorem bothOpen {b : Sb} {M : Mm} (hX : XK 1 b M) (hO : OK b) : fX8_bothSidesOpen M = some (nI (!nb b 0 6 && !nb b 6 6).toNat, M) := by
  unfold fX8_bothSidesOpen
  have l1 := bs_lt (op b) 6
  have l2 := bs_lt (fun k => op b (6 + k)) 6
  simp only [lotIn_0 hX hO, lotIn_1 hX hO, bd_s]
  have e1 : nI (bs (op b) 6) = nI 0 ↔ nb b 0 6 = true := by
    rw [nI_z (by omega), bs_zero, nb_iff]
    simp
  have e2 : nI (bs (fun k => op b (6 + k)) 6) = nI 0 ↔ nb b 6 6 = true := by
    rw [nI_z (by omega), bs_zero, nb_iff]
  simp only [e1, e2]
  cases nb b 0 6
  · cases nb b 6 6 <;> rfl
  · rfl
theorem op_even : Op_even Rl := by
  intro Mx M_ ⟨S, hS, hX, hM⟩
  have hO := hS.1
  unfold fX8_even fX9_even
  simp only [bothOpen hX.1 hO, allEven_m hM.1 hO, crowd7 hX.1 hO, lead_s hX.1 hO, bd_s, ib0, ld_crowd, ld_z hO, allE]
  refine ⟨nI (allE S.1).toNat, _, _, ?_, ?_, S, hS, hX, hM⟩
  · unfold allE
    cases nb S.1 0 6
    · cases nb S.1 6 6
      · simp only [Bool.not_false, Bool.true_and, if_true]
        by_cases h : ld S.1 (op S.1) = 0
        · rw [if_pos h, decide_eq_true h]; rfl
        · rw [if_neg h, decide_eq_false h]; rfl
      · rfl
    · rfl
  · unfold allE
    cases (!nb S.1 0 6 && (!nb S.1 6 6 && decide (ld S.1 (op S.1) = 0))) <;> rfl
