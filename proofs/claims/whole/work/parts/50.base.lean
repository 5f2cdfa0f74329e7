/-! numbers and bits, for the functions alone -/
theorem bd_s {α β : Type} (a : α) (M : Mm) (f : α → Mm → Option β) : bd (some (a, M)) f = f a M := Eq.trans (b := f a M) rfl rfl
theorem gd_t {α : Type} (x : Option α) : gd true x = x := rfl
theorem gd_of {α : Type} {b : Bool} (h : b = true) (x : Option α) : gd b x = x := by rw [h]; rfl
theorem inb_nI {k n : Nat} (h : k < n) (hn : n < 2 ^ 31) : inb (nI k) n = true := by
  simp only [inb, Bool.and_eq_true, decide_eq_true_eq]
  exact ⟨nI_pos' (by omega), by rw [nI_clamp (by omega)]; exact h⟩
theorem i32_ext {x y : Int32} (h : ∀ i, i < 32 → x.toBitVec.getLsbD i = y.toBitVec.getLsbD i) : x = y := by
  apply Int32.toBitVec_inj.mp
  apply BitVec.eq_of_getLsbD_eq
  intro i hi
  exact h i hi
theorem i64_ext {x y : Int64} (h : ∀ i, i < 64 → x.toBitVec.getLsbD i = y.toBitVec.getLsbD i) : x = y := by
  apply Int64.toBitVec_inj.mp
  apply BitVec.eq_of_getLsbD_eq
  intro i hi
  exact h i hi
theorem nI_bit (n i : Nat) (hi : i < 32) : (nI n).toBitVec.getLsbD i = n.testBit i := by
  show (BitVec.ofNat 32 n).getLsbD i = _
  rw [BitVec.getLsbD_ofNat]
  simp [hi]
theorem m1_bit (i : Nat) (hi : i < 32) : (mI 1).toBitVec.getLsbD i = true := by
  have h : ∀ i, i < 32 → (mI 1).toBitVec.getLsbD i = true := by decide
  exact h i hi
theorem nI_and (a b : Nat) : nI a &&& nI b = nI (a &&& b) := by
  apply i32_ext
  intro i hi
  rw [Int32.toBitVec_and, BitVec.getLsbD_and, nI_bit _ _ hi, nI_bit _ _ hi, nI_bit _ _ hi, Nat.testBit_and]
theorem nI_or (a b : Nat) : nI a ||| nI b = nI (a ||| b) := by
  apply i32_ext
  intro i hi
  rw [Int32.toBitVec_or, BitVec.getLsbD_or, nI_bit _ _ hi, nI_bit _ _ hi, nI_bit _ _ hi, Nat.testBit_or]
theorem nI_xor (a b : Nat) : nI a ^^^ nI b = nI (a ^^^ b) := by
  apply i32_ext
  intro i hi
  rw [Int32.toBitVec_xor, BitVec.getLsbD_xor, nI_bit _ _ hi, nI_bit _ _ hi, nI_bit _ _ hi, Nat.testBit_xor]
/-- the bits of a that are none of b's -/
def dif (a b : Nat) : Nat := a ^^^ (a &&& b)
theorem nI_dif (a b : Nat) : nI a &&& (nI b ^^^ (mI 1)) = nI (dif a b) := by
  apply i32_ext
  intro i hi
  rw [Int32.toBitVec_and, BitVec.getLsbD_and, Int32.toBitVec_xor, BitVec.getLsbD_xor, nI_bit _ _ hi, nI_bit _ _ hi, nI_bit _ _ hi, m1_bit i hi, dif, Nat.testBit_xor, Nat.testBit_and]
  cases a.testBit i <;> cases b.testBit i <;> rfl
theorem dif_bit (a b i : Nat) : (dif a b).testBit i = (a.testBit i && !b.testBit i) := by
  rw [dif, Nat.testBit_xor, Nat.testBit_and]
  cases a.testBit i <;> cases b.testBit i <;> rfl
theorem dif_zero {a b : Nat} : dif a b = 0 ↔ ∀ i, a.testBit i = true → b.testBit i = true := by
  constructor
  · intro h i hi
    have := dif_bit a b i
    rw [h, Nat.zero_testBit, hi] at this
    cases hb : b.testBit i
    · rw [hb] at this; cases this
    · rfl
  · intro h
    apply Nat.eq_of_testBit_eq
    intro i
    rw [dif_bit, Nat.zero_testBit]
    cases ha : a.testBit i
    · rfl
    · rw [h i ha]; rfl
theorem dif_lt {a b n : Nat} (h : a < 2 ^ n) : dif a b < 2 ^ n := by
  unfold dif
  exact Nat.xor_lt_two_pow h (Nat.lt_of_le_of_lt Nat.and_le_left h)
theorem sm32 : ∀ k, k < 32 → ((nI k).toBitVec.smod 32).toNat = k := by decide
theorem nI_31 {k : Nat} (hk : k < 32) : nI k &&& (31 : Int32) = nI k := by
  have h := pk_andN (n := k) (by omega) (m := (31 : Int32)) 5 (by decide)
  rw [h, Nat.mod_eq_of_lt (by omega)]
theorem jshr_nI {p k : Nat} (hp : p < 2 ^ 31) (hk : k < 32) : jshr (nI p) (nI k) = nI (p / 2 ^ k) := by
  unfold jshr
  rw [nI_31 hk]
  exact pk_shrN hp _ _ (sm32 k hk)
theorem jshl_nI {p k : Nat} (hk : k < 32) (h : p * 2 ^ k < 2 ^ 32) : jshl (nI p) (nI k) = nI (p * 2 ^ k) := by
  unfold jshl
  rw [nI_31 hk]
  exact pk_shlN _ _ (sm32 k hk) h
theorem jbit {p k : Nat} (hp : p < 2 ^ 31) (hk : k < 32) : jshr (nI p) (nI k) &&& nI 1 = nI (p.testBit k).toNat := by
  rw [jshr_nI hp hk]
  have h := pk_andN (n := p / 2 ^ k) (Nat.lt_of_le_of_lt (Nat.div_le_self _ _) (by omega)) (m := nI 1) 1 (by decide)
  rw [h, Nat.toNat_testBit]
theorem j2k {k : Nat} (hk : k < 31) : jshl (nI 1) (nI k) = nI (2 ^ k) := by
  have h : (1 : Nat) * 2 ^ k < 2 ^ 32 := by
    rw [Nat.one_mul]
    exact Nat.pow_lt_pow_right (by decide) (by omega)
  have := jshl_nI (p := 1) (k := k) (by omega) h
  rw [Nat.one_mul] at this
  exact this
theorem bt1 {b : Bool} : nI b.toNat = nI 1 ↔ b = true := by cases b <;> decide
theorem bt0 {b : Bool} : nI b.toNat = nI 0 ↔ b = false := by cases b <;> decide
theorem nI_z {k : Nat} (hk : k < 2 ^ 31) : nI k = nI 0 ↔ k = 0 := nI_eq (a := k) (b := 0) hk (by decide)
theorem lt_lit {a : Nat} {x : Int32} (ha : a < 2 ^ 31) : x < nI a ↔ x.toInt < a := by rw [Int32.lt_iff_toInt_lt, nI_toInt ha]
theorem lit_lt {a : Nat} {x : Int32} (ha : a < 2 ^ 31) : nI a < x ↔ (a : Int) < x.toInt := by rw [Int32.lt_iff_toInt_lt, nI_toInt ha]
/-- whether a number lies within two bounds -/
def wi (x : Int32) (a b : Nat) : Bool := decide ((a : Int) ≤ x.toInt) && decide (x.toInt ≤ (b : Int))
theorem wi_of {x : Int32} {a b : Nat} (hb : b < 2 ^ 31) (h : wi x a b = true) : ∃ j : Nat, a ≤ j ∧ j ≤ b ∧ x = nI j := by
  simp only [wi, Bool.and_eq_true, decide_eq_true_eq] at h
  refine ⟨x.toInt.toNat, by omega, by omega, ?_⟩
  apply Int32.toInt_inj.mp
  rw [nI_toInt (by omega)]
  omega
theorem wi_nI {j a b : Nat} (hj : j < 2 ^ 31) : wi (nI j) a b = (decide (a ≤ j) && decide (j ≤ b)) := by
  unfold wi
  rw [nI_toInt hj]
  simp only [Int.ofNat_le]
theorem isWithin_nI (x : Int32) {a b : Nat} (ha : a < 2 ^ 31) (hb : b < 2 ^ 31) (M : Mm) : fX8_isWithin x (nI a) (nI b) M = some (nI (wi x a b).toNat, M) := by
  unfold fX8_isWithin
  simp only [lt_lit ha, lit_lt hb]
  by_cases h1 : x.toInt < a
  · rw [if_pos h1]
    have : wi x a b = false := by simp only [wi]; rw [decide_eq_false (by omega)]; rfl
    rw [this]; rfl
  · rw [if_neg h1]
    by_cases h2 : (b : Int) < x.toInt
    · rw [if_pos h2]
      have : wi x a b = false := by simp only [wi]; rw [decide_eq_false (p := x.toInt ≤ (b : Int)) (by omega), Bool.and_false]
      rw [this]; rfl
    · rw [if_neg h2]
      have : wi x a b = true := by simp only [wi]; rw [decide_eq_true (by omega), decide_eq_true (by omega)]; rfl
      rw [this]; rfl
theorem i64_toInt (x : Int32) : x.toInt64.toInt = x.toInt := by simp
theorem lgc_lt {x y : Int64} : lg_cmp x y < 0 ↔ x < y := by
  unfold lg_cmp
  by_cases h1 : y < x
  · rw [if_pos h1]
    constructor
    · intro h; exact absurd h (by decide)
    · intro h; rw [Int64.lt_iff_toInt_lt] at h h1; omega
  · rw [if_neg h1]
    by_cases h2 : x = y
    · rw [if_pos h2]; subst h2
      constructor
      · intro h; exact absurd h (by decide)
      · intro h; exact absurd h h1
    · rw [if_neg h2]
      constructor
      · intro _
        rw [Int64.lt_iff_toInt_lt] at h1 ⊢
        have : x.toInt ≠ y.toInt := fun e => h2 (Int64.toInt_inj.mp e)
        omega
      · intro _; decide
theorem lgc_gt {x y : Int64} : 0 < lg_cmp x y ↔ y < x := by
  unfold lg_cmp
  by_cases h1 : y < x
  · rw [if_pos h1]
    exact ⟨fun _ => h1, fun _ => by decide⟩
  · rw [if_neg h1]
    constructor
    · intro h
      split at h
      · exact absurd h (by decide)
      · exact absurd h (by decide)
    · intro h; exact absurd h h1
theorem lgc_eq {x y : Int64} : lg_cmp x y = 0 ↔ x = y := by
  unfold lg_cmp
  by_cases h1 : y < x
  · rw [if_pos h1]
    constructor
    · intro h; exact absurd h (by decide)
    · intro h; subst h; rw [Int64.lt_iff_toInt_lt] at h1; omega
  · rw [if_neg h1]
    by_cases h2 : x = y
    · rw [if_pos h2]; exact ⟨fun _ => h2, fun _ => rfl⟩
    · rw [if_neg h2]
      constructor
      · intro h; exact absurd h (by decide)
      · intro h; exact absurd h h2
theorem lgn_lt {x y : Int64} : lg_cmp x y < nI 0 ↔ x < y := lgc_lt
theorem lgn_gt {x y : Int64} : nI 0 < lg_cmp x y ↔ y < x := lgc_gt
theorem lgn_eq {x y : Int64} : lg_cmp x y = nI 0 ↔ x = y := lgc_eq
theorem in_nI (x : Int32) {a b : Nat} (ha : a < 2 ^ 31) (hb : b < 2 ^ 31) (M : Mm) : fX9_in x.toInt64 (lN a) (lN b) M = some (nI (wi x a b).toNat, M) := by
  unfold fX9_in
  simp only [lgn_lt, lgn_gt, Int64.lt_iff_toInt_lt, i64_toInt, lN_toInt ha, lN_toInt hb]
  by_cases h1 : x.toInt < a
  · rw [if_pos h1]
    have : wi x a b = false := by simp only [wi]; rw [decide_eq_false (by omega)]; rfl
    rw [this]; rfl
  · rw [if_neg h1]
    by_cases h2 : (b : Int) < x.toInt
    · rw [if_pos h2]
      have : wi x a b = false := by simp only [wi]; rw [decide_eq_false (p := x.toInt ≤ (b : Int)) (by omega), Bool.and_false]
      rw [this]; rfl
    · rw [if_neg h2]
      have : wi x a b = true := by simp only [wi]; rw [decide_eq_true (by omega), decide_eq_true (by omega)]; rfl
      rw [this]; rfl
/-! bitsets by a function -/
def bs (f : Nat → Bool) : Nat → Nat
  | 0 => 0
  | n + 1 => bs f n ||| (if f n then 2 ^ n else 0)
theorem bs_bit (f : Nat → Bool) (n k : Nat) : (bs f n).testBit k = (decide (k < n) && f k) := by
  induction n with
  | zero => simp [bs]
  | succ n ih =>
    rw [bs, Nat.testBit_or, ih]
    by_cases h : f n = true
    · rw [if_pos h, Nat.testBit_two_pow]
      by_cases e : n = k
      · subst e; simp [h]
      · have : (decide (k < n + 1)) = decide (k < n) := by
          apply decide_eq_decide.mpr; omega
        rw [this]; simp [e]
    · rw [if_neg h, Nat.zero_testBit, Bool.or_false]
      by_cases e : n = k
      · subst e
        have hf : f n = false := by cases hfn : f n <;> simp_all
        simp [hf]
      · have : (decide (k < n + 1)) = decide (k < n) := by
          apply decide_eq_decide.mpr; omega
        rw [this]
theorem bs_lt (f : Nat → Bool) (n : Nat) : bs f n < 2 ^ n := by
  apply Nat.lt_pow_two_of_testBit
  intro i hi
  rw [bs_bit, decide_eq_false (by omega)]
  rfl
/-- sums over the first n numbers -/
def sm (g : Nat → Int) : Nat → Int
  | 0 => 0
  | n + 1 => sm g n + g n
theorem sm_congr {g h : Nat → Int} {n : Nat} (e : ∀ k, k < n → g k = h k) : sm g n = sm h n := by
  induction n with
  | zero => rfl
  | succ n ih => rw [sm, sm, ih (fun k hk => e k (by omega)), e n (by omega)]
def iI (z : Int) : Int32 := Int32.ofInt z
theorem iI_add (a b : Int) : iI a + iI b = iI (a + b) := (Int32.ofInt_add a b).symm
theorem iI_nI (n : Nat) : nI n = iI (n : Int) := by
  apply Int32.toBitVec_inj.mp
  show BitVec.ofNat 32 n = BitVec.ofInt 32 (n : Int)
  rw [BitVec.ofInt_natCast]
theorem iI_neg (a : Int) : - iI a = iI (-a) := (Int32.ofInt_neg a).symm
theorem iI_toInt {a : Int} (h1 : -2147483648 ≤ a) (h2 : a ≤ 2147483647) : (iI a).toInt = a := by
  unfold iI
  rw [Int32.toInt_ofInt]
  apply Int.bmod_eq_of_le <;> (simp only [Int32.size]; omega)
theorem iI_z {a : Int} (h1 : -2147483648 ≤ a) (h2 : a ≤ 2147483647) : iI a = 0 ↔ a = 0 := by
  constructor
  · intro h
    have := iI_toInt h1 h2
    rw [h] at this
    simpa using this.symm
  · intro h; rw [h]; rfl
theorem jbitZ {p k : Nat} (hp : p < 2 ^ 31) (hk : k < 32) : jshr (nI p) (nI k) &&& nI 1 = nI (p.testBit k).toNat := jbit hp hk
theorem and2k {z k : Nat} (hk : k < 31) : nI (z &&& 2 ^ k) = nI 0 ↔ z.testBit k = false := by
  have h2 : z &&& 2 ^ k < 2 ^ 31 := Nat.lt_of_le_of_lt Nat.and_le_right (Nat.pow_lt_pow_right (by decide) (by omega))
  rw [nI_z h2]
  constructor
  · intro h
    have h3 : (z &&& 2 ^ k).testBit k = false := by rw [h, Nat.zero_testBit]
    rw [Nat.testBit_and, Nat.testBit_two_pow_self, Bool.and_true] at h3
    exact h3
  · intro h
    apply Nat.eq_of_testBit_eq
    intro i
    rw [Nat.testBit_and, Nat.testBit_two_pow, Nat.zero_testBit]
    by_cases e : k = i
    · subst e; rw [h]; rfl
    · rw [decide_eq_false e, Bool.and_false]
theorem iI_zn {a : Int} (h1 : -2147483648 ≤ a) (h2 : a ≤ 2147483647) : iI a = nI 0 ↔ a = 0 := iI_z h1 h2
theorem nI_1' (a : Nat) : nI a + nI 1 = nI (a + 1) := nI_add a 1
