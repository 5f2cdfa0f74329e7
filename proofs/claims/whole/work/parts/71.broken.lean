/-! broken words by chance -/
theorem sL_n {M : Mm} {c k a : Nat} {v : Int64} (h : a ≠ c) : (sL M c k v).2 a = M.2 a := sL_ne h
theorem sL_s (M : Mm) (c k : Nat) (v : Int64) : (sL M c k v).2 c k = v := by simp [sL]
theorem sL_j {M : Mm} {c k j : Nat} {v : Int64} (a : Nat) (h : j ≠ k) : (sL M c k v).2 a j = M.2 a j := by simp [sL, h]
theorem sL_g (M : Mm) (c k : Nat) (v : Int64) (a j : Nat) : (sL M c k v).2 a j = if a = c ∧ j = k then v else M.2 a j := rfl
theorem sL_1 (M : Mm) (c k : Nat) (v : Int64) : (sL M c k v).1 = M.1 := rfl
theorem sI_2 (M : Mm) (c k : Nat) (v : Int32) : (sI M c k v).2 = M.2 := rfl
def wy (t : Nat) : Nat → Nat → Nat
  | 0, j => if j = 0 then 1 else 0
  | e + 1, j => wy t e j * (10 - t) + (if 0 < j then wy t e (j - 1) * t else 0)
theorem wy_z (t : Nat) : ∀ e j, e < j → wy t e j = 0 := by
  intro e
  induction e with
  | zero => intro j h; exact if_neg (by omega)
  | succ e ih =>
    intro j h
    rw [wy, ih j (by omega), if_pos (by omega), ih (j - 1) (by omega)]
    simp
theorem wy_le {t : Nat} (ht : t ≤ 10) : ∀ e j, wy t e j ≤ 10 ^ e := by
  intro e
  induction e with
  | zero => intro j; show (if j = 0 then 1 else 0) ≤ 1; split <;> decide
  | succ e ih =>
    intro j
    rw [wy, Nat.pow_succ]
    have h1 : wy t e j * (10 - t) ≤ 10 ^ e * (10 - t) := Nat.mul_le_mul_right _ (ih j)
    have h2 : (if 0 < j then wy t e (j - 1) * t else 0) ≤ 10 ^ e * t := by
      split
      · exact Nat.mul_le_mul_right _ (ih _)
      · exact Nat.zero_le _
    have h3 : 10 ^ e * (10 - t) + 10 ^ e * t = 10 ^ e * 10 := by rw [← Nat.mul_add]; congr 1; omega
    omega
def sN (g : Nat → Nat) : Nat → Nat
  | 0 => 0
  | n + 1 => sN g n + g n
theorem sN_ext {g : Nat → Nat} {n : Nat} (h : ∀ k, n ≤ k → g k = 0) : ∀ d, sN g (n + d) = sN g n := by
  intro d
  induction d with
  | zero => rfl
  | succ d ih => rw [← Nat.add_assoc, sN, ih, h (n + d) (by omega)]; rfl
theorem sN_le {g : Nat → Nat} {B : Nat} (h : ∀ k, g k ≤ B) : ∀ n, sN g n ≤ n * B := by
  intro n
  induction n with
  | zero => simp [sN]
  | succ n ih => rw [sN, Nat.succ_mul]; have := h n; omega
theorem fill_b {c n0 : Nat} {x : Int64} (hn : n0 < 2 ^ 31) : ∀ f k M, k ≤ n0 → n0 < k + f → (∀ j, j < k → M.2 c j = x) → ∃ M', fJ7_fill_d0a16_b6 c n0 f x (nI k) (nI n0) M = some ((), M') ∧ (∀ j, j < n0 → M'.2 c j = x) ∧ M'.1 = M.1 ∧ ∀ a, a ≠ c → M'.2 a = M.2 a := by
  intro f
  induction f with
  | zero => intro k M h1 h2; omega
  | succ f ih =>
    intro k M h1 h2 h
    rw [fJ7_fill_d0a16_b6]
    by_cases hk : k = n0
    · subst hk
      rw [if_pos (nI_le (Nat.le_refl _) hn)]
      exact ⟨M, rfl, h, rfl, fun _ _ => rfl⟩
    · rw [if_neg (nI_ge (by omega) hn), gd_of (inb_nI (by omega) hn), nI_clamp (by omega), nI_1']
      obtain ⟨M1, e1, c1, f1, g1⟩ := ih (k + 1) (sL M c k x) (by omega) (by omega) (fun j hj => by
        rw [sL_g]
        split
        · rfl
        · exact h j (by omega))
      exact ⟨M1, e1, c1, f1, fun a ha => by rw [g1 a ha, sL_n ha]⟩
theorem fill_c {c n0 : Nat} {x : Int64} (hn : n0 < 5000) (M : Mm) : ∃ M', fJ7_fill_d0a16 c n0 x M = some ((), M') ∧ (∀ j, j < n0 → M'.2 c j = x) ∧ M'.1 = M.1 ∧ ∀ a, a ≠ c → M'.2 a = M.2 a := by
  unfold fJ7_fill_d0a16
  exact fill_b (c := c) (n0 := n0) (x := x) (by omega) fu 0 M (by omega) (by have : fu = 5000 := rfl; omega) (fun j hj => absurd hj (by omega))
theorem ten_t {t : Nat} (ht : t ≤ 10) : (nI 10 - nI t).toInt64 = lN (10 - t) := by rw [pk_sub ht, nI_l (by omega)]
theorem spread_43 {t e : Nat} (ht : t ≤ 10) (he : e < 12) (nx : Int32 → Int32 → Mm → Option (Unit × Mm)) : ∀ f w M, w ≤ e + 1 → w < f → (∀ j, j < 13 → M.2 25 j = lN (if w < j then wy t (e + 1) j else wy t e j)) → ∃ M', fX1_spread_b43 nx f (nI t) (nI (e + 1)) (nI w) M = fX1_spread_b87 nx (nI t) (nI (e + 1)) M' ∧ (∀ j, j < 13 → M'.2 25 j = lN (if 0 < j then wy t (e + 1) j else wy t e j)) ∧ M'.2 24 = M.2 24 ∧ M'.1 = M.1 := by
  intro f
  induction f with
  | zero => intro w M h1 h2; omega
  | succ f ih =>
    intro w M h1 h2 h
    rw [fX1_spread_b43]
    by_cases hw : w = 0
    · subst hw
      rw [if_pos (by decide)]
      exact ⟨M, rfl, h, rfl, rfl⟩
    · have g1 := h w (by omega)
      have g2 := h (w - 1) (by omega)
      rw [if_neg (by omega)] at g1 g2
      have hi : inb (nI w) 13 = true := inb_nI (by omega) (by decide)
      rw [if_neg (nI_ge (by omega) (by omega)), gd_of hi, gd_of hi, pk_sub (by omega), gd_of (inb_nI (by omega) (by decide)), nI_clamp (by omega), nI_clamp (by omega), g1, g2, ten_t ht, nI_l (by omega), lN_mul, lN_mul, lN_add, nI_m1 (by omega)]
      obtain ⟨M1, e1, c1, f1, f2⟩ := ih (w - 1) (sL M 25 w (lN (wy t e w * (10 - t) + wy t e (w - 1) * t))) (by omega) (by omega) (fun j hj => by
        rw [sL_g]
        by_cases ej : j = w
        · subst ej
          rw [if_pos ⟨rfl, rfl⟩, if_pos (by omega), wy, if_pos (by omega)]
        · rw [if_neg (fun z => ej z.2), h j hj]
          by_cases q : w < j
          · rw [if_pos q, if_pos (by omega)]
          · rw [if_neg q, if_neg (by omega)])
      exact ⟨M1, e1, c1, by rw [f1, sL_n (by decide)], f2⟩
theorem spread_32 {t n : Nat} (ht : t ≤ 10) (hn : n ≤ 12) : ∀ f e M, e ≤ n → n < e + f → (∀ j, j < 13 → M.2 25 j = lN (wy t e j)) → M.2 24 2 = lN (10 ^ e) → M.1 24 1 = nI n → ∃ M', fX1_spread_b32 f (nI t) (nI (e + 1)) M = some ((), M') ∧ (∀ j, j < 13 → M'.2 25 j = lN (wy t n j)) ∧ M'.2 24 2 = lN (10 ^ n) ∧ M'.1 = M.1 := by
  intro f
  induction f with
  | zero => intro e M h1 h2; omega
  | succ f ih =>
    intro e M h1 h2 h ha hm
    rw [fX1_spread_b32, hm]
    by_cases he : e = n
    · subst he
      rw [if_pos (nI_lt (by omega) (by omega))]
      exact ⟨M, rfl, h, ha, rfl⟩
    · rw [if_neg (nI_nlt (by omega) (by omega))]
      obtain ⟨M1, e1, c1, f1, f2⟩ := spread_43 (e := e) ht (by omega) (fX1_spread_b32 f) fu (e + 1) M (Nat.le_refl _) (by have : fu = 5000 := rfl; omega) (fun j hj => by
        rw [h j hj]
        by_cases q : e + 1 < j
        · rw [if_pos q, wy_z t e j (by omega), wy_z t (e + 1) j q]
        · rw [if_neg q])
      rw [e1]
      unfold fX1_spread_b87
      have c0 := c1 0 (by decide)
      rw [if_neg (by decide)] at c0
      rw [show (nI 0).toNatClampNeg = 0 by decide, c0, ten_t ht, lN_mul, sL_n (by decide), f1, ha, lN_mul, nI_1']
      obtain ⟨M2, e2, c2, g2, g3⟩ := ih (e + 1) (sL (sL M1 25 0 (lN (wy t e 0 * (10 - t)))) 24 2 (lN (10 ^ e * 10))) (by omega) (by omega) (fun j hj => by
        rw [sL_n (by decide), sL_g]
        by_cases q : j = 0
        · subst q; rw [if_pos ⟨rfl, rfl⟩]; rfl
        · rw [if_neg (fun z => q z.2), c1 j hj, if_pos (by omega)]) (sL_s _ _ _ _) (by rw [sL_1, sL_1, f2]; exact hm)
      exact ⟨M2, e2, c2, g2, by rw [g3, sL_1, sL_1, f2]⟩
theorem spread_c {t n : Nat} (ht : t ≤ 10) (hn : n ≤ 12) (M : Mm) : ∃ M', fX1_spread (nI n) (nI t) M = some ((), M') ∧ (∀ j, j < 13 → M'.2 25 j = lN (wy t n j)) ∧ M'.2 24 2 = lN (10 ^ n) ∧ M'.1 = (sI M 24 1 (nI n)).1 := by
  unfold fX1_spread
  rw [jmin_nI (by omega) (by decide), Nat.min_eq_left hn, show (nI 0).toNatClampNeg = 0 by decide]
  obtain ⟨M1, e1, c1, f1, g1⟩ := fill_c (c := 25) (n0 := 13) (x := lN 0) (by decide) (sL (sI M 24 1 (nI n)) 24 2 (lN 1))
  rw [e1, bd_s]
  obtain ⟨M2, e2, c2, g2, g3⟩ := spread_32 ht hn fu 0 (sL M1 25 0 (lN 1)) (by omega) (by have : fu = 5000 := rfl; omega) (fun j hj => by
    rw [sL_g]
    by_cases q : j = 0
    · subst q; rw [if_pos ⟨rfl, rfl⟩]; rfl
    · rw [if_neg (fun z => q z.2), c1 j hj]
      show lN 0 = lN (if j = 0 then 1 else 0)
      rw [if_neg q]) (by rw [sL_n (by decide), g1 24 (by decide), sL_s]) (by rw [sL_1, f1, sL_1, sI_s])
  exact ⟨M2, e2, c2, g2, by rw [g3, sL_1, f1, sL_1]⟩
theorem tsum_b {g : Nat → Nat} {t n tr : Nat} {M : Mm} (hn : n ≤ 12) (ht : tr ≤ 9) (hg : ∀ j, g j = wy t n j * (tr - j)) (h : ∀ j, j < 13 → M.2 25 j = lN (wy t n j)) (hm : M.1 24 1 = nI n) : ∀ f k, k ≤ n + 1 → n + 1 < k + f → fX1_trustSum_b5 f (nI tr) (lN (sN g k)) (nI k) M = some (lN (sN g (n + 1)), M) := by
  intro f
  induction f with
  | zero => intro k h1 h2; omega
  | succ f ih =>
    intro k h1 h2
    rw [fX1_trustSum_b5, hm]
    by_cases hk : k = n + 1
    · subst hk; rw [if_pos (nI_lt (by omega) (by omega))]
    · rw [if_neg (nI_nlt (by omega) (by omega)), gd_of (inb_nI (by omega) (by decide)), nI_clamp (by omega), h k (by omega), jmax0_sub (by omega) (by omega), nI_l (by omega), lN_mul, lN_add, nI_1', ← hg k]
      exact ih (k + 1) (by omega) (by omega)
theorem tkeep_b {g : Nat → Nat} {t n tr q : Nat} {M : Mm} (hn : n ≤ 12) (ht : tr ≤ 9) (hq : q ≤ 9) (hg : ∀ j, g j = if q ≤ tr - j then wy t n j else 0) (h : ∀ j, j < 13 → M.2 25 j = lN (wy t n j)) (hm : M.1 24 1 = nI n) : ∀ f k, k ≤ n + 1 → n + 1 < k + f → fX1_waysToKeep_b5 f (nI tr) (nI q) (lN (sN g k)) (nI k) M = some (lN (sN g (n + 1)), M) := by
  intro f
  induction f with
  | zero => intro k h1 h2; omega
  | succ f ih =>
    intro k h1 h2
    rw [fX1_waysToKeep_b5, hm]
    by_cases hk : k = n + 1
    · subst hk; rw [if_pos (nI_lt (by omega) (by omega))]
    · have e1 := ih (k + 1) (by omega) (by omega)
      rw [sN, hg k] at e1
      rw [if_neg (nI_nlt (by omega) (by omega)), gd_of (inb_nI (by omega) (by decide)), nI_clamp (by omega), h k (by omega), jmax0_sub (by omega) (by omega), lN_add, nI_1']
      by_cases z : q ≤ tr - k
      · rw [if_pos z] at e1
        rw [if_neg (nI_nlt z (by omega))]; exact e1
      · rw [if_neg z] at e1
        rw [if_pos (nI_lt (by omega) (by omega))]; exact e1
theorem gcd_step (a b : Nat) : Nat.gcd a b = Nat.gcd b (a % b) := (Nat.gcd_comm a b).trans ((Nat.gcd_rec b a).trans (Nat.gcd_comm _ _))
theorem mod_half {b r : Nat} (h0 : 0 < r) (h : r < b) : 2 * (b % r) < b := by
  have h1 := Nat.mod_lt b h0
  have h2 : b % r ≤ b - r := by
    rw [Nat.mod_eq_sub_mod (by omega)]
    exact Nat.mod_le _ _
  omega
theorem lN_z {b : Nat} (hb : b < 2 ^ 63) : lg_cmp (lN b) (lN 0) = nI 0 ↔ b = 0 := by
  rw [lgn_eq, pk_lEQ hb (by decide)]
theorem cd_b (M : Mm) : ∀ s f i a b, b < 2 ^ s → i + 2 * s ≤ 100 → 2 * s < f → a < 2 ^ 63 → b < 2 ^ 63 → fX1_commonDivisor_b9 f (lN a) (lN b) (nI i) M = some (lN (Nat.gcd a b), M) := by
  intro s
  induction s with
  | zero =>
    intro f i a b hb hi hf ha _
    obtain ⟨f, rfl⟩ : ∃ g, f = g + 1 := ⟨f - 1, by omega⟩
    have : b = 0 := by simpa using hb
    subst this
    rw [fX1_commonDivisor_b9, if_pos ((lN_z (by decide)).mpr rfl), Nat.gcd_zero_right]
    split <;> rfl
  | succ s ih =>
    intro f i a b hb hi hf ha hb2
    obtain ⟨f, rfl⟩ : ∃ g, f = g + 2 := ⟨f - 2, by omega⟩
    rw [fX1_commonDivisor_b9, if_neg (nI_ge (by omega) (by decide))]
    by_cases h0 : b = 0
    · subst h0
      rw [if_pos ((lN_z (by decide)).mpr rfl), Nat.gcd_zero_right]
    · have hne : ¬ lN b = lN 0 := fun z => h0 ((pk_lEQ hb2 (by decide)).mp z)
      rw [if_neg (fun z => h0 ((lN_z hb2).mp z)), gd_of (decide_eq_true hne), jlrem_lN ha (by omega) hb2, nI_1', gcd_step a b]
      have hr : a % b < b := Nat.mod_lt _ (by omega)
      generalize a % b = r at hr
      rw [fX1_commonDivisor_b9, if_neg (nI_ge (by omega) (by decide))]
      by_cases h1 : r = 0
      · subst h1
        rw [if_pos ((lN_z (by decide)).mpr rfl), Nat.gcd_zero_right]
      · have hne : ¬ lN r = lN 0 := fun z => h1 ((pk_lEQ (by omega) (by decide)).mp z)
        have hh := mod_half (by omega) hr
        rw [if_neg (fun z => h1 ((lN_z (by omega)).mp z)), gd_of (decide_eq_true hne), jlrem_lN hb2 (by omega) (by omega), nI_1', gcd_step b r]
        rw [Nat.pow_succ] at hb
        exact ih f (i + 1 + 1) r (b % r) (by omega) (by omega) (by omega) (by omega) (by omega)
theorem lo_b (M : Mm) (v0 v2 : Int64) (v4 : Int32) : ∀ s f a b, b < 2 ^ s → 2 * s < f → a < 2 ^ 63 → b < 2 ^ 63 → fX9_lowest_b6 f v0 v2 v4 (lN a) (lN b) M = fX9_lowest_b31 v0 v2 v4 (lN (Nat.gcd a b)) M := by
  intro s
  induction s with
  | zero =>
    intro f a b hb hf ha _
    obtain ⟨f, rfl⟩ : ∃ g, f = g + 1 := ⟨f - 1, by omega⟩
    have : b = 0 := by simpa using hb
    subst this
    rw [fX9_lowest_b6, if_pos ((lN_z (by decide)).mpr rfl), Nat.gcd_zero_right]
  | succ s ih =>
    intro f a b hb hf ha hb2
    obtain ⟨f, rfl⟩ : ∃ g, f = g + 2 := ⟨f - 2, by omega⟩
    rw [fX9_lowest_b6]
    by_cases h0 : b = 0
    · subst h0
      rw [if_pos ((lN_z (by decide)).mpr rfl), Nat.gcd_zero_right]
    · have hne : ¬ lN b = lN 0 := fun z => h0 ((pk_lEQ hb2 (by decide)).mp z)
      rw [if_neg (fun z => h0 ((lN_z hb2).mp z)), gd_of (decide_eq_true hne), jlrem_lN ha (by omega) hb2, gcd_step a b]
      have hr : a % b < b := Nat.mod_lt _ (by omega)
      generalize a % b = r at hr
      rw [fX9_lowest_b6]
      by_cases h1 : r = 0
      · subst h1
        rw [if_pos ((lN_z (by decide)).mpr rfl), Nat.gcd_zero_right]
      · have hne : ¬ lN r = lN 0 := fun z => h1 ((pk_lEQ (by omega) (by decide)).mp z)
        have hh := mod_half (by omega) hr
        rw [if_neg (fun z => h1 ((lN_z (by omega)).mp z)), gd_of (decide_eq_true hne), jlrem_lN hb2 (by omega) (by omega), gcd_step b r]
        rw [Nat.pow_succ] at hb
        exact ih f r (b % r) (by omega) (by omega) (by omega) (by omega)
/-! reference side -/
theorem br_99 {t e : Nat} (ht : t ≤ 10) (nx : Int32 → Int32 → Int32 → Int32 → Int64 → Int32 → Mm → Option (Int64 × Mm)) (v2 v3 v4 v7 : Int32) (v5 : Int64) : ∀ f w M, w ≤ 12 → w + 1 < f → (∀ j, j < 13 → M.2 15 j = lN (if w < j then wy t (e + 1) j else wy t e j)) → ∃ M', fX9_broken_b99 nx f (nI t) v2 v3 v4 v5 v7 (nI w) M = nx (nI t) v2 v3 v4 (v5 * lN 10) (v7 + nI 1) M' ∧ (∀ j, j < 13 → M'.2 15 j = lN (wy t (e + 1) j)) ∧ M'.1 = M.1 := by
  intro f
  induction f with
  | zero => intro w M h1 h2; omega
  | succ f ih =>
    intro w M h1 h2 h
    have hi : inb (nI w) 13 = true := inb_nI (by omega) (by decide)
    have g1 := h w (by omega)
    rw [if_neg (by omega)] at g1
    rw [fX9_broken_b99, if_neg (nI_nlt (Nat.zero_le _) (by omega)), gd_of hi, gd_of hi, nI_clamp (by omega), g1, ten_t ht, lN_mul]
    by_cases hw : w = 0
    · subst hw
      rw [if_pos (by decide), lN_add, show nI 0 + mI 1 = mI 1 by decide]
      obtain ⟨f, rfl⟩ : ∃ g, f = g + 1 := ⟨f - 1, by omega⟩
      rw [fX9_broken_b99, if_pos (by decide)]
      refine ⟨_, rfl, fun j hj => ?_, rfl⟩
      rw [sL_g]
      by_cases q : j = 0
      · subst q; rw [if_pos ⟨rfl, rfl⟩]; rfl
      · rw [if_neg (fun z => q z.2), h j hj, if_pos (by omega)]
    · have g2 := h (w - 1) (by omega)
      rw [if_neg (by omega)] at g2
      rw [if_neg (nI_ge (by omega) (by omega)), pk_sub (by omega), gd_of (inb_nI (by omega) (by decide)), gd_of hi, nI_clamp (by omega), g2, nI_l (by omega), lN_mul, lN_add, nI_m1 (by omega)]
      obtain ⟨M1, e1, c1, f1⟩ := ih (w - 1) (sL M 15 w (lN (wy t e w * (10 - t) + wy t e (w - 1) * t))) (by omega) (by omega) (fun j hj => by
        rw [sL_g]
        by_cases ej : j = w
        · subst ej
          rw [if_pos ⟨rfl, rfl⟩, if_pos (by omega), wy, if_pos (by omega)]
        · rw [if_neg (fun z => ej z.2), h j hj]
          by_cases q : w < j
          · rw [if_pos q, if_pos (by omega)]
          · rw [if_neg q, if_neg (by omega)])
      exact ⟨M1, e1, c1, by rw [f1, sL_1]⟩
theorem br_88 {t n : Nat} (ht : t ≤ 10) (hn : n ≤ 12) (v2 v3 : Int32) : ∀ f e M, e ≤ n → n < e + f → (∀ j, j < 13 → M.2 15 j = lN (wy t e j)) → ∃ M', fX9_broken_b88 f (nI t) v2 v3 (nI n) (lN (10 ^ e)) (nI e) M = fX9_broken_b172 fu v2 v3 (lN (10 ^ n)) (lN 0) (nI 0) M' ∧ (∀ j, j < 13 → M'.2 15 j = lN (wy t n j)) ∧ M'.1 = M.1 := by
  intro f
  induction f with
  | zero => intro e M h1 h2; omega
  | succ f ih =>
    intro e M h1 h2 h
    rw [fX9_broken_b88]
    by_cases he : e = n
    · subst he
      rw [if_pos (nI_le (Nat.le_refl _) (by omega))]
      exact ⟨M, rfl, h, rfl⟩
    · rw [if_neg (nI_ge (by omega) (by omega))]
      obtain ⟨M1, e1, c1, f1⟩ := br_99 (e := e) ht (fX9_broken_b88 f) v2 v3 (nI n) (nI e) (lN (10 ^ e)) fu 12 M (by omega) (by decide) (fun j hj => by rw [if_neg (by omega)]; exact h j hj)
      obtain ⟨M2, e2, c2, f2⟩ := ih (e + 1) M1 (by omega) (by omega) c1
      rw [e1, lN_mul, nI_1', ← Nat.pow_succ, e2]
      exact ⟨M2, rfl, c2, by rw [f2, f1]⟩
theorem br_55 {t n : Nat} (v1 v2 v3 : Int32) (v4 : Int32) (v5 : Int64) : ∀ f k M, k ≤ 13 → 13 < k + f → (∀ j, j < k → M.2 15 j = lN (wy t 0 j)) → ∃ M', fX9_broken_b55 f v1 v2 v3 v4 v5 (nI k) M = fX9_broken_b88 fu v1 v2 v3 v4 v5 (nI 0) M' ∧ (∀ j, j < 13 → M'.2 15 j = lN (wy t 0 j)) ∧ M'.1 = M.1 := by
  intro f
  induction f with
  | zero => intro k M h1 h2; omega
  | succ f ih =>
    intro k M h1 h2 h
    rw [fX9_broken_b55]
    by_cases hk : k = 13
    · subst hk
      rw [if_pos (by decide)]
      exact ⟨M, rfl, h, rfl⟩
    · have hi : inb (nI k) 13 = true := inb_nI (by omega) (by decide)
      rw [if_neg (nI_ge (by omega) (by decide)), gd_of hi, gd_of hi, nI_clamp (by omega), nI_1']
      have e0 : nI k = nI 0 ↔ k = 0 := nI_z (by omega)
      have go : ∀ v, v = wy t 0 k → ∃ M', fX9_broken_b55 f v1 v2 v3 v4 v5 (nI (k + 1)) (sL M 15 k (lN v)) = fX9_broken_b88 fu v1 v2 v3 v4 v5 (nI 0) M' ∧ (∀ j, j < 13 → M'.2 15 j = lN (wy t 0 j)) ∧ M'.1 = M.1 := by
        intro v hv
        exact ih (k + 1) (sL M 15 k (lN v)) (by omega) (by omega) (fun j hj => by
          rw [sL_g]
          by_cases q : j = k
          · rw [if_pos ⟨rfl, q⟩, hv, q]
          · rw [if_neg (fun z => q z.2)]; exact h j (by omega))
      by_cases q : k = 0
      · rw [if_pos (e0.mpr q)]
        exact go 1 (by rw [q]; rfl)
      · rw [if_neg (fun z => q (e0.mp z))]
        exact go 0 (by show 0 = if k = 0 then 1 else 0; rw [if_neg q])
theorem br_172 {g : Nat → Nat} {t n tr : Nat} {M : Mm} {v2 v3 : Int32} {v5 : Int64} (ht : tr ≤ 9) (hg : (v2 = mI 1 ∧ ∀ j, g j = wy t n j * (tr - j)) ∨ ∃ q, q ≤ 9 ∧ v2 = nI q ∧ ∀ j, g j = if q ≤ tr - j then wy t n j else 0) (h : ∀ j, j < 13 → M.2 15 j = lN (wy t n j)) (hm : M.1 0 1 = nI tr) : ∀ f k, k ≤ 13 → 13 < k + f → fX9_broken_b172 f v2 v3 v5 (lN (sN g k)) (nI k) M = fX9_broken_b247 v3 v5 (lN (sN g 13)) M := by
  intro f
  induction f with
  | zero => intro k h1 h2; omega
  | succ f ih =>
    intro k h1 h2
    rw [fX9_broken_b172, hm]
    by_cases hk : k = 13
    · subst hk; rw [if_pos (by decide)]
    · have e1 := ih (k + 1) (by omega) (by omega)
      rw [sN] at e1
      have key : ∀ l, l = tr - k → fX9_broken_b199 (fX9_broken_b172 f) v2 v3 v5 (lN (sN g k)) (nI k) (nI l) M = fX9_broken_b247 v3 v5 (lN (sN g 13)) M := by
        intro l hl
        unfold fX9_broken_b199
        rw [gd_of (inb_nI (by omega) (by decide)), gd_of (inb_nI (by omega) (by decide)), nI_clamp (by omega), h k (by omega), nI_1', lN_add, lN_add, nI_l (by omega), lN_mul, lN_add]
        rcases hg with ⟨rfl, hg⟩ | ⟨q, hq, rfl, hg⟩
        · rw [if_neg (by decide), hl, ← hg k]; exact e1
        · rw [if_pos (nI_le (Nat.zero_le _) (by omega)), hl]
          rw [hg k] at e1
          by_cases z : q ≤ tr - k
          · rw [if_pos z] at e1
            rw [if_neg (nI_nlt z (by omega))]; exact e1
          · rw [if_neg z] at e1
            rw [if_pos (nI_lt (by omega) (by omega))]; exact e1
      rw [if_neg (nI_ge (by omega) (by decide))]
      by_cases z : tr ≤ k
      · rw [if_pos (nI_le z (by omega))]
        exact key 0 (by omega)
      · rw [if_neg (nI_ge (by omega) (by omega)), pk_sub (by omega)]
        exact key (tr - k) rfl
def w1 (x : Int32) : Bool := decide (-1 ≤ x.toInt) && decide (x.toInt ≤ 9)
theorem m1_toInt : (mI 1).toInt = -1 := by decide
theorem isWithin_m1 (x : Int32) (M : Mm) : fX8_isWithin x (mI 1) (nI 9) M = some (nI (w1 x).toNat, M) := by
  unfold fX8_isWithin w1
  simp only [Int32.lt_iff_toInt_lt, m1_toInt, nI_toInt (show 9 < 2 ^ 31 by decide)]
  by_cases h1 : x.toInt < -1
  · rw [if_pos h1, decide_eq_false (by omega)]; rfl
  · rw [if_neg h1, decide_eq_true (by omega)]
    by_cases h2 : ((9 : Nat) : Int) < x.toInt
    · rw [if_pos h2, decide_eq_false (by omega)]; rfl
    · rw [if_neg h2, decide_eq_true (by omega)]; rfl
theorem in_m1 (x : Int32) (M : Mm) : fX9_in x.toInt64 (-1 : Int64) (lN 9) M = some (nI (w1 x).toNat, M) := by
  unfold fX9_in w1
  simp only [lgn_lt, lgn_gt, Int64.lt_iff_toInt_lt, i64_toInt, lN_toInt (show 9 < 2 ^ 31 by decide), show (-1 : Int64).toInt = -1 by decide]
  by_cases h1 : x.toInt < -1
  · rw [if_pos h1, decide_eq_false (by omega)]; rfl
  · rw [if_neg h1, decide_eq_true (by omega)]
    by_cases h2 : ((9 : Nat) : Int) < x.toInt
    · rw [if_pos h2, decide_eq_false (by omega)]; rfl
    · rw [if_neg h2, decide_eq_true (by omega)]; rfl
theorem w1_of {x : Int32} (h : w1 x = true) : x = mI 1 ∨ ∃ q, q ≤ 9 ∧ x = nI q := by
  simp only [w1, Bool.and_eq_true, decide_eq_true_eq] at h
  by_cases e : x.toInt = -1
  · exact Or.inl (Int32.toInt_inj.mp (by rw [e, m1_toInt]))
  · refine Or.inr ⟨x.toInt.toNat, by omega, Int32.toInt_inj.mp ?_⟩
    rw [nI_toInt (by omega)]
    omega
theorem RM_1 {S : Sa} {M M' : Mm} (h : M'.1 = M.1) (hM : RM S M) : RM S M' := RM_hk hM (MK_fr (by rw [h]) (by rw [h]) (by rw [h]) (by rw [h]) (by rw [h]) hM.1) (fun j _ => by rw [h]) (fun a _ => by rw [h])
theorem op_broken : Op_broken Rl := by
  intro x1 x2 x3 Mx M_ ⟨S, hS, hX, hM⟩
  have hO := hS.1
  unfold fX8_broken fX9_broken
  rw [isWithin_nI x1 (by decide) (by decide), bd_s, isWithin_m1, bd_s, isWithin_nI x3 (by decide) (by decide), bd_s, in_nI x1 (by decide) (by decide), bd_s, in_m1, bd_s, in_nI x3 (by decide) (by decide), bd_s]
  simp only [ib0]
  cases h1 : wi x1 0 10
  · exact ⟨_, _, _, rfl, rfl, S, hS, hX, hM⟩
  cases h2 : w1 x2
  · exact ⟨_, _, _, rfl, rfl, S, hS, hX, hM⟩
  cases h3 : wi x3 0 1
  · exact ⟨_, _, _, rfl, rfl, S, hS, hX, hM⟩
  simp only [if_true]
  obtain ⟨t, _, ht, rfl⟩ := wi_of (by decide) h1
  obtain ⟨n, hnd⟩ : ∃ n, n = cnt (ou S.1) 12 := ⟨_, rfl⟩
  have hn : n ≤ 12 := by rw [hnd]; exact cnt_le _ _
  have hl := bs_lt (ou S.1) 12
  have htr := hO.2.1
  have ho := outOf_b hM.1 hO (a := 0) (N := 12) (by omega) fu 0 (by omega) (by decide)
  have ho : fX9_outOf (nI 0) (nI 12) M_ = some (nI (cnt (fun k => ou S.1 (0 + k)) 12), M_) := ho
  rw [cnt_congr (g := ou S.1) (fun k _ => by rw [Nat.zero_add]), ← hnd] at ho
  rw [crowd6 hX.1 hO, bd_s, bitCount_n (by omega), bd_s, pc_bs12, ← hnd, ho, bd_s]
  obtain ⟨M1, e1, c1, a1, f1⟩ := spread_c ht hn Mx
  obtain ⟨N1, n1, d1, k1⟩ := br_55 (t := t) (n := n) (nI t) x2 x3 (nI n) (lN 1) fu 0 M_ (by omega) (by decide) (fun j hj => absurd hj (by omega))
  obtain ⟨N2, n2, d2, k2⟩ := br_88 ht hn x2 x3 fu 0 N1 (by omega) (by have : fu = 5000 := rfl; omega) d1
  have n2 : fX9_broken_b88 fu (nI t) x2 x3 (nI n) (lN 1) (nI 0) N1 = _ := n2
  rw [e1, bd_s, n1, n2]
  have t1 : M1.1 1 1 = nI (bt S.1) := by rw [f1, sI_n (by decide)]; exact hX.1.2.1
  have m24 : M1.1 24 1 = nI n := by rw [f1, sI_s]
  have tm : N2.1 0 1 = nI (bt S.1) := by rw [k2, k1]; exact hM.1.2.1
  rw [t1]
  have hp : 10 ^ n ≤ 10 ^ 12 := Nat.pow_le_pow_right (by decide) hn
  have hp0 : 0 < 10 ^ n := Nat.pow_pos (by decide)
  have hrel : Rl M1 N2 := ⟨S, hS, RX_fr (fun a ha => by rw [f1, sI_n (by omega)]) hX, RM_1 (by rw [k2, k1]) hM⟩
  have fin : ∀ g : Nat → Nat, (∀ j, g j ≤ 10 ^ n * 9) → (∀ j, n + 1 ≤ j → g j = 0) → ((x2 = mI 1 ∧ ∀ j, g j = wy t n j * (bt S.1 - j)) ∨ ∃ q, q ≤ 9 ∧ x2 = nI q ∧ ∀ j, g j = if q ≤ bt S.1 - j then wy t n j else 0) → ∃ r Mx1 M1', fX8_broken_b89 x3 (lN (sN g (n + 1))) M1 = some (r, Mx1) ∧ fX9_broken_b172 fu x2 x3 (lN (10 ^ n)) (lN 0) (nI 0) N2 = some (r, M1') ∧ Rl Mx1 M1' := by
    intro g hb hz hg
    have b1 := br_172 (M := N2) (v3 := x3) (v5 := lN (10 ^ n)) htr hg d2 tm fu 0 (by omega) (by decide)
    have b1 : fX9_broken_b172 fu x2 x3 (lN (10 ^ n)) (lN 0) (nI 0) N2 = _ := b1
    have s13 : sN g 13 = sN g (n + 1) := by
      have := sN_ext hz (12 - n)
      rw [show n + 1 + (12 - n) = 13 by omega] at this
      exact this
    have sb := sN_le hb 13
    rw [s13] at sb
    rw [b1, s13]
    generalize sN g (n + 1) = u at sb
    have hu : u < 2 ^ 47 := by omega
    unfold fX8_broken_b89 fX1_lowestTerms fX1_commonDivisor fX9_broken_b247 fX9_lowest
    rw [a1, cd_b M1 40 fu 0 u (10 ^ n) (by omega) (by omega) (by decide) (by omega) (by omega), bd_s, lo_b N2 _ _ _ 47 fu (10 ^ n) u hu (by decide) (by omega) (by omega), Nat.gcd_comm (10 ^ n) u, a1]
    have hg0 : 0 < Nat.gcd u (10 ^ n) := Nat.gcd_pos_of_pos_right _ hp0
    have hgl : Nat.gcd u (10 ^ n) ≤ 10 ^ n := Nat.gcd_le_right _ hp0
    generalize Nat.gcd u (10 ^ n) = d at hg0 hgl
    have hne : ¬ lN d = lN 0 := fun z => by have := (pk_lEQ (by omega) (by decide)).mp z; omega
    unfold fX9_lowest_b31
    rw [if_neg (fun z => by have := (lN_z (by omega)).mp z; omega), gd_of (decide_eq_true hne), gd_of (decide_eq_true hne), gd_of (decide_eq_true hne), gd_of (decide_eq_true hne)]
    by_cases h0 : x3 = nI 0
    · rw [if_pos h0, if_pos h0, bd_s, bd_s]
      exact ⟨_, _, _, rfl, rfl, hrel⟩
    · rw [if_neg h0, if_neg h0, bd_s, bd_s]
      exact ⟨_, _, _, rfl, rfl, hrel⟩
  have hwl := wy_le ht n
  rcases w1_of h2 with rfl | ⟨q, hq, rfl⟩
  · rw [if_neg (by decide)]
    unfold fX1_trustSum
    have := tsum_b (g := fun j => wy t n j * (bt S.1 - j)) hn htr (fun _ => rfl) c1 m24 fu 0 (by omega) (by have : fu = 5000 := rfl; omega)
    have this : fX1_trustSum_b5 fu (nI (bt S.1)) (lN 0) (nI 0) M1 = _ := this
    rw [this, bd_s]
    exact fin _ (fun j => Nat.mul_le_mul (hwl j) (by omega)) (fun j hj => by show wy t n j * _ = 0; rw [wy_z t n j (by omega), Nat.zero_mul]) (Or.inl ⟨rfl, fun _ => rfl⟩)
  · rw [if_pos (nI_le (Nat.zero_le _) (by omega))]
    unfold fX1_waysToKeep
    have := tkeep_b (g := fun j => if q ≤ bt S.1 - j then wy t n j else 0) hn htr hq (fun _ => rfl) c1 m24 fu 0 (by omega) (by have : fu = 5000 := rfl; omega)
    have this : fX1_waysToKeep_b5 fu (nI (bt S.1)) (nI q) (lN 0) (nI 0) M1 = _ := this
    rw [this, bd_s]
    refine fin _ (fun j => ?_) (fun j hj => ?_) (Or.inr ⟨q, hq, rfl, fun _ => rfl⟩)
    · show (if q ≤ bt S.1 - j then wy t n j else 0) ≤ _
      have := hwl j
      split <;> omega
    · show (if q ≤ bt S.1 - j then wy t n j else 0) = 0
      rw [wy_z t n j (by omega)]
      split <;> rfl
