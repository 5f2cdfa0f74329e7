/-! the state that both memories hold -/
abbrev Sb : Type := (Nat × Nat × (Nat → Nat) × (Nat → Nat) × (Nat → Nat)) × (Nat × (Nat → Nat) × (Nat → Bool))
abbrev bp (b : Sb) : Nat := b.1.1
abbrev bt (b : Sb) : Nat := b.1.2.1
abbrev br (b : Sb) : Nat → Nat := b.1.2.2.1
abbrev bz (b : Sb) : Nat → Nat := b.1.2.2.2.1
abbrev bw (b : Sb) : Nat → Nat := b.1.2.2.2.2
abbrev bn (b : Sb) : Nat := b.2.1
abbrev bc (b : Sb) : Nat → Nat := b.2.2.1
abbrev be (b : Sb) : Nat → Bool := b.2.2.2
def OK (b : Sb) : Prop := bp b < 4096 ∧ bt b ≤ 9 ∧ (∀ k, k < 12 → br b k < 6) ∧ (∀ k, k < 12 → bz b k < 5) ∧ ∀ k, k < 6 → 1 ≤ bw b k ∧ bw b k ≤ 99
def OS (b : Sb) : Prop := bn b ≤ 8 ∧ ∀ i, i < bn b → bc b i < 4096
def XK (c : Nat) (b : Sb) (M : Mm) : Prop := M.1 c 0 = nI (bp b) ∧ M.1 c 1 = nI (bt b) ∧ (∀ k, k < 12 → M.1 (c + 1) k = nI (br b k)) ∧ (∀ k, k < 12 → M.1 (c + 2) k = nI (bz b k)) ∧ ∀ k, k < 6 → M.1 (c + 3) k = nI (bw b k)
def XS (c : Nat) (b : Sb) (M : Mm) : Prop := M.1 c 2 = nI (bn b) ∧ (∀ i, i < bn b → M.1 (c + 4) i = nI (bc b i)) ∧ ∃ e, M.1 c 3 = nI e ∧ e < 256 ∧ ∀ i, i < bn b → e.testBit i = be b i
def MK (b : Sb) (M : Mm) : Prop := M.1 0 0 = nI (bp b) ∧ M.1 0 1 = nI (bt b) ∧ (∀ k, k < 12 → M.1 1 k = nI (br b k)) ∧ (∀ k, k < 12 → M.1 2 k = nI (bz b k)) ∧ ∀ k, k < 6 → M.1 3 k = nI (bw b k)
def MG (b : Sb) (M : Mm) : Prop := M.1 0 8 = nI (bn b) ∧ ∀ i, i < bn b → M.1 4 i = nI (bc b i % 64) ∧ M.1 5 i = nI (bc b i / 64) ∧ M.1 6 i = nI (be b i).toNat
def th (b : Sb) (k : Nat) : Bool := (bp b).testBit k
def op (b : Sb) (k : Nat) : Bool := th b k && decide (bz b k < 3)
def ou (b : Sb) (k : Nat) : Bool := th b k && (decide (bz b k = 1) || decide (bz b k = 2))
def wk (b : Sb) (k : Nat) : Nat := bw b (br b k)
def sgn (k : Nat) (v : Int) : Int := if k < 6 then v else -v
def ld (b : Sb) (S : Nat → Bool) : Int := sm (fun k => if S k then sgn k (wk b k) else 0) 12
theorem ib1 {α : Type} {b : Bool} (x y : α) : (if nI b.toNat = nI 1 then x else y) = (if b = true then x else y) := by cases b <;> rfl
theorem ib0 {α : Type} {b : Bool} (x y : α) : (if nI b.toNat = nI 0 then x else y) = (if b = true then y else x) := by cases b <;> rfl
theorem th_lt {b : Sb} (hO : OK b) {k : Nat} (h : th b k = true) : k < 12 := by
  rcases Nat.lt_or_ge k 12 with h1 | h1
  · exact h1
  · have : (bp b).testBit k = false := Nat.testBit_lt_two_pow (Nat.lt_of_lt_of_le hO.1 (Nat.pow_le_pow_right (n := 2) (by decide) h1))
    unfold th at h
    rw [this] at h
    cases h
section ST
variable {c : Nat} {b : Sb} {M : Mm}
theorem isThere_k (hX : XK c b M) (hO : OK b) {k : Nat} (hk : k < 12) : fX0_isThere c (nI k) M = some (nI (th b k).toNat, M) := by
  unfold fX0_isThere
  rw [if_neg (nI_nlt (Nat.zero_le _) (by omega)), if_neg (nI_ge hk (by decide)), hX.1, jbit (by have := hO.1; omega) (by omega), ib1]
  unfold th
  cases (bp b).testBit k <;> rfl
theorem wi_out {x : Int32} {a b : Nat} (h : wi x a b = false) : x.toInt < a ∨ (b : Int) < x.toInt := by
  simp only [wi, Bool.and_eq_false_iff, decide_eq_false_iff_not] at h
  omega
theorem isThere_x (hX : XK c b M) (hO : OK b) (x : Int32) : fX0_isThere c x M = some (nI (wi x 0 11 && th b x.toNatClampNeg).toNat, M) := by
  cases hw : wi x 0 11
  · have h := wi_out (a := 0) (b := 11) hw
    unfold fX0_isThere
    rcases h with h | h
    · rw [if_pos ((lt_lit (a := 0) (by decide)).mpr h)]; rfl
    · rw [if_neg (fun z => by have := (lt_lit (a := 0) (by decide)).mp z; omega), if_pos ?_]
      · rfl
      · rw [Int32.le_iff_toInt_le, nI_toInt (by decide)]
        omega
  · obtain ⟨j, h1, h2, rfl⟩ := wi_of (a := 0) (b := 11) (by decide) hw
    rw [isThere_k hX hO (by omega), nI_clamp (by omega)]
    rfl
theorem crowdIn_b (hX : XK c b M) (hO : OK b) {s : Nat} (hs : s < 2 ^ 31) : ∀ n k, k ≤ 12 → 12 < k + n → fX0_crowdIn_b4 c n (nI s) (nI (bs (fun k => th b k && s.testBit (bz b k)) k)) (nI k) M = some (nI (bs (fun k => th b k && s.testBit (bz b k)) 12), M) := by
  intro n
  induction n with
  | zero => intro k h1 h2; omega
  | succ n ih =>
    intro k h1 h2
    rw [fX0_crowdIn_b4]
    by_cases hk : k = 12
    · subst hk; rw [if_pos (by decide)]
    · have hk' : k < 12 := by omega
      have hz := hO.2.2.2.1 k hk'
      rw [if_neg (nI_ge hk' (by decide)), hX.1, jbit (by have := hO.1; omega) (by omega), ib1, nI_1']
      have e1 := ih (k + 1) (by omega) (by omega)
      rw [bs] at e1
      by_cases ht : (bp b).testBit k = true
      · rw [if_pos ht, gd_of (inb_nI hk' (by decide)), nI_clamp (by omega), hX.2.2.2.1 k hk', jbit hs (by omega), ib1]
        have ht' : th b k = true := ht
        by_cases hb : s.testBit (bz b k) = true
        · rw [if_pos hb, j2k (by omega), nI_or]
          rw [if_pos (by rw [ht', hb]; rfl)] at e1
          exact e1
        · rw [if_neg hb]
          rw [if_neg (by rw [ht']; simpa using hb)] at e1
          rw [Nat.or_zero] at e1
          exact e1
      · rw [if_neg ht]
        have ht' : th b k = false := by unfold th; simpa using ht
        rw [if_neg (by rw [ht']; simp), Nat.or_zero] at e1
        exact e1
theorem crowdIn_s (hX : XK c b M) (hO : OK b) {s : Nat} (hs : s < 2 ^ 31) : fX0_crowdIn c (nI s) M = some (nI (bs (fun k => th b k && s.testBit (bz b k)) 12), M) := crowdIn_b hX hO hs fu 0 (by omega) (by decide)
theorem bs_congr {f g : Nat → Bool} {n : Nat} (h : ∀ k, k < n → f k = g k) : bs f n = bs g n := by
  induction n with
  | zero => rfl
  | succ n ih => rw [bs, bs, ih (fun k hk => h k (by omega)), h n (by omega)]
theorem crowd7 (hX : XK c b M) (hO : OK b) : fX0_crowdIn c (nI 7) M = some (nI (bs (op b) 12), M) := by
  have h := crowdIn_s hX hO (s := 7) (by decide)
  rw [bs_congr (g := op b)] at h
  · exact h
  · intro k hk
    have hz := hO.2.2.2.1 k hk
    unfold op
    congr 1
    revert hz
    generalize bz b k = z
    intro hz
    match z, hz with
    | 0, _ => rfl
    | 1, _ => rfl
    | 2, _ => rfl
    | 3, _ => rfl
    | 4, _ => rfl
theorem crowd6 (hX : XK c b M) (hO : OK b) : fX0_crowdIn c (nI 6) M = some (nI (bs (ou b) 12), M) := by
  have h := crowdIn_s hX hO (s := 6) (by decide)
  rw [bs_congr (g := ou b)] at h
  · exact h
  · intro k hk
    have hz := hO.2.2.2.1 k hk
    unfold ou
    congr 1
    revert hz
    generalize bz b k = z
    intro hz
    match z, hz with
    | 0, _ => rfl
    | 1, _ => rfl
    | 2, _ => rfl
    | 3, _ => rfl
    | 4, _ => rfl
theorem worth_k (hX : XK c b M) (hO : OK b) {k : Nat} (hk : k < 12) : fX0_worth c (nI k) M = some (nI (wk b k), M) := by
  unfold fX0_worth
  have hr := hO.2.2.1 k hk
  rw [gd_of (inb_nI hk (by decide)), nI_clamp (by omega), hX.2.2.1 k hk, gd_of (inb_nI hr (by decide)), nI_clamp (by omega), hX.2.2.2.2 _ hr]
  rfl
theorem lead_b (hX : XK c b M) (hO : OK b) {s : Nat} : ∀ n k, k ≤ 12 → 12 < k + n → fX0_lead_b4 c n (nI s) (iI (sm (fun k => if (s.testBit k && th b k) then sgn k (wk b k) else 0) k)) (nI k) M = some (iI (ld b (fun k => s.testBit k && th b k)), M) := by
  intro n
  induction n with
  | zero => intro k h1 h2; omega
  | succ n ih =>
    intro k h1 h2
    rw [fX0_lead_b4]
    by_cases hk : k = 12
    · subst hk; rw [if_pos (by decide)]; rfl
    · have hk' : k < 12 := by omega
      have e1 := ih (k + 1) (by omega) (by omega)
      rw [sm] at e1
      rw [if_neg (nI_ge hk' (by decide)), hX.1, j2k (by omega), nI_and, nI_and, nI_1']
      have hb : ∀ z : Nat, nI (z &&& 2 ^ k) = nI 0 ↔ z.testBit k = false := fun z => and2k (by omega)
      by_cases hz : (s.testBit k && th b k) = true
      · rw [if_neg (fun q => by rw [hb, Nat.testBit_and] at q; unfold th at hz; rw [hz] at q; cases q)]
        rw [if_pos hz] at e1
        by_cases h6 : k < 6
        · rw [if_neg (nI_ge h6 (by decide)), worth_k hX hO hk', bd_s, iI_nI (wk b k), iI_add]
          rw [show sgn k (wk b k) = (wk b k : Int) by simp [sgn, h6]] at e1
          exact e1
        · rw [if_pos (nI_le (by omega) (by omega)), worth_k hX hO hk', bd_s, iI_nI (wk b k), iI_neg, iI_add]
          rw [show sgn k (wk b k) = -(wk b k : Int) by simp [sgn, h6]] at e1
          exact e1
      · rw [if_pos (by rw [hb, Nat.testBit_and]; unfold th at hz; simpa using hz)]
        rw [if_neg hz, Int.add_zero] at e1
        exact e1
theorem lead_s (hX : XK c b M) (hO : OK b) (s : Nat) : fX0_lead c (nI s) M = some (iI (ld b (fun k => s.testBit k && th b k)), M) := lead_b hX hO fu 0 (by omega) (by decide)
end ST
