section SM
variable {b : Sb} {M : Mm}
theorem isOfficer_x (hX : MK b M) (hO : OK b) (x : Int32) : fX9_isOfficer x M = some (nI (wi x 0 11 && th b x.toNatClampNeg).toNat, M) := by
  unfold fX9_isOfficer
  rw [in_nI x (a := 0) (b := 11) (by decide) (by decide), bd_s, ib0]
  cases hw : wi x 0 11
  · rfl
  · obtain ⟨j, h1, h2, rfl⟩ := wi_of (by decide) hw
    rw [if_pos rfl, hX.1, jbit (by have := hO.1; omega) (by omega), ib1, nI_clamp (by omega)]
    unfold th
    cases (bp b).testBit j <;> rfl
theorem isOfficer_k (hX : MK b M) (hO : OK b) {k : Nat} (hk : k < 12) : fX9_isOfficer (nI k) M = some (nI (th b k).toNat, M) := by
  rw [isOfficer_x hX hO, wi_nI (by omega), nI_clamp (by omega), decide_eq_true (by omega : 0 ≤ k), decide_eq_true (by omega : k ≤ 11)]
  rfl
theorem isOpen_k (hX : MK b M) (hO : OK b) {k : Nat} (hk : k < 12) : fX9_isOpen (nI k) M = some (nI (op b k).toNat, M) := by
  unfold fX9_isOpen
  have hz := hO.2.2.2.1 k hk
  rw [isOfficer_k hX hO hk, bd_s, ib0, gd_of (inb_nI hk (by decide)), nI_clamp (by omega), hX.2.2.2.1 k hk]
  unfold op
  cases th b k
  · rfl
  · rw [if_pos rfl]
    by_cases h3 : bz b k < 3
    · rw [if_neg (nI_ge h3 (by decide)), decide_eq_true h3]; rfl
    · rw [if_pos (nI_le (by omega) (by omega)), decide_eq_false h3]; rfl
theorem isOut_k (hX : MK b M) (hO : OK b) {k : Nat} (hk : k < 12) : fX9_isOut (nI k) M = some (nI (ou b k).toNat, M) := by
  unfold fX9_isOut
  have hz := hO.2.2.2.1 k hk
  rw [isOfficer_k hX hO hk, bd_s, ib0, gd_of (inb_nI hk (by decide)), gd_of (inb_nI hk (by decide)), nI_clamp (by omega), hX.2.2.2.1 k hk]
  unfold ou
  cases th b k
  · rfl
  · rw [if_pos rfl]
    by_cases h1 : bz b k = 1
    · rw [if_pos (by rw [h1]), decide_eq_true h1]; rfl
    · rw [if_neg (fun q => h1 ((nI_eq (by omega) (by omega)).mp q)), decide_eq_false h1]
      by_cases h2 : bz b k = 2
      · rw [if_pos (by rw [h2]), decide_eq_true h2]; rfl
      · rw [if_neg (fun q => h2 ((nI_eq (by omega) (by omega)).mp q)), decide_eq_false h2]; rfl
theorem rateOf_k (hX : MK b M) (hO : OK b) {k : Nat} (hk : k < 12) : fX9_rateOf (nI k) M = some (nI (wk b k), M) := by
  unfold fX9_rateOf
  have hr := hO.2.2.1 k hk
  rw [gd_of (inb_nI hk (by decide)), nI_clamp (by omega), hX.2.2.1 k hk, gd_of (inb_nI hr (by decide)), nI_clamp (by omega), hX.2.2.2.2 _ hr]
  rfl
theorem worthOf_b (hX : MK b M) (hO : OK b) {s : Nat} (hs : s < 2 ^ 31) : ∀ n k, k ≤ 12 → 12 < k + n → fX9_worthOf_b4 n (nI s) (iI (sm (fun k => if s.testBit k then sgn k (wk b k) else 0) k)) (nI k) M = some (iI (ld b s.testBit), M) := by
  intro n
  induction n with
  | zero => intro k h1 h2; omega
  | succ n ih =>
    intro k h1 h2
    rw [fX9_worthOf_b4]
    by_cases hk : k = 12
    · subst hk; rw [if_pos (by decide)]; rfl
    · have hk' : k < 12 := by omega
      have e1 := ih (k + 1) (by omega) (by omega)
      rw [sm] at e1
      rw [if_neg (nI_ge hk' (by decide)), rateOf_k hX hO hk', bd_s, bd_s]
      have hgo : ∀ v : Int, v = sgn k (wk b k) → fX9_worthOf_b30 (fX9_worthOf_b4 n) (nI s) (iI (sm (fun k => if s.testBit k = true then sgn k (wk b k) else 0) k)) (nI k) (iI v) M = some (iI (ld b s.testBit), M) := by
        intro v hv
        unfold fX9_worthOf_b30
        rw [jbit hs (by omega), ib1, nI_1', iI_add, show nI 0 = iI 0 from rfl, iI_add]
        by_cases hz : s.testBit k = true
        · rw [if_pos hz]
          rw [if_pos hz] at e1
          rw [hv]; exact e1
        · rw [if_neg hz]
          rw [if_neg hz] at e1
          exact e1
      by_cases h6 : k < 6
      · rw [if_neg (nI_ge h6 (by decide)), iI_nI (wk b k)]
        exact hgo _ (by simp [sgn, h6])
      · rw [if_pos (nI_le (by omega) (by omega)), iI_nI (wk b k), iI_neg]
        exact hgo _ (by simp [sgn, h6])
theorem worthOf_s (hX : MK b M) (hO : OK b) {s : Nat} (hs : s < 2 ^ 31) : fX9_worthOf (nI s) M = some (iI (ld b s.testBit), M) := worthOf_b hX hO hs fu 0 (by omega) (by decide)
/-- whether all of a set are open -/
def allOp (b : Sb) (S : Nat → Bool) : Nat → Bool
  | 0 => true
  | n + 1 => allOp b S n && (!S n || op b n)
theorem allOp_iff (b : Sb) (S : Nat → Bool) (n : Nat) : allOp b S n = true ↔ ∀ k, k < n → S k = true → op b k = true := by
  induction n with
  | zero => simp [allOp]
  | succ n ih =>
    rw [allOp, Bool.and_eq_true, ih]
    constructor
    · rintro ⟨h1, h2⟩ k hk hs
      rcases Nat.lt_succ_iff_lt_or_eq.mp hk with h | h
      · exact h1 k h hs
      · subst h; rw [hs] at h2; simpa using h2
    · intro h
      refine ⟨fun k hk hs => h k (by omega) hs, ?_⟩
      cases hs : S n
      · rfl
      · rw [h n (by omega) hs]; rfl
theorem areAllOpen_b (hX : MK b M) (hO : OK b) {s : Nat} (hs : s < 2 ^ 31) : ∀ n k, k ≤ 12 → 12 < k + n → fX9_areAllOpen_b4 n (nI s) (nI (allOp b s.testBit k).toNat) (nI k) M = some (nI (allOp b s.testBit 12).toNat, M) := by
  intro n
  induction n with
  | zero => intro k h1 h2; omega
  | succ n ih =>
    intro k h1 h2
    rw [fX9_areAllOpen_b4]
    by_cases hk : k = 12
    · subst hk
      rw [if_pos (by decide)]
      cases allOp b s.testBit 12 <;> rfl
    · have hk' : k < 12 := by omega
      have e1 := ih (k + 1) (by omega) (by omega)
      rw [allOp] at e1
      rw [if_neg (nI_ge hk' (by decide)), ib0, jbit hs (by omega), ib0, isOpen_k hX hO hk', bd_s, ib0, nI_1']
      cases ha : allOp b s.testBit k
      · rw [ha] at e1
        simpa using e1
      · rw [ha] at e1
        cases hb : s.testBit k
        · rw [hb] at e1; simpa using e1
        · rw [hb] at e1
          cases ho : op b k
          · rw [ho] at e1; simpa using e1
          · rw [ho] at e1; simpa using e1
theorem areAllOpen_s (hX : MK b M) (hO : OK b) {s : Nat} (hs : s < 2 ^ 31) : fX9_areAllOpen (nI s) M = some (nI (allOp b s.testBit 12).toNat, M) := areAllOpen_b hX hO hs fu 0 (by omega) (by decide)
/-- the rates of those of a side who are open -/
def sOp (b : Sb) (a n : Nat) : Int := sm (fun k => if op b (a + k) then (wk b (a + k) : Int) else 0) n
theorem sOp_succ (b : Sb) (a n : Nat) : sOp b a (n + 1) = sOp b a n + (if op b (a + n) then (wk b (a + n) : Int) else 0) := rfl
theorem sumOpen_b (hX : MK b M) (hO : OK b) {a : Nat} (ha : a ≤ 6) : ∀ n k, k ≤ 6 → 6 < k + n → fX9_sumOpen_b4 n (nI a) (iI (sOp b a k)) (nI (a + k)) M = some (iI (sOp b a 6), M) := by
  intro n
  induction n with
  | zero => intro k h1 h2; omega
  | succ n ih =>
    intro k h1 h2
    rw [fX9_sumOpen_b4, nI_add]
    by_cases hk : k = 6
    · subst hk; rw [if_pos (nI_le (by omega) (by omega))]
    · have hk' : a + k < a + 6 := by omega
      have e1 := ih (k + 1) (by omega) (by omega)
      rw [sOp_succ] at e1
      rw [if_neg (nI_ge hk' (by omega)), isOpen_k hX hO (by omega), bd_s, ib0, rateOf_k hX hO (by omega), bd_s, nI_1', Nat.add_assoc, show nI 0 = iI 0 from rfl, iI_nI (wk b (a + k)), iI_add, iI_add]
      cases ho : op b (a + k)
      · rw [ho] at e1
        simpa using e1
      · rw [ho] at e1
        simpa using e1
theorem sumOpen_0 (hX : MK b M) (hO : OK b) : fX9_sumOpen (nI 0) M = some (iI (sOp b 0 6), M) := sumOpen_b hX hO (a := 0) (by omega) fu 0 (by omega) (by decide)
theorem sumOpen_6 (hX : MK b M) (hO : OK b) : fX9_sumOpen (nI 6) M = some (iI (sOp b 6 6), M) := sumOpen_b hX hO (a := 6) (by omega) fu 0 (by omega) (by decide)
theorem only_b {M : Mm} {k : Nat} (hk : k < 12) : ∀ n j, j ≤ k → k < j + n → fX9_only_b2 n (nI (2 ^ k)) (nI j) M = some (nI k, M) := by
  intro n
  induction n with
  | zero => intro j h1 h2; omega
  | succ n ih =>
    intro j h1 h2
    have hp : 2 ^ k < 2 ^ 31 := Nat.pow_lt_pow_right (by decide) (by omega)
    rw [fX9_only_b2, jbit hp (by omega), ib0, Nat.testBit_two_pow, nI_1']
    by_cases e : k = j
    · subst e; simp
    · rw [if_neg (by simpa using e)]
      exact ih (j + 1) (by omega) (by omega)
theorem only_k {M : Mm} {k : Nat} (hk : k < 12) : fX9_only (nI (2 ^ k)) M = some (nI k, M) := only_b hk fu 0 (by omega) (by have : fu = 5000 := rfl; omega)
end SM
