/-! rests -/
theorem cnt_congr {f g : Nat → Bool} {n : Nat} (h : ∀ k, k < n → f k = g k) : cnt f n = cnt g n := by
  induction n with
  | zero => rfl
  | succ n ih => rw [cnt, cnt, ih (fun k hk => h k (by omega)), h n (by omega)]
theorem cnt_ext {f : Nat → Bool} {n : Nat} (h : ∀ k, n ≤ k → f k = false) : ∀ d, cnt f (n + d) = cnt f n := by
  intro d
  induction d with
  | zero => rfl
  | succ d ih => rw [← Nat.add_assoc, cnt, ih, h (n + d) (by omega)]; rfl
theorem pc_bs6 (f : Nat → Bool) : pc (bs f 6) = cnt f 6 := by
  show cnt (bs f 6).testBit (6 + 6) = _
  rw [cnt_ext (fun k hk => by rw [bs_bit, decide_eq_false (by omega)]; rfl)]
  exact cnt_congr (fun k hk => by rw [bs_bit, decide_eq_true hk]; rfl)
theorem pc_bs12 (f : Nat → Bool) : pc (bs f 12) = cnt f 12 := cnt_congr (fun k hk => by rw [bs_bit, decide_eq_true hk]; rfl)
theorem outOf_b {b : Sb} {M : Mm} (hX : MK b M) (hO : OK b) {a N : Nat} (ha : a + N ≤ 12) : ∀ f k, k ≤ N → N < k + f → fX9_outOf_b5 f (nI (a + N)) (nI (cnt (fun k => ou b (a + k)) k)) (nI (a + k)) M = some (nI (cnt (fun k => ou b (a + k)) N), M) := by
  intro f
  induction f with
  | zero => intro k h1 h2; omega
  | succ f ih =>
    intro k h1 h2
    rw [fX9_outOf_b5]
    by_cases hk : k = N
    · subst hk; rw [if_pos (nI_le (Nat.le_refl _) (by omega))]
    · have e1 := ih (k + 1) (by omega) (by omega)
      rw [cnt, ← Nat.add_assoc] at e1
      rw [if_neg (nI_ge (by omega) (by omega)), isOut_k hX hO (by omega), bd_s, ib0]
      simp only [nI_add]
      cases ho : ou b (a + k)
      · rw [ho] at e1
        simpa using e1
      · rw [ho] at e1
        simpa using e1
theorem lotIn6 {c : Nat} {b : Sb} {M : Mm} (hX : XK c b M) (hO : OK b) {s : Nat} (hs : s < 2) : fX0_lotIn c (nI 6) (nI s) M = some (nI (bs (fun k => ou b (6 * s + k)) 6), M) := by
  unfold fX0_lotIn
  have hl := bs_lt (ou b) 12
  have hl2 := bs_lt (fun k => ou b (6 + k)) 6
  match s, hs with
  | 0, _ =>
    rw [crowd6 hX hO, bd_s, pk_mul, jshr_nI (by omega) (by decide), nI_63]
    simp [bs_mod]
  | 1, _ =>
    rw [crowd6 hX hO, bd_s, pk_mul, jshr_nI (by omega) (by decide), nI_63]
    rw [show 2 ^ (1 * 6) = 64 from rfl, bs_div, Nat.mod_eq_of_lt (by omega)]
abbrev R3 : Type := Nat × Nat × Nat
def enc (v : Nat) : Int32 := if v = 100 then mI 6 else nI v
def cS (G : Nat → Bool) (s : R3) (j w : Nat) : R3 := if G j then (s.1 + w, if s.2.1 = 100 then j else s.2.1, j) else s
def cL (G : Nat → Bool) (n : Nat) : Nat → Nat → Nat → R3 → R3
  | 0, _, _, s => s
  | r + 1, j, w, s => cL G n r (j + 1) (w * (n - j) / (j + 1)) (cS G s j w)
def rS (G : Nat → Bool) (s : R3) (j : Nat) : R3 := if G j then (s.1 + 1, if s.2.1 = 100 ∨ j < s.2.1 then j else s.2.1, if s.2.2 = 100 ∨ s.2.2 < j then j else s.2.2) else s
def pc6 (n : Nat) : Nat := n % 2 + n / 2 % 2 + n / 4 % 2 + n / 8 % 2 + n / 16 % 2 + n / 32 % 2
theorem pc6_ok : ∀ n, n < 64 → pc6 n = pc n := by decide +kernel
theorem pc6_lt (n : Nat) : pc6 n < 7 := by unfold pc6; omega
def rL (G : Nat → Bool) : Nat → Nat → R3 → R3
  | 0, _, s => s
  | r + 1, k, s => rL G r (k + 1) (rS G s (pc6 k))
theorem rests_dec : ∀ n, n < 7 → ∀ m, m < 128 → cL m.testBit n (n + 1) 0 1 (0, 100, 100) = rL m.testBit (2 ^ n) 0 (0, 100, 100) := by decide +kernel
def gdj (g c n j : Nat) : Bool := (decide (j = 0) || decide (c * j ≤ g)) && (decide (j = n) || decide (g ≤ c * (j + 1)))
theorem sub_lt0 {a b : Nat} (ha : a < 2 ^ 30) (hb : b < 2 ^ 30) : nI a - nI b < nI 0 ↔ a < b := by
  rw [Int32.lt_iff_toInt_lt, pk_sub_toInt ha hb, nI_toInt (by decide)]; omega
theorem lt0_sub {a b : Nat} (ha : a < 2 ^ 30) (hb : b < 2 ^ 30) : nI 0 < nI a - nI b ↔ b < a := by
  rw [Int32.lt_iff_toInt_lt, pk_sub_toInt ha hb, nI_toInt (by decide)]; omega
theorem enc_6 {v : Nat} (h : v ≤ 100) : enc v = mI 6 ↔ v = 100 := by
  unfold enc
  by_cases e : v = 100
  · rw [if_pos e]; exact ⟨fun _ => e, fun _ => rfl⟩
  · rw [if_neg e]
    refine ⟨fun z => ?_, fun z => absurd z e⟩
    have := congrArg Int32.toInt z
    rw [nI_toInt (by omega), show (mI 6).toInt = -6 by decide] at this
    omega
theorem enc_lt {v : Nat} (h : v ≤ 100) : enc v < nI 0 ↔ v = 100 := by
  unfold enc
  by_cases e : v = 100
  · rw [if_pos e]; exact ⟨fun _ => e, fun _ => by decide⟩
  · rw [if_neg e]
    exact ⟨fun z => absurd z (nI_nlt (Nat.zero_le _) (by omega)), fun z => absurd z e⟩
theorem enc_le {v j : Nat} (h : v ≤ 100) (hj : j < 100) : nI j ≤ enc v ↔ (¬ v = 100 ∧ j ≤ v) := by
  unfold enc
  by_cases e : v = 100
  · rw [if_pos e]
    refine ⟨fun z => ?_, fun z => absurd e z.1⟩
    rw [Int32.le_iff_toInt_le, nI_toInt (by omega), show (mI 6).toInt = -6 by decide] at z
    omega
  · rw [if_neg e, nI_leI (by omega) (by omega)]
    exact ⟨fun z => ⟨e, z⟩, fun z => z.2⟩
def C26 (s : R3) (M : Mm) : Prop := M.1 26 0 = nI s.1 ∧ M.1 26 1 = enc s.2.1 ∧ M.1 26 2 = enc s.2.2
def SB (s : R3) : Prop := s.2.1 ≤ 100 ∧ s.2.2 ≤ 100
theorem enc_j {j : Nat} (h : j < 100) : enc j = nI j := if_neg (by omega)
theorem cS_SB {G : Nat → Bool} {s : R3} (h : SB s) {j : Nat} (hj : j < 100) (w : Nat) : SB (cS G s j w) := by
  unfold cS
  split
  · refine ⟨?_, by show j ≤ 100; omega⟩
    show (if s.2.1 = 100 then j else s.2.1) ≤ 100
    split
    · omega
    · exact h.1
  · exact h
theorem rS_SB {G : Nat → Bool} {s : R3} (h : SB s) {j : Nat} (hj : j < 100) : SB (rS G s j) := by
  unfold rS
  split
  · constructor
    · show (if s.2.1 = 100 ∨ j < s.2.1 then j else s.2.1) ≤ 100
      split
      · omega
      · exact h.1
    · show (if s.2.2 = 100 ∨ s.2.2 < j then j else s.2.2) ≤ 100
      split
      · omega
      · exact h.2
  · exact h
theorem count_1 {n g c j w : Nat} (hn : n ≤ 6) (hg : g ≤ 99) (hc : c ≤ 99) (hj : j ≤ n) (f : Nat) (M : Mm) : fX5_count_b23 (f + 1) (nI n) (nI g) (nI c) (nI w) (nI j) M = fX5_count_b72 (fX5_count_b23 f) (nI n) (nI g) (nI c) (nI w) (nI j) (nI (decide (j = 0) || decide (c * j ≤ g)).toNat) (nI (decide (j = n) || decide (g ≤ c * (j + 1))).toNat) M := by
  rw [fX5_count_b23]
  unfold fX5_count_b43 fX5_count_b48 fX5_count_b67
  have b1 : c * j ≤ 99 * 6 := Nat.mul_le_mul hc (by omega)
  have b2 : c * (j + 1) ≤ 99 * 7 := Nat.mul_le_mul hc (by omega)
  rw [if_neg (nI_nlt hj (by omega)), nI_1', pk_mul, pk_mul]
  have e1 : nI j = nI 0 ↔ j = 0 := nI_z (by omega)
  have e2 : nI g - nI (c * j) < nI 0 ↔ ¬ c * j ≤ g := by rw [sub_lt0 (by omega) (by omega)]; omega
  have e3 : nI j = nI n ↔ j = n := nI_eq (by omega) (by omega)
  have e4 : nI 0 < nI g - nI (c * (j + 1)) ↔ ¬ g ≤ c * (j + 1) := by rw [lt0_sub (by omega) (by omega)]; omega
  simp only [e1, e2, e3, e4]
  have key : ∀ A : Bool, (if j = n then fX5_count_b72 (fX5_count_b23 f) (nI n) (nI g) (nI c) (nI w) (nI j) (nI A.toNat) (nI 1) M else if ¬ g ≤ c * (j + 1) then fX5_count_b72 (fX5_count_b23 f) (nI n) (nI g) (nI c) (nI w) (nI j) (nI A.toNat) (nI 0) M else fX5_count_b72 (fX5_count_b23 f) (nI n) (nI g) (nI c) (nI w) (nI j) (nI A.toNat) (nI 1) M) = fX5_count_b72 (fX5_count_b23 f) (nI n) (nI g) (nI c) (nI w) (nI j) (nI A.toNat) (nI (decide (j = n) || decide (g ≤ c * (j + 1))).toNat) M := by
    intro A
    by_cases q1 : j = n
    · rw [if_pos q1, decide_eq_true q1]; rfl
    · rw [if_neg q1, decide_eq_false q1]
      by_cases q2 : g ≤ c * (j + 1)
      · rw [if_neg (fun z => z q2), decide_eq_true q2]; rfl
      · rw [if_pos q2, decide_eq_false q2]; rfl
  by_cases q1 : j = 0
  · rw [if_pos q1, decide_eq_true q1]; exact key true
  · rw [if_neg q1, decide_eq_false q1]
    by_cases q2 : c * j ≤ g
    · rw [if_neg (fun z => z q2), decide_eq_true q2]; exact key true
    · rw [if_pos q2, decide_eq_false q2]; exact key false
theorem count_b {n g c m : Nat} (hn : n ≤ 6) (hg : g ≤ 99) (hc : c ≤ 99) (hm : ∀ j, j < 7 → m.testBit j = gdj g c n j) : ∀ f r j w s M, j + r = n + 1 → r < f → w ≤ 6 ^ j → SB s → C26 s M → ∃ M', fX5_count_b23 f (nI n) (nI g) (nI c) (nI w) (nI j) M = some ((), M') ∧ C26 (cL m.testBit n r j w s) M' ∧ ∀ a, a ≠ 26 → M'.1 a = M.1 a := by
  intro f
  induction f with
  | zero => intro r j w s M _ h; omega
  | succ f ih =>
    intro r j w s M hj hr hw hs hC
    cases r with
    | zero =>
      rw [fX5_count_b23, if_pos (nI_lt (by omega) (by omega))]
      exact ⟨M, rfl, hC, fun _ _ => rfl⟩
    | succ r =>
      rw [count_1 hn hg hc (by omega)]
      have hmj := hm j (by omega)
      have hp : 6 ^ j ≤ 6 ^ 6 := Nat.pow_le_pow_right (by decide) (by omega)
      have hw2 : w * (n - j) ≤ 6 ^ j * 6 := Nat.mul_le_mul hw (by omega)
      have hw3 : w * (n - j) / (j + 1) ≤ 6 ^ (j + 1) := by
        rw [Nat.pow_succ]
        exact Nat.le_trans (Nat.div_le_self _ _) hw2
      have t : ∀ s' M', SB s' → C26 s' M' → ∃ M'', fX5_count_b123 (fX5_count_b23 f) (nI n) (nI g) (nI c) (nI w) (nI j) M' = some ((), M'') ∧ C26 (cL m.testBit n r (j + 1) (w * (n - j) / (j + 1)) s') M'' ∧ ∀ a, a ≠ 26 → M''.1 a = M'.1 a := by
        intro s' M' hs' hC'
        unfold fX5_count_b123
        have hnz : ¬ nI (j + 1) = nI 0 := fun z => by have := (nI_z (k := j + 1) (by omega)).mp z; omega
        rw [nI_1', gd_of (decide_eq_true hnz), pk_sub (by omega), pk_mul, pk_div (by omega) (by omega) (by omega)]
        exact ih r (j + 1) (w * (n - j) / (j + 1)) s' M' (by omega) (by omega) hw3 hs' hC'
      have hcl : cL m.testBit n (r + 1) j w s = cL m.testBit n r (j + 1) (w * (n - j) / (j + 1)) (cS m.testBit s j w) := rfl
      rw [hcl]
      unfold fX5_count_b72
      rw [ib0, ib0]
      unfold gdj at hmj
      cases hA : (decide (j = 0) || decide (c * j ≤ g))
      · have e : cS m.testBit s j w = s := by unfold cS; rw [hmj, hA]; rfl
        rw [e]; exact t s M hs hC
      · cases hB : (decide (j = n) || decide (g ≤ c * (j + 1)))
        · have e : cS m.testBit s j w = s := by unfold cS; rw [hmj, hA, hB]; rfl
          rw [e]; exact t s M hs hC
        · have e : cS m.testBit s j w = (s.1 + w, if s.2.1 = 100 then j else s.2.1, j) := by unfold cS; rw [hmj, hA, hB]; rfl
          have hs2 := cS_SB (G := m.testBit) hs (show j < 100 by omega) w
          rw [e] at hs2 ⊢
          simp only [if_true]
          unfold fX5_count_b114
          rw [sI_j _ (by decide), hC.1, hC.2.1, nI_add]
          have e6 := enc_6 hs.1
          have hgo : ∀ v, v = (if s.2.1 = 100 then j else s.2.1) → ∃ M'', fX5_count_b123 (fX5_count_b23 f) (nI n) (nI g) (nI c) (nI w) (nI j) (sI (sI (sI M 26 0 (nI (s.1 + w))) 26 1 (enc v)) 26 2 (nI j)) = some ((), M'') ∧ C26 (cL m.testBit n r (j + 1) (w * (n - j) / (j + 1)) (s.1 + w, if s.2.1 = 100 then j else s.2.1, j)) M'' ∧ ∀ a, a ≠ 26 → M''.1 a = M.1 a := by
            intro v hv
            obtain ⟨M2, m1, m2, m3⟩ := t _ (sI (sI (sI M 26 0 (nI (s.1 + w))) 26 1 (enc v)) 26 2 (nI j)) hs2 ⟨by rw [sI_j _ (by decide), sI_j _ (by decide), sI_s], by rw [sI_j _ (by decide), sI_s, hv], by rw [sI_s]; exact (enc_j (by omega)).symm⟩
            exact ⟨M2, m1, m2, fun a ha => by rw [m3 a ha, sI_n ha, sI_n ha, sI_n ha]⟩
          by_cases q : s.2.1 = 100
          · rw [if_pos (e6.mpr q)]
            have := hgo j (by rw [if_pos q])
            rw [enc_j (by omega)] at this
            exact this
          · rw [if_neg (fun z => q (e6.mp z))]
            exact hgo s.2.1 (by rw [if_neg q])
theorem rests_1 {n g c k : Nat} {v4 v6 v7 v8 : Int32} (hn : n ≤ 6) (hg : g ≤ 99) (hc : c ≤ 99) (hk : k < 2 ^ n) (f : Nat) (M : Mm) : fX9_rests_b81 (f + 1) (nI g) (nI c) v4 (nI n) v6 v7 v8 (nI k) M = fX9_rests_b134 (fX9_rests_b81 f) (nI g) (nI c) v4 (nI n) v6 v7 v8 (nI k) (nI (pc6 k)) (nI (gdj g c n (pc6 k)).toNat) M := by
  have h2 : 2 ^ n ≤ 2 ^ 6 := Nat.pow_le_pow_right (by decide) hn
  have hp := pc6_lt k
  have hjn : pc6 k ≤ 6 := by omega
  rw [fX9_rests_b81, j2k (by omega), if_neg (nI_ge hk (by omega)), ones_n (by omega), bd_s, ← pc6_ok k (by omega)]
  generalize pc6 k = j at hp hjn
  unfold fX9_rests_b111 fX9_rests_b129 fX9_rests_b133
  have b1 : c * j ≤ 99 * 6 := Nat.mul_le_mul hc (by omega)
  have b2 : c * (j + 1) ≤ 99 * 7 := Nat.mul_le_mul hc (by omega)
  rw [nI_1', pk_mul, pk_mul]
  have e1 : nI j = nI 0 ↔ j = 0 := nI_z (by omega)
  have e2 : nI g - nI (c * j) < nI 0 ↔ ¬ c * j ≤ g := by rw [sub_lt0 (by omega) (by omega)]; omega
  have e3 : nI j = nI n ↔ j = n := nI_eq (by omega) (by omega)
  have e4 : nI 0 < nI g - nI (c * (j + 1)) ↔ ¬ g ≤ c * (j + 1) := by rw [lt0_sub (by omega) (by omega)]; omega
  simp only [e1, e2, e3, e4]
  unfold gdj
  by_cases q1 : j = 0
  · rw [if_pos q1, decide_eq_true q1, Bool.true_or, Bool.true_and]
    by_cases q3 : j = n
    · rw [if_pos q3, decide_eq_true q3]; rfl
    · rw [if_neg q3, decide_eq_false q3]
      by_cases q4 : g ≤ c * (j + 1)
      · rw [if_neg (fun z => z q4), decide_eq_true q4]; rfl
      · rw [if_pos q4, decide_eq_false q4]; rfl
  · rw [if_neg q1, decide_eq_false q1, Bool.false_or]
    by_cases q2 : c * j ≤ g
    · rw [if_neg (fun z => z q2), decide_eq_true q2, Bool.true_and]
      by_cases q3 : j = n
      · rw [if_pos q3, decide_eq_true q3]; rfl
      · rw [if_neg q3, decide_eq_false q3]
        by_cases q4 : g ≤ c * (j + 1)
        · rw [if_neg (fun z => z q4), decide_eq_true q4]; rfl
        · rw [if_pos q4, decide_eq_false q4]; rfl
    · rw [if_pos q2, decide_eq_false q2]; rfl
theorem rests_b {n g c m : Nat} {v4 : Int32} (hn : n ≤ 6) (hg : g ≤ 99) (hc : c ≤ 99) (hm : ∀ j, j < 7 → m.testBit j = gdj g c n j) (M : Mm) : ∀ f r k s, k + r = 2 ^ n → r < f → SB s → fX9_rests_b81 f (nI g) (nI c) v4 (nI n) (nI s.1) (enc s.2.1) (enc s.2.2) (nI k) M = fX9_rests_b204 v4 (nI (rL m.testBit r k s).1) (enc (rL m.testBit r k s).2.1) (enc (rL m.testBit r k s).2.2) M := by
  intro f
  have h2 : 2 ^ n ≤ 2 ^ 6 := Nat.pow_le_pow_right (by decide) hn
  induction f with
  | zero => intro r k s _ h; omega
  | succ f ih =>
    intro r k s hk hr hs
    cases r with
    | zero =>
      rw [fX9_rests_b81, j2k (by omega), if_pos (nI_le (by omega) (by omega))]
      rfl
    | succ r =>
      rw [rests_1 hn hg hc (by omega)]
      have hp := pc6_lt k
      have hmj := hm (pc6 k) hp
      have hrl : rL m.testBit (r + 1) k s = rL m.testBit r (k + 1) (rS m.testBit s (pc6 k)) := rfl
      have hs2 := rS_SB (G := m.testBit) hs (show pc6 k < 100 by omega)
      rw [hrl, ← ih r (k + 1) (rS m.testBit s (pc6 k)) (by omega) (by omega) hs2]
      generalize pc6 k = j at hp hmj hs2
      unfold fX9_rests_b134 fX9_rests_b148 fX9_rests_b168 fX9_rests_b173 fX9_rests_b175
      simp only [nI_add, Nat.add_zero, ib0]
      cases hG : gdj g c n j
      · have e : rS m.testBit s j = s := by unfold rS; rw [hmj, hG]; rfl
        rw [e]; rfl
      · have e : rS m.testBit s j = (s.1 + 1, if s.2.1 = 100 ∨ j < s.2.1 then j else s.2.1, if s.2.2 = 100 ∨ s.2.2 < j then j else s.2.2) := by unfold rS; rw [hmj, hG]; rfl
        rw [e]
        simp only [if_true]
        have z1 := enc_lt hs.1
        have z2 : ¬ s.2.1 = 100 → (enc s.2.1 ≤ nI j ↔ s.2.1 ≤ j) := fun h => by
          unfold enc
          rw [if_neg h, nI_leI (by have := hs.1; omega) (by omega)]
        have z3 := enc_le hs.2 (show j < 100 by omega)
        have ej : enc j = nI j := enc_j (by omega)
        have last : ∀ u, (if nI j ≤ enc s.2.2 then fX9_rests_b81 f (nI g) (nI c) v4 (nI n) (nI (s.1 + 1)) u (enc s.2.2) (nI (k + 1)) M else fX9_rests_b81 f (nI g) (nI c) v4 (nI n) (nI (s.1 + 1)) u (nI j) (nI (k + 1)) M) = fX9_rests_b81 f (nI g) (nI c) v4 (nI n) (nI (s.1 + 1)) u (enc (if s.2.2 = 100 ∨ s.2.2 < j then j else s.2.2)) (nI (k + 1)) M := by
          intro u
          by_cases q : s.2.2 = 100 ∨ s.2.2 < j
          · rw [if_neg (fun z => by have := z3.mp z; omega), if_pos q, ej]
          · rw [if_pos (z3.mpr (by omega)), if_neg q]
        rw [last, last]
        by_cases q : s.2.1 = 100
        · rw [if_pos (z1.mpr q), if_pos (show s.2.1 = 100 ∨ j < s.2.1 from Or.inl q), ej]
        · rw [if_neg (fun z => q (z1.mp z))]
          by_cases q2 : s.2.1 ≤ j
          · rw [if_pos ((z2 q).mpr q2), if_neg (show ¬ (s.2.1 = 100 ∨ j < s.2.1) by omega)]
          · rw [if_neg (fun z => q2 ((z2 q).mp z)), if_pos (show s.2.1 = 100 ∨ j < s.2.1 by omega), ej]
theorem op_rests : Op_rests Rl := by
  intro x1 x2 x3 x4 Mx M_ ⟨S, hS, hX, hM⟩
  have hO := hS.1
  unfold fX8_rests fX9_rests
  rw [isWithin_nI x1 (by decide) (by decide), bd_s, isWithin_nI x2 (by decide) (by decide), bd_s, isWithin_nI x3 (by decide) (by decide), bd_s, isWithin_nI x4 (by decide) (by decide), bd_s, in_nI x1 (by decide) (by decide), bd_s, in_nI x2 (by decide) (by decide), bd_s, in_nI x3 (by decide) (by decide), bd_s, in_nI x4 (by decide) (by decide), bd_s]
  simp only [ib0]
  cases h1 : wi x1 0 1
  · exact ⟨_, _, _, rfl, rfl, S, hS, hX, hM⟩
  cases h2 : wi x2 0 99
  · exact ⟨_, _, _, rfl, rfl, S, hS, hX, hM⟩
  cases h3 : wi x3 0 99
  · exact ⟨_, _, _, rfl, rfl, S, hS, hX, hM⟩
  cases h4 : wi x4 0 2
  · exact ⟨_, _, _, rfl, rfl, S, hS, hX, hM⟩
  simp only [if_true]
  obtain ⟨sd, _, hsd, rfl⟩ := wi_of (by decide) h1
  obtain ⟨g, _, hg, rfl⟩ := wi_of (by decide) h2
  obtain ⟨c, _, hc, rfl⟩ := wi_of (by decide) h3
  obtain ⟨n, hnd⟩ : ∃ n, n = cnt (fun k => ou S.1 (6 * sd + k)) 6 := ⟨_, rfl⟩
  have hn : n ≤ 6 := by rw [hnd]; exact cnt_le _ _
  have hl := bs_lt (fun k => ou S.1 (6 * sd + k)) 6
  obtain ⟨m, hmd⟩ : ∃ m, m = bs (gdj g c n) 7 := ⟨_, rfl⟩
  have hm : ∀ j, j < 7 → m.testBit j = gdj g c n j := fun j hj => by rw [hmd, bs_bit, decide_eq_true hj]; rfl
  have hm2 : m < 128 := by rw [hmd]; exact bs_lt _ 7
  have ho := outOf_b hM.1 hO (a := 6 * sd) (N := 6) (by omega) fu 0 (by omega) (by decide)
  rw [← hnd] at ho
  rw [lotIn6 hX.1 hO (by omega), bd_s, bitCount_n (by omega), bd_s, pc_bs6, ← hnd]
  unfold fX5_count fX9_outOf
  rw [pk_mul, nI_add]
  have ho : fX9_outOf_b5 fu (nI (6 * sd + 6)) (nI 0) (nI (6 * sd)) M_ = some (nI n, M_) := ho
  rw [ho, bd_s]
  obtain ⟨M1, e1, c1, f1⟩ := count_b hn hg hc hm fu (n + 1) 0 1 (0, 100, 100) (sI (sI (sI Mx 26 0 (nI 0)) 26 1 (mI 6)) 26 2 (mI 6)) (by omega) (by have : fu = 5000 := rfl; omega) (by decide) ⟨Nat.le_refl _, Nat.le_refl _⟩ ⟨by rw [sI_j _ (by decide), sI_j _ (by decide), sI_s], by rw [sI_j _ (by decide), sI_s]; rfl, by rw [sI_s]; rfl⟩
  have h26 : 2 ^ n ≤ 2 ^ 6 := Nat.pow_le_pow_right (by decide) hn
  have r1 := rests_b (v4 := x4) hn hg hc hm M_ fu (2 ^ n) 0 (0, 100, 100) (by omega) (by have : fu = 5000 := rfl; omega) ⟨Nat.le_refl _, Nat.le_refl _⟩
  have r1 : fX9_rests_b81 fu (nI g) (nI c) x4 (nI n) (nI 0) (mI 6) (mI 6) (nI 0) M_ = _ := r1
  rw [e1, bd_s, r1, ← rests_dec n (by omega) m hm2, c1.1, c1.2.1, c1.2.2]
  unfold fX9_rests_b204
  have hrel : Rl M1 M_ := ⟨S, hS, RX_fr (fun a ha => by rw [f1 a (by omega), sI_n (by omega), sI_n (by omega), sI_n (by omega)]) hX, hM⟩
  split
  · exact ⟨_, _, _, rfl, rfl, hrel⟩
  · split
    · exact ⟨_, _, _, rfl, rfl, hrel⟩
    · exact ⟨_, _, _, rfl, rfl, hrel⟩
