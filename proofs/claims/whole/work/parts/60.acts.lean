/-! acts: why not, and what they do -/
def okst (d z : Nat) : Bool := if d = 0 then decide (z = 0) else if d = 1 then decide (z = 1) else if d = 2 then (decide (z = 1) || decide (z = 2)) else decide (z < 3)
def whyD (b : Sb) (d k : Nat) : Nat := if th b k = false then 1 else if okst d (bz b k) = false then 3 else if d = 3 ∧ br b k = 5 then 4 else if d = 0 ∧ bt b = 0 then 5 else 0
def whyE (b : Sb) (lot : Nat) (tw : Bool) : Nat := if ¬ dif lot (bp b) = 0 then 1 else if tw = true then 2 else if allOp b lot.testBit 12 = false then 3 else if bt b = 0 then 5 else if ld b lot.testBit = 0 then 0 else 6
def doD (b : Sb) (d k : Nat) : Sb := if d = 0 then ((bp b, bt b, br b, un (bz b) k 1, bw b), b.2) else if d = 1 then ((bp b, bt b, br b, un (bz b) k 2, bw b), b.2) else if d = 2 then ((bp b, bt b - 1, br b, un (bz b) k 4, bw b), b.2) else ((bp b, bt b, un (br b) k (br b k + 1), bz b, bw b), b.2)
def doE (b : Sb) (lot : Nat) : Sb := ((bp b, min 9 (bt b + 1), br b, (fun k => if lot.testBit k then 3 else bz b k), bw b), b.2)
theorem whyD_lt (b : Sb) (d k : Nat) : whyD b d k < 7 := by unfold whyD; repeat' split <;> first | decide | skip
theorem whyE_lt (b : Sb) (lot : Nat) (tw : Bool) : whyE b lot tw < 7 := by unfold whyE; repeat' split <;> first | decide | skip
theorem doD_OK {b : Sb} (hO : OK b) {d k : Nat} (hd : d < 4) (hw : whyD b d k = 0) (hk : k < 12) : OK (doD b d k) := by
  obtain ⟨h1, h2, h3, h4, h5⟩ := hO
  have hz : ∀ v, v < 5 → ∀ j, j < 12 → un (bz b) k v j < 5 := by
    intro v hv j hj; unfold un; split
    · exact hv
    · exact h4 j hj
  unfold doD
  split
  · exact ⟨h1, h2, h3, hz 1 (by decide), h5⟩
  · split
    · exact ⟨h1, h2, h3, hz 2 (by decide), h5⟩
    · split
      · exact ⟨h1, by show bt b - 1 ≤ 9; omega, h3, hz 4 (by decide), h5⟩
      · refine ⟨h1, h2, fun j hj => ?_, h4, h5⟩
        show un (br b) k (br b k + 1) j < 6
        unfold un
        split
        · have := h3 k hk
          have hne : ¬ br b k = 5 := by
            intro e
            unfold whyD at hw
            split at hw
            · cases hw
            · split at hw
              · cases hw
              · rw [if_pos ⟨by omega, e⟩] at hw
                cases hw
          omega
        · exact h3 j hj
theorem doE_OK {b : Sb} (hO : OK b) (lot : Nat) : OK (doE b lot) := by
  obtain ⟨h1, h2, h3, h4, h5⟩ := hO
  refine ⟨h1, by show min 9 (bt b + 1) ≤ 9; omega, h3, fun j hj => ?_, h5⟩
  show (if lot.testBit j = true then 3 else bz b j) < 5
  split
  · decide
  · exact h4 j hj
theorem okst_bit {d z : Nat} (hd : d < 4) (hz : z < 5) : ((if d = 0 then 1 else if d = 1 then 2 else if d = 2 then 6 else 7 : Nat)).testBit z = okst d z := by
  match d, hd with
  | 0, _ => match z, hz with
    | 0, _ => rfl
    | 1, _ => rfl
    | 2, _ => rfl
    | 3, _ => rfl
    | 4, _ => rfl
  | 1, _ => match z, hz with
    | 0, _ => rfl
    | 1, _ => rfl
    | 2, _ => rfl
    | 3, _ => rfl
    | 4, _ => rfl
  | 2, _ => match z, hz with
    | 0, _ => rfl
    | 1, _ => rfl
    | 2, _ => rfl
    | 3, _ => rfl
    | 4, _ => rfl
  | 3, _ => match z, hz with
    | 0, _ => rfl
    | 1, _ => rfl
    | 2, _ => rfl
    | 3, _ => rfl
    | 4, _ => rfl
theorem statesFor_d {d : Nat} (hd : d < 4) (M : Mm) : fX0_statesFor (nI d) M = some (nI (if d = 0 then 1 else if d = 1 then 2 else if d = 2 then 6 else 7), M) := by
  match d, hd with
  | 0, _ => rfl
  | 1, _ => rfl
  | 2, _ => rfl
  | 3, _ => rfl
theorem whyNot_c {c : Nat} {b : Sb} {M : Mm} (hX : XK c b M) (hO : OK b) {k d : Nat} (hk : k < 12) (hd : d < 4) : fX0_whyNot c (nI k) (nI d) M = some (nI (whyD b d k), M) := by
  unfold fX0_whyNot fX0_whyNot_b45 whyD
  have hz := hO.2.2.2.1 k hk
  have hrk := hO.2.2.1 k hk
  have ht := hO.2.1
  have hs : (if d = 0 then 1 else if d = 1 then 2 else if d = 2 then 6 else 7 : Nat) < 2 ^ 31 := by
    split
    · decide
    · split
      · decide
      · split <;> decide
  rw [isThere_k hX hO hk, bd_s, ib0, statesFor_d hd, bd_s, gd_of (inb_nI hk (by decide)), gd_of (inb_nI hk (by decide)), nI_clamp (by omega), hX.2.2.2.1 k hk, hX.2.2.1 k hk, hX.2.1, jbit hs (by omega), okst_bit hd hz, ib0]
  have e3 : nI d = nI 3 ↔ d = 3 := nI_eq (by omega) (by decide)
  have e0 : nI d = nI 0 ↔ d = 0 := nI_eq (by omega) (by decide)
  have et : nI (bt b) = nI 0 ↔ bt b = 0 := nI_eq (by omega) (by decide)
  have e5 : nI (br b k) < nI 5 ↔ br b k < 5 := nI_ltI (by omega) (by decide)
  simp only [e3, e0, et, e5]
  cases th b k
  · rfl
  · cases okst d (bz b k)
    · rfl
    · simp only [if_true, Bool.true_eq_false, if_false]
      by_cases h3 : d = 3
      · subst h3
        by_cases h5 : br b k < 5
        · simp [h5, show ¬ br b k = 5 by omega]
        · simp [show br b k = 5 by omega]
      · by_cases h0 : d = 0
        · subst h0
          by_cases h : bt b = 0
          · simp [h]
          · simp [h]
        · simp [h3, h0]
theorem dif_op {b : Sb} {lot : Nat} (hl : lot < 4096) : dif lot (bs (op b) 12) = 0 ↔ allOp b lot.testBit 12 = true := by
  rw [dif_zero, allOp_iff]
  constructor
  · intro h k hk hs
    have := h k hs
    rw [bs_bit, Bool.and_eq_true] at this
    exact this.2
  · intro h i hi
    have hi12 : i < 12 := by
      rcases Nat.lt_or_ge i 12 with h1 | h1
      · exact h1
      · rw [Nat.testBit_lt_two_pow (Nat.lt_of_lt_of_le (show lot < 2 ^ 12 by simpa using hl) (Nat.pow_le_pow_right (n := 2) (by decide) h1))] at hi
        cases hi
    rw [bs_bit, decide_eq_true hi12, h i hi12 hi]; rfl
theorem whyEx_c {c : Nat} {b : Sb} {M : Mm} (hX : XK c b M) (hO : OK b) {lot : Nat} (hl : lot < 4096) (tw : Bool) : fX0_whyNoExchange c (nI lot) (nI tw.toNat) M = some (nI (whyE b lot tw), M) := by
  unfold fX0_whyNoExchange whyE
  have ht := hO.2.1
  have h1 : dif lot (bp b) < 2 ^ 12 := dif_lt (by simpa using hl)
  have h2 : dif lot (bs (op b) 12) < 2 ^ 12 := dif_lt (by simpa using hl)
  rw [hX.1, nI_dif, ib0, crowd7 hX hO, bd_s, nI_dif, hX.2.1, lead_s hX hO, bd_s]
  have e1 : nI (dif lot (bp b)) = nI 0 ↔ dif lot (bp b) = 0 := nI_z (by omega)
  have e2 : nI (dif lot (bs (op b) 12)) = nI 0 ↔ allOp b lot.testBit 12 = true := by rw [nI_z (by omega), dif_op hl]
  have et : nI (bt b) = nI 0 ↔ bt b = 0 := nI_eq (by omega) (by decide)
  simp only [e1, e2, et, ld_z hO]
  by_cases hd : dif lot (bp b) = 0
  · have hld : ld b (fun k => lot.testBit k && th b k) = ld b lot.testBit := ld_congr (fun k hk => by
      cases hb : lot.testBit k
      · rfl
      · have := dif_zero.mp hd k hb
        unfold th
        rw [this]; rfl)
    simp only [hd, hld, if_true, not_true, if_false]
    cases tw
    · simp only [Bool.false_eq_true, if_false]
      cases allOp b lot.testBit 12
      · rfl
      · simp only [if_true, Bool.true_eq_false, if_false]
        by_cases h0 : bt b = 0
        · rw [if_pos h0, if_pos h0]
        · rw [if_neg h0, if_neg h0]
          by_cases hz : ld b lot.testBit = 0
          · rw [if_pos hz, if_pos hz]
          · rw [if_neg hz, if_neg hz]
    · rfl
  · simp only [hd, if_false, not_false_eq_true, if_true]
def FrC (c : Nat) (M M' : Mm) : Prop := (∀ a, ¬ (c ≤ a ∧ a ≤ c + 2) → M'.1 a = M.1 a) ∧ ∀ j, j ≠ 1 → M'.1 c j = M.1 c j
theorem jmin_nI {a b : Nat} (ha : a < 2 ^ 31) (hb : b < 2 ^ 31) : jmin (nI a) (nI b) = nI (min a b) := by
  unfold jmin
  by_cases h : b < a
  · rw [if_pos (nI_lt h ha), Nat.min_eq_right (by omega)]
  · rw [if_neg (nI_nlt (by omega) hb), Nat.min_eq_left (by omega)]
theorem jmax_nI {a b : Nat} (ha : a < 2 ^ 31) (hb : b < 2 ^ 31) : jmax (nI a) (nI b) = nI (max a b) := by
  unfold jmax
  by_cases h : a < b
  · rw [if_pos (nI_lt h hb), Nat.max_eq_right (by omega)]
  · rw [if_neg (nI_nlt (by omega) ha), Nat.max_eq_left (by omega)]
theorem jmax0_sub {a b : Nat} (ha : a < 2 ^ 30) (hb : b < 2 ^ 30) : jmax (nI 0) (nI a - nI b) = nI (a - b) := by
  by_cases h : b ≤ a
  · rw [pk_sub h, jmax_nI (by decide) (by omega), Nat.max_eq_right (by omega)]
  · unfold jmax
    have : nI a - nI b < nI 0 := pk_sneg hb (by omega)
    rw [if_neg (fun z => by rw [Int32.lt_iff_toInt_lt] at z this; omega), show a - b = 0 by omega]
theorem XK_z {c : Nat} {b : Sb} {M : Mm} (hX : XK c b M) (k v : Nat) : XK c ((bp b, bt b, br b, un (bz b) k v, bw b), b.2) (sI M (c + 2) k (nI v)) := by
  obtain ⟨x1, x2, x3, x4, x5⟩ := hX
  exact ⟨by rw [sI_n (by omega)]; exact x1, by rw [sI_n (by omega)]; exact x2, fun j hj => by rw [sI_n (by omega)]; exact x3 j hj, fun j hj => un_nI (x4 j hj), fun j hj => by rw [sI_n (by omega)]; exact x5 j hj⟩
theorem XK_t {c : Nat} {b : Sb} {M : Mm} (hX : XK c b M) (t : Nat) : XK c (sTrust b t) (sI M c 1 (nI t)) := by
  obtain ⟨x1, x2, x3, x4, x5⟩ := hX
  exact ⟨by rw [sI_j _ (by decide)]; exact x1, sI_s _ _ _ _, fun j hj => by rw [sI_n (by omega)]; exact x3 j hj, fun j hj => by rw [sI_n (by omega)]; exact x4 j hj, fun j hj => by rw [sI_n (by omega)]; exact x5 j hj⟩
theorem XK_r {c : Nat} {b : Sb} {M : Mm} (hX : XK c b M) (k v : Nat) : XK c ((bp b, bt b, un (br b) k v, bz b, bw b), b.2) (sI M (c + 1) k (nI v)) := by
  obtain ⟨x1, x2, x3, x4, x5⟩ := hX
  exact ⟨by rw [sI_n (by omega)]; exact x1, by rw [sI_n (by omega)]; exact x2, fun j hj => un_nI (x3 j hj), fun j hj => by rw [sI_n (by omega)]; exact x4 j hj, fun j hj => by rw [sI_n (by omega)]; exact x5 j hj⟩
theorem carry_c {c : Nat} {b : Sb} {M : Mm} (hX : XK c b M) (hO : OK b) {k d : Nat} (hk : k < 12) (hd : d < 4) (hw : whyD b d k = 0) : ∃ M', fX0_carryOut c (nI k) (nI d) M = some ((), M') ∧ XK c (doD b d k) M' ∧ FrC c M M' := by
  unfold fX0_carryOut
  rw [gd_of (inb_nI hk (by decide)), gd_of (inb_nI hk (by decide)), gd_of (inb_nI hk (by decide)), gd_of (inb_nI hk (by decide)), gd_of (inb_nI hk (by decide)), nI_clamp (by omega)]
  have hfz : ∀ v : Int32, FrC c M (sI M (c + 2) k v) := fun v => ⟨fun a ha => sI_n (by omega), fun j hj => by rw [sI_n (by omega)]⟩
  have ht := hO.2.1
  match d, hd with
  | 0, _ => exact ⟨_, rfl, XK_z hX k 1, hfz _⟩
  | 1, _ => exact ⟨_, rfl, XK_z hX k 2, hfz _⟩
  | 2, _ =>
    have e : jmax (nI 0) ((sI M (c + 2) k (nI 4)).1 c 1 - nI 1) = nI (bt b - 1) := by
      rw [sI_n (by omega), hX.2.1, jmax0_sub (by omega) (by decide)]
    refine ⟨_, ?_, XK_t (XK_z hX k 4) (bt b - 1), ?_⟩
    · rw [if_neg (by decide), if_neg (by decide), if_pos rfl, e]
    · exact ⟨fun a ha => by rw [sI_n (by omega), sI_n (by omega)], fun j hj => by rw [sI_j _ hj, sI_n (by omega)]⟩
  | 3, _ =>
    have hrk := hO.2.2.1 k hk
    have hne : ¬ br b k = 5 := by
      intro e
      unfold whyD at hw
      split at hw
      · cases hw
      · split at hw
        · cases hw
        · rw [if_pos ⟨rfl, e⟩] at hw; cases hw
    have e : jmin (nI 5) (M.1 (c + 1) k + nI 1) = nI (br b k + 1) := by
      rw [hX.2.2.1 k hk, nI_1', jmin_nI (by decide) (by omega), Nat.min_eq_right (by omega)]
    refine ⟨_, ?_, XK_r hX k (br b k + 1), ?_⟩
    · rw [if_neg (by decide), if_neg (by decide), if_neg (by decide), e]
    · exact ⟨fun a ha => sI_n (by omega), fun j hj => by rw [sI_n (by omega)]⟩
theorem setFree_b {c : Nat} {b : Sb} {lot : Nat} (hl : lot < 4096) : ∀ n k M, k ≤ 12 → 12 < k + n → XK c ((bp b, bt b, br b, (fun j => if lot.testBit j && decide (j < k) then 3 else bz b j), bw b), b.2) M → ∃ M', fX0_setFree_b2 c n (nI lot) (nI k) M = fX0_setFree_b29 c M' ∧ XK c ((bp b, bt b, br b, (fun j => if lot.testBit j then 3 else bz b j), bw b), b.2) M' ∧ FrC c M M' := by
  intro n
  induction n with
  | zero => intro k M h1 h2; omega
  | succ n ih =>
    intro k M h1 h2 hX
    rw [fX0_setFree_b2]
    by_cases hk : k = 12
    · subst hk
      rw [if_pos (by decide)]
      refine ⟨M, rfl, ⟨hX.1, hX.2.1, hX.2.2.1, fun j hj => ?_, hX.2.2.2.2⟩, fun _ _ => rfl, fun _ _ => rfl⟩
      have := hX.2.2.2.1 j hj
      rw [this]
      show nI (if (lot.testBit j && decide (j < 12)) = true then 3 else bz b j) = nI (if lot.testBit j = true then 3 else bz b j)
      rw [decide_eq_true hj, Bool.and_true]
    · have hk' : k < 12 := by omega
      rw [if_neg (nI_ge hk' (by decide)), j2k (by omega), nI_and, nI_1', gd_of (inb_nI hk' (by decide)), nI_clamp (by omega)]
      have e1 : nI (lot &&& 2 ^ k) = nI 0 ↔ lot.testBit k = false := and2k (by omega)
      simp only [e1]
      cases hb : lot.testBit k
      · simp only [if_true]
        apply ih (k + 1) M (by omega) (by omega)
        refine ⟨hX.1, hX.2.1, hX.2.2.1, fun j hj => ?_, hX.2.2.2.2⟩
        rw [hX.2.2.2.1 j hj]
        show nI (if (lot.testBit j && decide (j < k)) = true then 3 else bz b j) = nI (if (lot.testBit j && decide (j < k + 1)) = true then 3 else bz b j)
        by_cases e : j = k
        · subst e; rw [hb]; rfl
        · rw [show decide (j < k + 1) = decide (j < k) from decide_eq_decide.mpr (by omega)]
      · simp only [Bool.true_eq_false, if_false]
        obtain ⟨M', e2, hX', hf⟩ := ih (k + 1) (sI M (c + 2) k (nI 3)) (by omega) (by omega) (by
          have h := XK_z hX k 3
          refine ⟨h.1, h.2.1, h.2.2.1, fun j hj => ?_, h.2.2.2.2⟩
          rw [h.2.2.2.1 j hj]
          show nI (un (fun j => if (lot.testBit j && decide (j < k)) = true then 3 else bz b j) k 3 j) = nI (if (lot.testBit j && decide (j < k + 1)) = true then 3 else bz b j)
          unfold un
          by_cases e : j = k
          · subst e; rw [if_pos rfl, hb, decide_eq_true (by omega)]; rfl
          · rw [if_neg e, show decide (j < k + 1) = decide (j < k) from decide_eq_decide.mpr (by omega)])
        refine ⟨M', e2, hX', fun a ha => by rw [hf.1 a ha, sI_n (by omega)], fun j hj => by rw [hf.2 j hj, sI_n (by omega)]⟩
theorem setFree_c {c : Nat} {b : Sb} {M : Mm} (hX : XK c b M) (hO : OK b) {lot : Nat} (hl : lot < 4096) : ∃ M', fX0_setFree c (nI lot) M = some ((), M') ∧ XK c (doE b lot) M' ∧ FrC c M M' := by
  obtain ⟨M1, e1, hX1, hf⟩ := setFree_b (c := c) (b := b) hl fu 0 M (by omega) (by decide) (by
    refine ⟨hX.1, hX.2.1, hX.2.2.1, fun j hj => ?_, hX.2.2.2.2⟩
    rw [hX.2.2.2.1 j hj]
    show _ = nI (if (lot.testBit j && decide (j < 0)) = true then 3 else bz b j)
    rw [decide_eq_false (by omega), Bool.and_false]; rfl)
  unfold fX0_setFree
  have ht := hO.2.1
  rw [e1, fX0_setFree_b29, hX1.2.1, nI_1', jmin_nI (by decide) (by show bt b + 1 < _; omega)]
  exact ⟨_, rfl, XK_t hX1 (min 9 (bt b + 1)), fun a ha => by rw [sI_n (by omega)]; exact hf.1 a ha, fun j hj => by rw [sI_j _ hj]; exact hf.2 j hj⟩
