/-! acts, reference side -/
def FrM (M M' : Mm) : Prop := (∀ a, ¬ a ≤ 2 → M'.1 a = M.1 a) ∧ ∀ j, j ≠ 1 → j ≠ 15 → j ≠ 16 → M'.1 0 j = M.1 0 j
theorem dif_2k {p k : Nat} : dif (2 ^ k) p = 0 ↔ p.testBit k = true := by
  rw [dif_zero]
  constructor
  · intro h; exact h k (by rw [Nat.testBit_two_pow]; simp)
  · intro h i hi
    rw [Nat.testBit_two_pow] at hi
    have : k = i := by simpa using hi
    subst this; exact h
theorem bool_gd {b : Bool} : decide (nI b.toNat = nI 0 ∨ nI b.toNat = nI 1) = true := by cases b <;> rfl
theorem canDeed_k {b : Sb} {M : Mm} (hX : MK b M) (hO : OK b) {k d : Nat} (hk : k < 12) (hd : d < 4) (ht : th b k = true) : fX9_canDeed (nI d) (nI k) M = some (nI (okst d (bz b k)).toNat, M) := by
  unfold fX9_canDeed
  have hz := hO.2.2.2.1 k hk
  have e0 : nI (bz b k) = nI 0 ↔ bz b k = 0 := nI_eq (by omega) (by decide)
  have e1 : nI (bz b k) = nI 1 ↔ bz b k = 1 := nI_eq (by omega) (by decide)
  rw [gd_of (inb_nI hk (by decide)), gd_of (inb_nI hk (by decide)), nI_clamp (by omega), hX.2.2.2.1 k hk, isOut_k hX hO hk, isOpen_k hX hO hk, bd_s, bd_s, gd_of bool_gd, gd_of bool_gd]
  simp only [e0, e1]
  have eo : op b k = decide (bz b k < 3) := by unfold op; rw [ht]; rfl
  have eu : ou b k = (decide (bz b k = 1) || decide (bz b k = 2)) := by unfold ou; rw [ht]; rfl
  rw [eo, eu]
  match d, hd with
  | 0, _ =>
    rw [if_pos rfl]
    by_cases h : bz b k = 0
    · rw [if_pos h, h]; rfl
    · rw [if_neg h]
      have : okst 0 (bz b k) = false := decide_eq_false h
      rw [this]; rfl
  | 1, _ =>
    rw [if_neg (by decide), if_pos rfl]
    by_cases h : bz b k = 1
    · rw [if_pos h, h]; rfl
    · rw [if_neg h]
      have : okst 1 (bz b k) = false := decide_eq_false h
      rw [this]; rfl
  | 2, _ => rfl
  | 3, _ => rfl
theorem whyNot_m {b : Sb} {M : Mm} (hX : MK b M) (hO : OK b) {k d : Nat} (hk : k < 12) (hd : d < 4) : fX9_whyNot (nI d) (nI (2 ^ k)) (nI 0) M = some (nI (whyD b d k), M) := by
  unfold fX9_whyNot fX9_whyNot_b100 whyD
  have hrk := hO.2.2.1 k hk
  have htt := hO.2.1
  have h2 : dif (2 ^ k) (bp b) < 2 ^ 12 := dif_lt (pow_lt4 hk)
  have e1 : nI (dif (2 ^ k) (bp b)) = nI 0 ↔ th b k = true := by rw [nI_z (by omega)]; exact dif_2k
  have e4 : ¬ nI d = nI 4 := fun z => by have := (nI_eq (a := d) (b := 4) (by omega) (by decide)).mp z; omega
  rw [hX.1, nI_dif, if_pos (show nI 0 = nI 0 from rfl), if_neg e4, only_k hk, bd_s]
  simp only [e1]
  cases ht : th b k
  · rfl
  · rw [if_pos rfl, if_neg (by decide), canDeed_k hX hO hk hd ht, bd_s, ib0, gd_of (inb_nI hk (by decide)), nI_clamp (by omega), hX.2.2.1 k hk, hX.2.1]
    have e3 : nI d = nI 3 ↔ d = 3 := nI_eq (by omega) (by decide)
    have e0 : nI d = nI 0 ↔ d = 0 := nI_eq (by omega) (by decide)
    have et : nI (bt b) = nI 0 ↔ bt b = 0 := nI_eq (by omega) (by decide)
    have e5 : nI (br b k) = nI 5 ↔ br b k = 5 := nI_eq (by omega) (by decide)
    simp only [e3, e0, et, e5]
    cases okst d (bz b k)
    · rfl
    · simp only [if_true, Bool.true_eq_false, if_false]
      by_cases h3 : d = 3
      · subst h3
        by_cases h5 : br b k = 5
        · simp [h5]
        · simp [h5]
      · by_cases h0 : d = 0
        · subst h0
          by_cases h : bt b = 0
          · simp [h]
          · simp [h]
        · simp [h3, h0]
theorem whyEx_m {b : Sb} {M : Mm} (hX : MK b M) (hO : OK b) {lot : Nat} (hl : lot < 4096) (tw : Bool) : fX9_whyNot (nI 4) (nI lot) (nI tw.toNat) M = some (nI (whyE b lot tw), M) := by
  unfold fX9_whyNot whyE
  have htt := hO.2.1
  have h2 : dif lot (bp b) < 2 ^ 12 := dif_lt hl
  have e1 : nI (dif lot (bp b)) = nI 0 ↔ dif lot (bp b) = 0 := nI_z (by omega)
  rw [hX.1, nI_dif, ib0, if_pos (show nI 4 = nI 4 from rfl), areAllOpen_s hX hO (by omega), bd_s, ib0, hX.2.1, worthOf_s hX hO (by omega), bd_s]
  have et : nI (bt b) = nI 0 ↔ bt b = 0 := nI_eq (by omega) (by decide)
  simp only [e1, et, ld_z hO]
  by_cases hd : dif lot (bp b) = 0
  · simp only [hd, if_true, not_true, if_false]
    cases tw
    · simp only [Bool.false_eq_true, if_false]
      cases allOp b lot.testBit 12
      · rfl
      · simp only [if_true, Bool.true_eq_false, if_false]
        by_cases h0 : bt b = 0
        · rw [if_pos h0, if_pos h0]
        · rw [if_neg h0, if_neg h0]
          by_cases hz : ld b lot.testBit = 0
          · rw [if_pos hz, if_pos hz]
          · rw [if_neg hz, if_neg hz]
    · rfl
  · simp only [hd, if_false, not_false_eq_true, if_true]
theorem MK_z {b : Sb} {M : Mm} (hX : MK b M) (k v : Nat) : MK ((bp b, bt b, br b, un (bz b) k v, bw b), b.2) (sI M 2 k (nI v)) := by
  obtain ⟨x1, x2, x3, x4, x5⟩ := hX
  exact ⟨by rw [sI_n (by omega)]; exact x1, by rw [sI_n (by omega)]; exact x2, fun j hj => by rw [sI_n (by omega)]; exact x3 j hj, fun j hj => un_nI (x4 j hj), fun j hj => by rw [sI_n (by omega)]; exact x5 j hj⟩
theorem MK_t {b : Sb} {M : Mm} (hX : MK b M) (t : Nat) : MK (sTrust b t) (sI M 0 1 (nI t)) := by
  obtain ⟨x1, x2, x3, x4, x5⟩ := hX
  exact ⟨by rw [sI_j _ (by decide)]; exact x1, sI_s _ _ _ _, fun j hj => by rw [sI_n (by omega)]; exact x3 j hj, fun j hj => by rw [sI_n (by omega)]; exact x4 j hj, fun j hj => by rw [sI_n (by omega)]; exact x5 j hj⟩
theorem MK_r {b : Sb} {M : Mm} (hX : MK b M) (k v : Nat) : MK ((bp b, bt b, un (br b) k v, bz b, bw b), b.2) (sI M 1 k (nI v)) := by
  obtain ⟨x1, x2, x3, x4, x5⟩ := hX
  exact ⟨by rw [sI_n (by omega)]; exact x1, by rw [sI_n (by omega)]; exact x2, fun j hj => un_nI (x3 j hj), fun j hj => by rw [sI_n (by omega)]; exact x4 j hj, fun j hj => by rw [sI_n (by omega)]; exact x5 j hj⟩
theorem MK_0 {b : Sb} {M : Mm} (hX : MK b M) {j : Nat} (hj : 1 < j) (v : Int32) : MK b (sI M 0 j v) := MK_fr (by rw [sI_j _ (by omega)]) (by rw [sI_j _ (by omega)]) (sI_n (by decide)) (sI_n (by decide)) (sI_n (by decide)) hX
theorem happen_d {b : Sb} {M : Mm} (hX : MK b M) (hO : OK b) {k d w : Nat} (hk : k < 12) (hd : d < 4) (h16 : M.1 0 16 = nI w) : ∃ M', fX9_happen (nI d) (nI (2 ^ k)) M = some ((), M') ∧ MK (doD b d k) M' ∧ FrM M M' ∧ M'.1 0 15 = M.1 0 15 ∧ M'.1 0 16 = nI (w + if d = 2 then 1 else 0) := by
  unfold fX9_happen
  have hfz : ∀ v : Int32, FrM M (sI M 2 k v) := fun v => ⟨fun a ha => sI_n (by omega), fun j _ _ _ => by rw [sI_n (by omega)]⟩
  have htt := hO.2.1
  rw [only_k hk, bd_s, bd_s, bd_s, bd_s, gd_of (inb_nI hk (by decide)), gd_of (inb_nI hk (by decide)), gd_of (inb_nI hk (by decide)), nI_clamp (by omega)]
  match d, hd with
  | 0, _ => exact ⟨_, rfl, MK_z hX k 1, hfz _, by rw [sI_n (by decide)], by rw [sI_n (by decide)]; exact h16⟩
  | 1, _ => exact ⟨_, rfl, MK_z hX k 2, hfz _, by rw [sI_n (by decide)], by rw [sI_n (by decide)]; exact h16⟩
  | 2, _ =>
    rw [if_neg (by decide), if_neg (by decide), if_pos rfl]
    unfold fX9_breakWord fX9_breakWord_b25
    rw [gd_of (inb_nI hk (by decide)), nI_clamp (by omega), sI_n (by decide), hX.2.1]
    have et : nI (bt b) = nI 0 ↔ bt b = 0 := nI_eq (by omega) (by decide)
    have key : (if nI (bt b) = nI 0 then some ((), sI (sI (sI M 2 k (nI 4)) 0 1 (nI 0)) 0 16 ((sI (sI M 2 k (nI 4)) 0 1 (nI 0)).1 0 16 + nI 1)) else some ((), sI (sI (sI M 2 k (nI 4)) 0 1 (nI (bt b) - nI 1)) 0 16 ((sI (sI M 2 k (nI 4)) 0 1 (nI (bt b) - nI 1)).1 0 16 + nI 1)) : Option (Unit × Mm)) = some ((), sI (sI (sI M 2 k (nI 4)) 0 1 (nI (bt b - 1))) 0 16 (nI (w + 1))) := by
      have e16 : ∀ v, (sI (sI M 2 k (nI 4)) 0 1 v).1 0 16 + nI 1 = nI (w + 1) := fun v => by rw [sI_j _ (by decide), sI_n (by decide), h16, nI_1']
      rw [e16, e16]
      by_cases h0 : bt b = 0
      · rw [if_pos (et.mpr h0), h0]
      · rw [if_neg (fun z => h0 (et.mp z)), pk_sub (by omega)]
    rw [key, bd_s]
    refine ⟨_, rfl, MK_0 (MK_t (MK_z hX k 4) (bt b - 1)) (by decide) _, ⟨fun a ha => by rw [sI_n (by omega), sI_n (by omega), sI_n (by omega)], fun j h1 h2 h3 => by rw [sI_j _ h3, sI_j _ h1, sI_n (by decide)]⟩, by rw [sI_j _ (by decide), sI_j _ (by decide), sI_n (by decide)], sI_s _ _ _ _⟩
  | 3, _ =>
    rw [if_neg (by decide), if_neg (by decide), if_neg (by decide), if_pos rfl, gd_of (inb_nI hk (by decide)), hX.2.2.1 k hk, nI_1']
    exact ⟨_, rfl, MK_r hX k (br b k + 1), ⟨fun a ha => sI_n (by omega), fun j _ _ _ => by rw [sI_n (by omega)]⟩, by rw [sI_n (by decide)], by rw [sI_n (by decide)]; exact h16⟩
theorem exchange_b {b : Sb} {lot : Nat} (hl : lot < 4096) : ∀ n k M, k ≤ 12 → 12 < k + n → MK ((bp b, bt b, br b, (fun j => if lot.testBit j && decide (j < k) then 3 else bz b j), bw b), b.2) M → ∃ M', fX9_exchange_b2 n (nI lot) (nI k) M = fX9_exchange_b39 M' ∧ MK ((bp b, bt b, br b, (fun j => if lot.testBit j then 3 else bz b j), bw b), b.2) M' ∧ ∀ a, a ≠ 2 → M'.1 a = M.1 a := by
  intro n
  induction n with
  | zero => intro k M h1 h2; omega
  | succ n ih =>
    intro k M h1 h2 hX
    rw [fX9_exchange_b2]
    by_cases hk : k = 12
    · subst hk
      rw [if_pos (by decide)]
      refine ⟨M, rfl, ⟨hX.1, hX.2.1, hX.2.2.1, fun j hj => ?_, hX.2.2.2.2⟩, fun _ _ => rfl⟩
      have := hX.2.2.2.1 j hj
      rw [this]
      show nI (if (lot.testBit j && decide (j < 12)) = true then 3 else bz b j) = nI (if lot.testBit j = true then 3 else bz b j)
      rw [decide_eq_true hj, Bool.and_true]
    · have hk' : k < 12 := by omega
      rw [if_neg (nI_ge hk' (by decide)), jbit (by omega) (by omega), ib1, nI_1', gd_of (inb_nI hk' (by decide)), gd_of (inb_nI hk' (by decide)), gd_of (inb_nI hk' (by decide)), nI_clamp (by omega), hX.2.2.2.1 k hk']
      have hm : ∀ v, (v = if lot.testBit k = true then 3 else bz b k) → MK ((bp b, bt b, br b, (fun j => if lot.testBit j && decide (j < k + 1) then 3 else bz b j), bw b), b.2) (sI M 2 k (nI v)) := by
        intro v hv
        have h := MK_z hX k v
        refine ⟨h.1, h.2.1, h.2.2.1, fun j hj => ?_, h.2.2.2.2⟩
        rw [h.2.2.2.1 j hj]
        show nI (un (fun j => if (lot.testBit j && decide (j < k)) = true then 3 else bz b j) k v j) = nI (if (lot.testBit j && decide (j < k + 1)) = true then 3 else bz b j)
        unfold un
        by_cases e : j = k
        · subst e; rw [if_pos rfl, hv, decide_eq_true (by omega), Bool.and_true]
        · rw [if_neg e, show decide (j < k + 1) = decide (j < k) from decide_eq_decide.mpr (by omega)]
      have hv0 : (if (lot.testBit k && decide (k < k)) = true then 3 else bz b k) = bz b k := by
        rw [decide_eq_false (by omega), Bool.and_false]; rfl
      cases hb : lot.testBit k
      · rw [if_neg (by decide)]
        obtain ⟨M', e2, hX', hf⟩ := ih (k + 1) (sI M 2 k (nI (bz b k))) (by omega) (by omega) (hm _ (by rw [hb]; rfl))
        refine ⟨M', ?_, hX', fun a ha => by rw [hf a ha, sI_n ha]⟩
        rw [← e2]
        show fX9_exchange_b2 n _ _ (sI M 2 k (nI (if (lot.testBit k && decide (k < k)) = true then 3 else bz b k))) = _
        rw [hv0]
      · rw [if_pos rfl]
        obtain ⟨M', e2, hX', hf⟩ := ih (k + 1) (sI M 2 k (nI 3)) (by omega) (by omega) (hm _ (by rw [hb]; rfl))
        exact ⟨M', e2, hX', fun a ha => by rw [hf a ha, sI_n ha]⟩
theorem happen_e {b : Sb} {M : Mm} (hX : MK b M) (hO : OK b) {lot w : Nat} (hl : lot < 4096) (h15 : M.1 0 15 = nI w) : ∃ M', fX9_happen (nI 4) (nI lot) M = some ((), M') ∧ MK (doE b lot) M' ∧ FrM M M' ∧ M'.1 0 15 = nI (w + 1) ∧ M'.1 0 16 = M.1 0 16 := by
  obtain ⟨M1, e1, hX1, hf⟩ := exchange_b (b := b) hl fu 0 M (by omega) (by decide) (by
    refine ⟨hX.1, hX.2.1, hX.2.2.1, fun j hj => ?_, hX.2.2.2.2⟩
    rw [hX.2.2.2.1 j hj]
    show _ = nI (if (lot.testBit j && decide (j < 0)) = true then 3 else bz b j)
    rw [decide_eq_false (by omega), Bool.and_false]; rfl)
  unfold fX9_happen fX9_exchange
  have htt := hO.2.1
  have et : nI (bt b) = nI 9 ↔ bt b = 9 := nI_eq (by omega) (by decide)
  have ht1 : M1.1 0 1 = nI (bt b) := hX1.2.1
  have key : fX9_exchange_b39 M1 = some ((), sI (sI M1 0 1 (nI (min 9 (bt b + 1)))) 0 15 (nI (w + 1))) := by
    unfold fX9_exchange_b39 fX9_exchange_b60
    have e16 : ∀ v, (sI M1 0 1 v).1 0 15 + nI 1 = nI (w + 1) := fun v => by rw [sI_j _ (by decide), hf 0 (by decide), h15, nI_1']
    rw [e16, e16, ht1, nI_1']
    by_cases h9 : bt b = 9
    · rw [if_pos (et.mpr h9), h9]; rfl
    · rw [if_neg (fun z => h9 (et.mp z)), Nat.min_eq_right (by omega)]
  rw [if_neg (by decide), if_neg (by decide), if_neg (by decide), if_neg (by decide), e1, key, bd_s]
  exact ⟨_, rfl, MK_0 (MK_t hX1 (min 9 (bt b + 1))) (by decide) _, ⟨fun a ha => by rw [sI_n (by omega), sI_n (by omega), hf a (by omega)], fun j h1 h2 h3 => by rw [sI_j _ h2, sI_j _ h1, hf 0 (by decide)]⟩, sI_s _ _ _ _, by rw [sI_j _ (by decide), sI_j _ (by decide), hf 0 (by decide)]⟩
