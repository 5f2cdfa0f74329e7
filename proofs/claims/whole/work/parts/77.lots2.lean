/-! lots: bits of longs, the class's loops -/
def gb (x : Int64) (t : Nat) : Bool := x.toBitVec.getLsbD t
theorem gb_or (x y : Int64) (t : Nat) : gb (x ||| y) t = (gb x t || gb y t) := by
  unfold gb
  rw [Int64.toBitVec_or, BitVec.getLsbD_or]
theorem gb_and (x y : Int64) (t : Nat) : gb (x &&& y) t = (gb x t && gb y t) := by
  unfold gb
  rw [Int64.toBitVec_and, BitVec.getLsbD_and]
theorem sm64 : ∀ t, t < 64 → (((nI t).toInt64 &&& 63).toBitVec.smod 64).toNat = t := by decide +kernel
theorem su64 : ∀ t, t < 64 → (((nI t).toInt64.toUInt64 &&& Int64.toUInt64 63).toBitVec % 64).toNat = t := by decide +kernel
theorem gb_shl {x : Int64} {c t : Nat} (hc : c < 64) (ht : t < 64) : gb (jlshl x (nI c)) t = (!decide (t < c) && gb x (t - c)) := by
  show (x.toBitVec <<< (((nI c).toInt64 &&& 63).toBitVec.smod 64).toNat).getLsbD t = _
  rw [sm64 c hc, BitVec.getLsbD_shiftLeft, decide_eq_true ht, Bool.true_and]
  rfl
theorem ushr_e (x : Int64) (y : Int32) (k : Nat) (hs : ((y.toInt64.toUInt64 &&& Int64.toUInt64 63).toBitVec % 64).toNat = k) : (jlushr x y).toBitVec = x.toBitVec >>> k := by
  rw [← hs]
  exact UInt64.toBitVec_shiftRight _ _
theorem gb_ushr {x : Int64} {t : Nat} (ht : t < 64) : gb (jlushr x (nI t)) 0 = gb x t := by
  unfold gb
  rw [ushr_e x (nI t) t (su64 t ht), BitVec.getLsbD_ushiftRight, Nat.add_zero]
theorem gb_1 : ∀ j, j < 64 → gb (lN 1) j = decide (j = 0) := by decide +kernel
theorem gb_0 : ∀ j, j < 64 → gb (lN 0) j = false := by decide +kernel
theorem gb_m : ∀ j, j < 64 → gb (-1 : Int64) j = true := by decide +kernel
theorem gb_lk : ∀ i, i < 6 → ∀ u, u < 64 → gb (lkF i) u = !u.testBit i := by decide +kernel
theorem gb_one {a : Int64} : a &&& lN 1 = lN 1 ↔ gb a 0 = true := by
  constructor
  · intro h
    have e : gb (a &&& lN 1) 0 = gb (lN 1) 0 := by rw [h]
    rw [gb_and, gb_1 0 (by decide)] at e
    simpa using e
  · intro h
    apply i64_ext
    intro i hi
    show gb (a &&& lN 1) i = gb (lN 1) i
    rw [gb_and, gb_1 i hi]
    by_cases q : i = 0
    · subst q; rw [h]; rfl
    · rw [decide_eq_false q, Bool.and_false]
theorem gb_2k {t j : Nat} (ht : t < 64) (hj : j < 64) : gb (jlshl (lN 1) (nI t)) j = decide (t = j) := by
  rw [gb_shl ht hj, gb_1 _ (by omega)]
  by_cases q : t = j
  · subst q; simp
  · rw [decide_eq_false q]
    by_cases q2 : j < t
    · rw [decide_eq_true q2]; rfl
    · rw [decide_eq_false (by omega : ¬ j - t = 0), Bool.and_false]
theorem le_bit : ∀ i, i < 6 → ∀ t, t < 64 → (!decide (t < 2 ^ i) && !(t - 2 ^ i).testBit i) = t.testBit i := by decide +kernel
theorem le_del : ∀ i, i < 6 → ∀ t, t < 64 → t.testBit i = true → t - 2 ^ i = dif t (2 ^ i) := by decide +kernel
theorem wg_step {x : Int64} {i t : Nat} (hi : i < 6) (ht : t < 64) : gb (x ||| jlshl (x &&& lkF i) (nI (2 ^ i))) t = (gb x t || (t.testBit i && gb x (dif t (2 ^ i)))) := by
  have hP : 2 ^ i ≤ 2 ^ 5 := Nat.pow_le_pow_right (by decide) (by omega)
  rw [gb_or, gb_shl (by omega) ht, gb_and, gb_lk i hi _ (Nat.lt_of_le_of_lt (Nat.sub_le _ _) ht)]
  congr 1
  have h1 := le_bit i hi t ht
  cases hb : t.testBit i
  · rw [hb] at h1
    cases hd : decide (t < 2 ^ i)
    · rw [hd] at h1
      have : (t - 2 ^ i).testBit i = true := by simpa using h1
      rw [this]; simp
    · rfl
  · rw [hb, Bool.and_eq_true] at h1
    rw [h1.1, h1.2, le_del i hi t ht hb]; simp
theorem wg_5 {x : Int64} (M : Mm) : ∀ f i v, i ≤ 6 → 6 < i + f → (∀ t, t < 64 → (gb v t = true ↔ ∃ q, q < 64 ∧ Su q t ∧ (∀ j, i ≤ j → q.testBit j = t.testBit j) ∧ gb x q = true)) → ∃ w, fX2_withGreaterLots_b5 f v (nI i) M = some (w, M) ∧ ∀ t, t < 64 → (gb w t = true ↔ ∃ q, q < 64 ∧ Su q t ∧ gb x q = true) := by
  intro f
  induction f with
  | zero => intro i v h1 h2; omega
  | succ f ih =>
    intro i v h1 h2 h
    rw [fX2_withGreaterLots_b5]
    by_cases hi : i = 6
    · subst hi
      rw [if_pos (by decide)]
      refine ⟨v, rfl, fun t ht => (h t ht).trans ⟨fun ⟨q, a, b, _, d⟩ => ⟨q, a, b, d⟩, fun ⟨q, a, b, d⟩ => ⟨q, a, b, fun j hj => ?_, d⟩⟩⟩
      rw [Nat.testBit_lt_two_pow (Nat.lt_of_lt_of_le (show q < 2 ^ 6 from a) (Nat.pow_le_pow_right (n := 2) (by decide) hj)), Nat.testBit_lt_two_pow (Nat.lt_of_lt_of_le (show t < 2 ^ 6 from ht) (Nat.pow_le_pow_right (n := 2) (by decide) hj))]
    · have hi' : i < 6 := by omega
      rw [if_neg (nI_ge hi' (by decide)), gd_of (inb_nI hi' (by decide)), nI_clamp (by omega), j2k (by omega), nI_1']
      refine ih (i + 1) _ (by omega) (by omega) (fun t ht => ?_)
      rw [wg_step hi' ht, Bool.or_eq_true, Bool.and_eq_true]
      have hdl : dif t (2 ^ i) < 64 := Nat.lt_of_le_of_lt (Su_le (del_su t i)) ht
      constructor
      · rintro (g | ⟨g1, g2⟩)
        · obtain ⟨q, a, b, c, d⟩ := (h t ht).mp g
          exact ⟨q, a, b, fun j hj => c j (by omega), d⟩
        · obtain ⟨q, a, b, c, d⟩ := (h _ hdl).mp g2
          refine ⟨q, a, b.trans (del_su t i), fun j hj => ?_, d⟩
          rw [c j (by omega), del_bit, decide_eq_false (by omega : ¬ i = j)]; simp
      · rintro ⟨q, a, b, c, d⟩
        cases hq : q.testBit i
        · cases htb : t.testBit i
          · refine Or.inl ((h t ht).mpr ⟨q, a, b, fun j hj => ?_, d⟩)
            by_cases e : j = i
            · subst e; rw [hq, htb]
            · exact c j (by omega)
          · refine Or.inr ⟨rfl, (h _ hdl).mpr ⟨q, a, del_in b hq, fun j hj => ?_, d⟩⟩
            rw [del_bit]
            by_cases e : j = i
            · subst e; rw [hq, decide_eq_true rfl]; simp
            · rw [c j (by omega), decide_eq_false (fun z => e z.symm)]; simp
        · refine Or.inl ((h t ht).mpr ⟨q, a, b, fun j hj => ?_, d⟩)
          by_cases e : j = i
          · subst e; rw [hq, b _ hq]
          · exact c j (by omega)
theorem wg_c (x : Int64) (M : Mm) : ∃ w, fX2_withGreaterLots x M = some (w, M) ∧ ∀ t, t < 64 → (gb w t = true ↔ ∃ q, q < 64 ∧ Su q t ∧ gb x q = true) := by
  unfold fX2_withGreaterLots
  refine wg_5 (x := x) M fu 0 x (by omega) (by decide) (fun t ht => ⟨fun h => ⟨t, ht, Su.refl _, fun _ _ => rfl, h⟩, fun ⟨q, a, b, c, d⟩ => ?_⟩)
  have e : q = t := Nat.eq_of_testBit_eq (fun j => c j (Nat.zero_le _))
  rw [← e]; exact d
/-- what evenWith holds -/
def E17 (b : Sb) (N : Nat) (M : Mm) : Prop := ∀ o, o < N → ∀ t, t < 64 → (gb (M.2 17 o) t = true ↔ Evn b o t)
theorem lew_5 {b : Sb} {M : Mm} {o : Nat} (hO : OK b) (hW : WL b M) (ho : o < 64) : ∀ f k v, 1 ≤ k → k ≤ 64 → 64 < k + f → (∀ t, t < 64 → (gb v t = true ↔ 0 < t ∧ t < k ∧ Su t (TT b) ∧ sw b 6 t = sw b 0 o)) → ∃ w, fX2_lotsEvenWith_b5 f (nI o) v (nI k) M = some (w, M) ∧ ∀ t, t < 64 → (gb w t = true ↔ 0 < t ∧ Su t (TT b) ∧ sw b 6 t = sw b 0 o) := by
  intro f
  induction f with
  | zero => intro k v h1 h2 h3; omega
  | succ f ih =>
    intro k v h1 h2 h3 h
    rw [fX2_lotsEvenWith_b5]
    by_cases hk : k = 64
    · subst hk
      rw [if_pos (by decide)]
      exact ⟨v, rfl, fun t ht => (h t ht).trans ⟨fun ⟨a, _, c, d⟩ => ⟨a, c, d⟩, fun ⟨a, c, d⟩ => ⟨a, ht, c, d⟩⟩⟩
    · have hk' : k < 64 := by omega
      have hd : dif k (TT b) < 2 ^ 6 := dif_lt (by simpa using hk')
      have e1 : nI (dif k (TT b)) = nI 0 ↔ Su k (TT b) := by rw [nI_z (by omega), Su_dif]
      have s1 := sw_le hO (a := 0) (by omega) o
      have s2 := sw_le hO (a := 6) (by omega) k
      have e2 : nI (sw b 6 k) = nI (sw b 0 o) ↔ sw b 6 k = sw b 0 o := nI_eq (by omega) (by omega)
      rw [if_neg (nI_ge hk' (by decide)), hW.2.1, nI_dif, gd_of (inb_nI hk' (by decide)), gd_of (inb_nI ho (by decide)), nI_clamp (by omega), nI_clamp (by omega), hW.2.2.1 o ho, hW.2.2.2 k hk', nI_1']
      have no : ¬ (Su k (TT b) ∧ sw b 6 k = sw b 0 o) → ∃ w, fX2_lotsEvenWith_b5 f (nI o) v (nI (k + 1)) M = some (w, M) ∧ ∀ t, t < 64 → (gb w t = true ↔ 0 < t ∧ Su t (TT b) ∧ sw b 6 t = sw b 0 o) := fun hn =>
        ih (k + 1) v (by omega) (by omega) (by omega) (fun t ht => (h t ht).trans ⟨fun ⟨a, b', c, d⟩ => ⟨a, by omega, c, d⟩, fun ⟨a, b', c, d⟩ => ⟨a, by
          rcases Nat.lt_or_ge t k with q | q
          · exact q
          · have : t = k := by omega
            subst this
            exact absurd ⟨c, d⟩ hn, c, d⟩⟩)
      by_cases q1 : Su k (TT b)
      · rw [if_pos (e1.mpr q1)]
        by_cases q2 : sw b 6 k = sw b 0 o
        · rw [if_pos (e2.mpr q2)]
          refine ih (k + 1) _ (by omega) (by omega) (by omega) (fun t ht => ?_)
          rw [gb_or, gb_2k hk' ht, Bool.or_eq_true, h t ht, decide_eq_true_eq]
          constructor
          · rintro (⟨a, b', c, d⟩ | rfl)
            · exact ⟨a, by omega, c, d⟩
            · exact ⟨by omega, by omega, q1, q2⟩
          · rintro ⟨a, b', c, d⟩
            by_cases e : k = t
            · exact Or.inr e
            · exact Or.inl ⟨a, by omega, c, d⟩
        · rw [if_neg (fun z => q2 (e2.mp z))]
          exact no (fun z => q2 z.2)
      · rw [if_neg (fun z => q1 (e1.mp z))]
        exact no (fun z => q1 z.1)
theorem me_2 {b : Sb} (hO : OK b) : ∀ f o M, o ≤ 64 → 64 < o + f → WL b M → E17 b o M → ∃ M', fX2_markEven_b2 f (nI o) M = some ((), M') ∧ E17 b 64 M' ∧ M'.1 = M.1 := by
  intro f
  induction f with
  | zero => intro o M h1 h2; omega
  | succ f ih =>
    intro o M h1 h2 hW hE
    rw [fX2_markEven_b2]
    by_cases hk : o = 64
    · subst hk
      rw [if_pos (by decide)]
      exact ⟨M, rfl, hE, rfl⟩
    · have ho : o < 64 := by omega
      have hg : inb (nI o) 64 = true := inb_nI ho (by decide)
      have hd : dif o (OO b) < 2 ^ 6 := dif_lt (by simpa using ho)
      have e0 : nI o = nI 0 ↔ o = 0 := nI_z (by omega)
      have e1 : nI (dif o (OO b)) = nI 0 ↔ Su o (OO b) := by rw [nI_z (by omega), Su_dif]
      have go : ∀ w, (∀ t, t < 64 → (gb w t = true ↔ Evn b o t)) → ∃ M', fX2_markEven_b2 f (nI (o + 1)) (sL M 17 o w) = some ((), M') ∧ E17 b 64 M' ∧ M'.1 = M.1 := by
        intro w hw
        exact ih (o + 1) (sL M 17 o w) (by omega) (by omega) hW (fun p hp t ht => by
          rw [sL_g]
          by_cases e : p = o
          · subst e; rw [if_pos ⟨rfl, rfl⟩]; exact hw t ht
          · rw [if_neg (fun z => e z.2)]; exact hE p (by omega) t ht)
      rw [if_neg (nI_ge ho (by decide)), gd_of hg, nI_clamp (by omega), nI_1', hW.1, nI_dif]
      by_cases q0 : o = 0
      · rw [if_pos (e0.mpr q0)]
        exact go _ (fun t ht => by
          rw [gb_0 t ht]
          exact ⟨fun z => (by cases z), fun z => absurd z.1 (by omega)⟩)
      · rw [if_neg (fun z => q0 (e0.mp z))]
        by_cases q1 : Su o (OO b)
        · rw [if_pos (e1.mpr q1)]
          obtain ⟨w, w1, w2⟩ := lew_5 hO hW ho fu 1 (lN 0) (by decide) (by decide) (by decide) (fun t ht => by
            rw [gb_0 t ht]
            exact ⟨fun z => (by cases z), fun z => absurd z.2.1 (by have := z.1; omega)⟩)
          unfold fX2_lotsEvenWith
          rw [w1, bd_s, gd_of hg]
          exact go w (fun t ht => (w2 t ht).trans ⟨fun ⟨a, c, d⟩ => ⟨by omega, ho, a, ht, q1, c, d⟩, fun z => ⟨z.2.2.1, z.2.2.2.2.2.1, z.2.2.2.2.2.2⟩⟩)
        · rw [if_neg (fun z => q1 (e1.mp z))]
          exact go _ (fun t ht => by
            rw [gb_0 t ht]
            exact ⟨fun z => (by cases z), fun z => absurd z.2.2.2.2.1 q1⟩)
def RN (b : Sb) (c n N : Nat) (M : Mm) : Prop := ∀ o, o < N → ∀ t, t < 64 → (gb (M.2 c o) t = true ↔ Rom b n o t)
theorem mr_16 {b : Sb} {M : Mm} {n o : Nat} (ho : o < 64) (h18 : RN b 18 n 64 M) (h19 : RN b 19 (n + 1) o M) (nx : Int32 → Mm → Option (Unit × Mm)) : ∀ f k L A, k ≤ 6 → 6 < k + f → (∀ t, t < 64 → (gb L t = true ↔ ∃ i, i < k ∧ o.testBit i = true ∧ Rom b n (dif o (2 ^ i)) t)) → (∀ t, t < 64 → (gb A t = true ↔ ∃ i, i < k ∧ o.testBit i = true ∧ Rom b (n + 1) (dif o (2 ^ i)) t)) → ∃ L' A', fX2_makeRoomForOneMore_b16 nx f (nI o) L A (nI k) M = fX2_makeRoomForOneMore_b67 nx (nI o) L' A' M ∧ (∀ t, t < 64 → (gb L' t = true ↔ ∃ i, i < 6 ∧ o.testBit i = true ∧ Rom b n (dif o (2 ^ i)) t)) ∧ ∀ t, t < 64 → (gb A' t = true ↔ ∃ i, i < 6 ∧ o.testBit i = true ∧ Rom b (n + 1) (dif o (2 ^ i)) t) := by
  intro f
  induction f with
  | zero => intro k L A h1 h2; omega
  | succ f ih =>
    intro k L A h1 h2 hL hA
    rw [fX2_makeRoomForOneMore_b16]
    by_cases hk : k = 6
    · subst hk
      rw [if_pos (by decide)]
      exact ⟨L, A, rfl, hL, hA⟩
    · have hk' : k < 6 := by omega
      have hdl : dif o (2 ^ k) ≤ o := Su_le (del_su o k)
      have e1 : nI (dif o (2 ^ k)) = nI o ↔ dif o (2 ^ k) = o := nI_eq (by omega) (by omega)
      rw [if_neg (nI_ge hk' (by decide)), j2k (by omega), nI_dif, nI_1', gd_of (inb_nI (by omega) (by decide)), gd_of (inb_nI (by omega) (by decide)), nI_clamp (by omega)]
      cases hb : o.testBit k
      · have e : dif o (2 ^ k) = o := by
          apply Nat.eq_of_testBit_eq
          intro i
          rw [del_bit]
          by_cases q : k = i
          · subst q; rw [hb]; rfl
          · rw [decide_eq_false q]; simp
        rw [if_pos (e1.mpr e)]
        have ext : ∀ m t, (∃ i, i < k + 1 ∧ o.testBit i = true ∧ Rom b m (dif o (2 ^ i)) t) ↔ ∃ i, i < k ∧ o.testBit i = true ∧ Rom b m (dif o (2 ^ i)) t := by
          intro m t
          constructor
          · rintro ⟨i, a, c, d⟩
            have hne : ¬ i = k := fun z => by
              rw [z, hb] at c
              cases c
            exact ⟨i, by omega, c, d⟩
          · rintro ⟨i, a, c, d⟩
            exact ⟨i, by omega, c, d⟩
        exact ih (k + 1) L A (by omega) (by omega) (fun t ht => (hL t ht).trans (ext n t).symm) (fun t ht => (hA t ht).trans (ext (n + 1) t).symm)
      · have hlt := del_lt hb
        rw [if_neg (fun z => by have := e1.mp z; omega)]
        have ext : ∀ m t, (∃ i, i < k + 1 ∧ o.testBit i = true ∧ Rom b m (dif o (2 ^ i)) t) ↔ (∃ i, i < k ∧ o.testBit i = true ∧ Rom b m (dif o (2 ^ i)) t) ∨ Rom b m (dif o (2 ^ k)) t := fun m t => ⟨fun ⟨i, a, c, d⟩ => by
          by_cases q : i = k
          · subst q; exact Or.inr d
          · exact Or.inl ⟨i, by omega, c, d⟩, fun z => by
          rcases z with ⟨i, a, c, d⟩ | d
          · exact ⟨i, by omega, c, d⟩
          · exact ⟨k, by omega, hb, d⟩⟩
        refine ih (k + 1) _ _ (by omega) (by omega) (fun t ht => ?_) (fun t ht => ?_)
        · rw [gb_or, Bool.or_eq_true, hL t ht, h18 _ (by omega) t ht, ext n t]
        · rw [gb_or, Bool.or_eq_true, hA t ht, h19 _ hlt t ht, ext (n + 1) t]
theorem mr_2 {b : Sb} {n : Nat} : ∀ f o M, o ≤ 64 → 64 < o + f → E17 b 64 M → RN b 18 n 64 M → RN b 19 (n + 1) o M → ∃ M', fX2_makeRoomForOneMore_b2 f (nI o) M = some ((), M') ∧ E17 b 64 M' ∧ RN b 18 (n + 1) 64 M' ∧ M'.1 = M.1 := by
  intro f
  induction f with
  | zero => intro o M h1 h2; omega
  | succ f ih =>
    intro o M h1 h2 hE h18 h19
    rw [fX2_makeRoomForOneMore_b2]
    by_cases hk : o = 64
    · subst hk
      rw [if_pos (by decide)]
      unfold fX2_makeRoomForOneMore_b93
      rw [show (nI 64).toNatClampNeg = 64 by decide]
      refine ⟨_, rfl, fun p hp t ht => ?_, fun p hp t ht => ?_, rfl⟩
      · have e : (cpL M 19 18 64).2 17 p = M.2 17 p := by simp [cpL]
        rw [e]; exact hE p hp t ht
      · have e : (cpL M 19 18 64).2 18 p = M.2 19 p := by simp [cpL, hp]
        rw [e]; exact h19 p hp t ht
    · have ho : o < 64 := by omega
      have hg : inb (nI o) 64 = true := inb_nI ho (by decide)
      obtain ⟨L, A, e1, hL, hA⟩ := mr_16 ho h18 h19 (fX2_makeRoomForOneMore_b2 f) fu 0 (lN 0) (lN 0) (by omega) (by decide) (fun t ht => by
        rw [gb_0 t ht]
        exact ⟨fun z => (by cases z), fun ⟨i, a, _⟩ => absurd a (by omega)⟩) (fun t ht => by
        rw [gb_0 t ht]
        exact ⟨fun z => (by cases z), fun ⟨i, a, _⟩ => absurd a (by omega)⟩)
      obtain ⟨w, w1, w2⟩ := wg_c (A ||| M.2 17 o &&& L) M
      rw [if_neg (nI_ge ho (by decide)), e1]
      unfold fX2_makeRoomForOneMore_b67
      rw [gd_of hg, nI_clamp (by omega), w1, bd_s, gd_of hg, nI_1']
      obtain ⟨M1, m1, a1, a2, a3⟩ := ih (o + 1) (sL M 19 o w) (by omega) (by omega) (fun p hp t ht => by rw [sL_n (by decide)]; exact hE p hp t ht) (fun p hp t ht => by rw [sL_n (by decide)]; exact h18 p hp t ht) (fun p hp t ht => by
        rw [sL_g]
        by_cases e : p = o
        · subst e
          rw [if_pos ⟨rfl, rfl⟩, w2 t ht, Rp_step ho ht]
          constructor
          · rintro ⟨q, q1, q2, q3⟩
            rw [gb_or, gb_and, Bool.or_eq_true, Bool.and_eq_true, hA q q1, hL q q1, hE p ho q q1] at q3
            exact ⟨q, q1, q2, q3⟩
          · rintro ⟨q, q1, q2, q3⟩
            refine ⟨q, q1, q2, ?_⟩
            rw [gb_or, gb_and, Bool.or_eq_true, Bool.and_eq_true, hA q q1, hL q q1, hE p ho q q1]
            exact q3
        · rw [if_neg (fun z => e z.2)]; exact h19 p (by omega) t ht)
      exact ⟨M1, m1, a1, a2, a3⟩
theorem mi_23 {b : Sb} (hO : OK b) : ∀ f n M, n ≤ 6 → 6 < n + f → E17 b 64 M → RN b 18 n 64 M → M.1 14 2 = nI (OO b) → M.1 14 3 = nI (TT b) → ∃ M', fX2_mostInARow_b23 1 f (nI (min n (eL b))) (nI (n + 1)) M = some (nI (eL b), M') ∧ M'.1 = M.1 := by
  intro f
  have h6 := eL_6 hO
  induction f with
  | zero => intro n M h1 h2; omega
  | succ f ih =>
    intro n M h1 h2 hE h18 g2 g3
    rw [fX2_mostInARow_b23]
    by_cases hn : n = 6
    · subst hn
      rw [if_pos (by decide), Nat.min_eq_right h6]
      exact ⟨M, rfl, rfl⟩
    · rw [if_neg (nI_nlt (by omega) (by omega))]
      unfold fX2_makeRoomForOneMore
      obtain ⟨M1, m1, a1, a2, a3⟩ := mr_2 (b := b) (n := n) fu 0 M (by omega) (by decide) hE h18 (fun p hp => absurd hp (by omega))
      have oo := OO_lt b
      have tt := TT_lt b
      rw [m1, bd_s, a3, g2, g3, gd_of (inb_nI oo (by decide)), nI_clamp (by omega), nI_1']
      have key : lg_cmp (jlushr (M1.2 18 (OO b)) (nI (TT b)) &&& lN 1) (lN 1) = nI 0 ↔ n + 1 ≤ eL b := by
        rw [lgn_eq, gb_one, gb_ushr tt, a2 _ oo _ tt, eL_Rp hO]
      obtain ⟨M2, m2, f2⟩ := ih (n + 1) M1 (by omega) (by omega) a1 a2 (by rw [a3]; exact g2) (by rw [a3]; exact g3)
      refine ⟨M2, ?_, by rw [f2, a3]⟩
      by_cases q : n + 1 ≤ eL b
      · rw [if_pos (key.mpr q)]
        rw [Nat.min_eq_left q] at m2
        exact m2
      · rw [if_neg (fun z => q (key.mp z)), Nat.min_eq_right (by omega)]
        rw [Nat.min_eq_right (by omega)] at m2
        exact m2
theorem mostRow_c {b : Sb} {M : Mm} (hX : XK 1 b M) (hO : OK b) (hZ : Zc M) : ∃ M', fX2_mostInARow 1 M = some (nI (eL b), M') ∧ FrW M M' ∧ Zc M' := by
  unfold fX2_mostInARow fX2_markEven
  obtain ⟨M1, e1, w1, f1⟩ := weighLots_c hX hO hZ
  obtain ⟨M2, e2, a2, f2⟩ := me_2 hO fu 0 M1 (by omega) (by decide) w1 (fun p hp => absurd hp (by omega))
  obtain ⟨M3, e3, c3, f3, g3⟩ := fill_c (c := 18) (n0 := 64) (x := (-1 : Int64)) (by decide) M2
  rw [e1, bd_s, e2, bd_s, e3, bd_s]
  have hf : M3.1 = M1.1 := by rw [f3, f2]
  obtain ⟨M4, e4, f4⟩ := mi_23 hO fu 0 M3 (by omega) (by decide) (fun p hp t ht => by rw [g3 17 (by decide)]; exact a2 p hp t ht) (fun p hp t ht => by
    rw [c3 p hp, gb_m t ht]
    exact ⟨fun _ => trivial, fun _ => rfl⟩) (by rw [hf]; exact w1.1) (by rw [hf]; exact w1.2.1)
  rw [Nat.zero_min] at e4
  have h14 : M4.1 = M1.1 := by rw [f4, hf]
  have z1 := WL_Zc w1
  exact ⟨M4, e4, fun a ha => by rw [h14]; exact f1 a ha, by rw [h14]; exact z1.1, by rw [h14]; exact z1.2⟩
/-! the reference's loops -/
theorem lo_63 {b : Sb} {M : Mm} {s : Nat} (hs : s < 4096) (hE : ∀ k, s.testBit k = true → M.1 13 (dif s (2 ^ k)) = nI (ev b (dif s (2 ^ k)))) (nx : Int32 → Int32 → Mm → Option (Int32 × Mm)) (v1 : Int32) : ∀ f k, k ≤ 12 → 12 < k + f → fX9_lots_b63 nx f v1 (nI s) (nI (mx (ev b) s k)) (nI k) M = fX9_lots_b118 nx v1 (nI s) (nI (mx (ev b) s 12)) M := by
  intro f
  induction f with
  | zero => intro k h1 h2; omega
  | succ f ih =>
    intro k h1 h2
    rw [fX9_lots_b63]
    by_cases hk : k = 12
    · subst hk; rw [if_pos (by decide)]
    · have hk' : k < 12 := by omega
      have e1 := ih (k + 1) (by omega) (by omega)
      rw [mx] at e1
      have hm : mx (ev b) s k ≤ 4096 := mx_le (fun j hj => by
        have h1 := ev_le b (dif s (2 ^ j))
        have h2 := del_lt hj
        omega) k
      have hdl : dif s (2 ^ k) ≤ s := Su_le (del_su s k)
      have hel := ev_le b (dif s (2 ^ k))
      unfold fX9_lots_b97
      rw [if_neg (nI_ge hk' (by decide)), jbit (by omega) (by omega), ib1, j2k (by omega), nI_dif, gd_of (inb_nI (by omega) (by decide)), nI_clamp (by omega), nI_1']
      cases hb : s.testBit k
      · rw [hb, if_neg (by decide), Nat.max_eq_left (Nat.zero_le _)] at e1
        rw [if_neg (by decide), if_pos (nI_le (Nat.zero_le _) (by omega))]
        exact e1
      · rw [hb, if_pos rfl] at e1
        rw [if_pos rfl, hE k hb]
        by_cases q : ev b (dif s (2 ^ k)) ≤ mx (ev b) s k
        · rw [if_pos (nI_le q (by omega))]
          rw [Nat.max_eq_left q] at e1
          exact e1
        · rw [if_neg (nI_ge (by omega) (by omega))]
          rw [Nat.max_eq_right (by omega)] at e1
          exact e1
theorem lo_43 {b : Sb} {P : Nat} (hO : OK b) (hP : P < 4096) : ∀ f r n M, n + r = 4096 → r < f → 1 ≤ n → MK b M → (∀ s, s < n → Su s P → M.1 13 s = nI (ev b s)) → ∃ M', fX9_lots_b43 f (nI P) (nI n) M = some (nI (ev b P), M') ∧ ∀ a, a ≠ 13 → M'.1 a = M.1 a := by
  intro f
  induction f with
  | zero => intro r n M _ h; omega
  | succ f ih =>
    intro r n M hn hr h1 hM hE
    rw [fX9_lots_b43]
    cases r with
    | zero =>
      rw [if_pos (nI_le (by omega) (by omega)), gd_of (inb_nI hP (by decide)), nI_clamp (by omega), hE P (by omega) (Su.refl _)]
      exact ⟨M, rfl, fun _ _ => rfl⟩
    | succ r =>
      have hn' : n < 4096 := by omega
      have hd : dif n P < 2 ^ 12 := dif_lt (by simpa using hn')
      have e1 : nI (dif n P) = nI 0 ↔ Su n P := by rw [nI_z (by omega), Su_dif]
      rw [if_neg (nI_ge hn' (by decide)), nI_dif, nI_1']
      by_cases q : Su n P
      · rw [if_pos (e1.mpr q)]
        have h63 := lo_63 (b := b) (M := M) hn' (fun k hk => hE _ (del_lt hk) ((del_su n k).trans q)) (fX9_lots_b43 f) (nI P) fu 0 (by omega) (by decide)
        have h63 : fX9_lots_b63 (fX9_lots_b43 f) fu (nI P) (nI n) (nI 0) (nI 0) M = _ := h63
        rw [h63]
        unfold fX9_lots_b118
        rw [worthOf_s hM hO (by omega), bd_s, gd_of (inb_nI hn' (by decide)), gd_of (inb_nI hn' (by decide)), nI_clamp (by omega), nI_1', nI_add, nI_add]
        have go : ∀ c, c = cz b n → ∃ M', fX9_lots_b43 f (nI P) (nI (n + 1)) (sI M 13 n (nI (mx (ev b) n 12 + c))) = some (nI (ev b P), M') ∧ ∀ a, a ≠ 13 → M'.1 a = M.1 a := by
          intro c hc
          have hev := ev_s b (show ¬ n = 0 by omega)
          obtain ⟨M1, m1, f1⟩ := ih r (n + 1) (sI M 13 n (nI (mx (ev b) n 12 + c))) (by omega) (by omega) (by omega) (MK_fr (by rw [sI_n (by decide)]) (by rw [sI_n (by decide)]) (sI_n (by decide)) (sI_n (by decide)) (sI_n (by decide)) hM) (fun s hs hsu => by
            rw [sI_g]
            by_cases e : s = n
            · subst e; rw [if_pos ⟨rfl, rfl⟩, hev, hc]
            · rw [if_neg (fun z => e z.2)]; exact hE s (by omega) hsu)
          exact ⟨M1, m1, fun a ha => by rw [f1 a ha, sI_n ha]⟩
        have ez := ld_z hO n.testBit
        by_cases q2 : ld b n.testBit = 0
        · rw [if_pos (ez.mpr q2)]
          exact go 1 (by unfold cz; rw [if_pos q2])
        · rw [if_neg (fun z => q2 (ez.mp z))]
          exact go 0 (by unfold cz; rw [if_neg q2])
      · rw [if_neg (fun z => q (e1.mp z))]
        exact ih r (n + 1) M (by omega) (by omega) (by omega) hM (fun s hs hsu => by
          by_cases e : s = n
          · subst e; exact absurd hsu q
          · exact hE s (by omega) hsu)
theorem lo_4 {b : Sb} {M : Mm} (hO : OK b) (hM : MK b M) : ∀ f k, k ≤ 12 → 12 < k + f → fX9_lots_b4 f (nI (bs (op b) k)) (nI k) M = fX9_lots_b43 fu (nI (bs (op b) 12)) (nI 1) (sI M 13 0 (nI 0)) := by
  intro f
  induction f with
  | zero => intro k h1 h2; omega
  | succ f ih =>
    intro k h1 h2
    rw [fX9_lots_b4]
    by_cases hk : k = 12
    · subst hk; rw [if_pos (by decide), show (nI 0).toNatClampNeg = 0 by decide]
    · have hk' : k < 12 := by omega
      have e1 := ih (k + 1) (by omega) (by omega)
      rw [bs] at e1
      rw [if_neg (nI_ge hk' (by decide)), isOpen_k hM hO hk', bd_s, ib0, j2k (by omega), nI_or, nI_or, nI_1']
      cases ho : op b k
      · rw [ho] at e1
        rw [if_neg (by decide)]
        rw [if_neg (by decide)] at e1
        exact e1
      · rw [ho] at e1
        rw [if_pos rfl]
        rw [if_pos rfl] at e1
        exact e1
theorem op_lots : Op_lots Rl2 := by
  intro Mx M_ ⟨⟨S, hS, hX, hM⟩, hZ⟩
  have hO := hS.1
  unfold fX8_lots fX9_lots
  obtain ⟨M1, e1, f1, z1⟩ := mostRow_c hX.1 hO hZ
  have h4 := lo_4 hO hM.1 fu 0 (by omega) (by decide)
  have h4 : fX9_lots_b4 fu (nI 0) (nI 0) M_ = _ := h4
  obtain ⟨M2, e2, f2⟩ := lo_43 (b := S.1) (P := bs (op S.1) 12) hO (bs_lt _ 12) fu 4095 1 (sI M_ 13 0 (nI 0)) (by omega) (by decide) (by decide) (MK_fr (by rw [sI_n (by decide)]) (by rw [sI_n (by decide)]) (sI_n (by decide)) (sI_n (by decide)) (sI_n (by decide)) hM.1) (fun s hs _ => by
    have : s = 0 := by omega
    subst this
    rw [sI_s, ev_0])
  rw [e1, bd_s, h4, e2, OP_eq]
  have q : ∀ a, a ≠ 13 → M2.1 a = M_.1 a := fun a ha => by rw [f2 a ha, sI_n ha]
  exact ⟨_, _, _, rfl, rfl, ⟨S, hS, RX_fr (fun a ha => f1 a (by omega)) hX, RM_hk hM (MK_fr (by rw [q 0 (by decide)]) (by rw [q 0 (by decide)]) (q 1 (by decide)) (q 2 (by decide)) (q 3 (by decide)) hM.1) (fun j _ => by rw [q 0 (by decide)]) (fun a ha => q a (by omega))⟩, z1⟩
